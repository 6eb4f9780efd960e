/-! X11_packedWhisper -/
def fX11_packedWhisper (F : Nat) (v0 : Int32) (v1 : Int32) (v2 : Int32) (μ : zMem) : Option zR :=
  some (((v0 ||| (v1 <<< ((nI 4) &&& 31))) ||| (v2 <<< ((nI 8) &&& 31))), μ)
set_option maxRecDepth 20000 in
set_option maxHeartbeats 4000000 in
theorem wX11_packedWhisper {X : zX} {F : Nat} (hC : zCx X RX11 cX11_packedWhisper 3 0) (hret : zRt X (some .int)) {v0 : Int32} {v1 : Int32} {v2 : Int32} {μ : zMem} (hf : fX11_packedWhisper F v0 v1 v2 μ = some (zOut X)) : zAW X 0 [some (.int v0), some (.int v1), some (.int v2)] [] μ := by
  unfold fX11_packedWhisper at hf
  refine zs_il hC dX11_packedWhisper_0 rfl ?_
  refine zs_il hC dX11_packedWhisper_1 rfl ?_
  refine zs_k hC dX11_packedWhisper_2 ?_
  refine zs_ishl hC dX11_packedWhisper_3 ?_
  refine zs_ior hC dX11_packedWhisper_4 ?_
  refine zs_il hC dX11_packedWhisper_5 rfl ?_
  refine zs_k hC dX11_packedWhisper_6 ?_
  refine zs_ishl hC dX11_packedWhisper_8 ?_
  refine zs_ior hC dX11_packedWhisper_9 ?_
  exact zs_iret hC hret dX11_packedWhisper_10 hf
set_option maxRecDepth 20000 in
set_option maxHeartbeats 4000000 in
theorem ctX11_packedWhisper {E : zEV} {F : Nat} {v0 : Int32} {v1 : Int32} {v2 : Int32} {μ : zMem} {out : zR} (hf : fX11_packedWhisper F v0 v1 v2 μ = some out) : zCt E yX11_packedWhisper cX11_packedWhisper 3 (some .int) 0 [.int v0, .int v1, .int v2] μ out :=
  zCt.of [some (.int v0), some (.int v1), some (.int v2)] (by decide +kernel) (Nat.le_of_ble_eq_true rfl) (zLw_s (zLw_s (zLw_s zLw_0))) rfl (fun X hE ho hr hC => by
    subst hE; subst ho
    exact wX11_packedWhisper hC hr hf)
/-! X10_hasHisTurn -/
def fX10_hasHisTurn_152 (F : Nat) (h1 : Nat) (h2 : Nat) (v3 : Int32) (v4 : Int32) (v7 : Int32) (v8 : Int32) (μ : zMem) : Option zR :=
  zBd (fX11_packedWhisper F v3 v8 v7 μ) (fun r1 m1 => zBd (fX8_prints F h1 v4 r1 m1) (fun r2 m2 => some ((nI 0), m2)))
def fX10_hasHisTurn (F : Nat) (h1 : Nat) (h2 : Nat) (v3 : Int32) (v4 : Int32) (μ : zMem) : Option zR :=
  zG v4 20 (zBd (fX10_looksAt F h1 v3 (μ (h1 + 3) v4.toNatClampNeg) μ) (fun r2 m2 => zBd (fX10_choice F h1 h2 v3 m2) (fun r3 m3 => if r3 = (-1 : Int32) then some ((nI 0), m3) else zBd (fX10_looksAtOther F h1 v3 r3 m3) (fun r4 m4 => zBd (fX10_asked F h2 (nI 109) (nI 10) m4) (fun r5 m5 => zBd (fX8_draw F h1 m5) (fun r6 m6 => zBd (fX10_asked F h2 (nI 104) (nI 10) m6) (fun r7 m7 => if r6 < r7 then zG v3 16 (zG r3 16 (zBd (fJ6_numberOfTrailingZeros_0f7a4 F ((m7 (h1 + 1) v3.toNatClampNeg) &&& ((m7 (h1 + 1) r3.toNatClampNeg) ^^^ (-1 : Int32))) m7) (fun r10 m10 => zG r3 16 (zG r3 16 (zLt (zUp m10 (h1 + 1) r3.toNatClampNeg ((m10 (h1 + 1) r3.toNatClampNeg) ||| ((nI 1) <<< (r10 &&& 31)))) (fun m12 => zG v3 16 (zBd (fJ9_min_7cf53 F ((m12 (h1 + 2) v3.toNatClampNeg) + (nI 1)) (nI 9999) m12) (fun r15 m15 => zG v3 16 (zLt (zUp m15 (h1 + 2) v3.toNatClampNeg r15) (fun m16 => zBd (fX8_draw F h1 m16) (fun r17 m17 => if r5 ≤ r17 then fX10_hasHisTurn_152 F h1 h2 v3 v4 r10 r3 m17 else zBd (fX10_nextTold F h1 v3 r3 m17) (fun r18 m18 => zLt (zUp m18 33 2 ((m18 33 2) + (nI 1))) (fun m20 => fX10_hasHisTurn_152 F h1 h2 v3 v4 r10 r18 m20))))))))))))) else some ((nI 0), m7))))))))
set_option maxRecDepth 20000 in
set_option maxHeartbeats 4000000 in
theorem wX10_hasHisTurn_152 {X : zX} {F h1 h2 : Nat} (hC : zCx X RX10 cX10_hasHisTurn 9 4) (hh1 : zIsSt h1 = true) (hh2 : zIsLw h2 = true) (hret : zRt X none) {v3 : Int32} {v4 : Int32} {v7 : Int32} {v8 : Int32} {μ : zMem} (hf : fX10_hasHisTurn_152 F h1 h2 v3 v4 v7 v8 μ = some (zOut X)) : zAW X 152 [none, some (.ref h1), none, some (.int v3), some (.int v4), none, none, some (.int v7), some (.int v8)] [] μ := by
  unfold fX10_hasHisTurn_152 at hf
  refine zs_al hC dX10_hasHisTurn_152 rfl ?_
  refine zs_il hC dX10_hasHisTurn_153 rfl ?_
  refine zs_il hC dX10_hasHisTurn_155 rfl ?_
  refine zs_il hC dX10_hasHisTurn_156 rfl ?_
  refine zs_il hC dX10_hasHisTurn_158 rfl ?_
  refine zs_callN [.int v3, .int v8, .int v7] hC cw_X11_packedWhisper cl_RX10_90 (by decide) rfl rfl (Nat.le_of_ble_eq_true rfl) dX10_hasHisTurn_160 (fun _ h => ctX11_packedWhisper h) (fun r1 m1 _ hf => ?_) hf
  show zAW X 163 _ (.int r1 :: _) m1
  refine zs_callV [.int v4, .int r1] hC cw_X8_prints cl_RX10_94 (zSt0 hh1) rfl (by decide) rfl rfl (Nat.le_of_ble_eq_true rfl) dX10_hasHisTurn_163 (fun _ h => ctX8_prints (hh1) h) (fun r2 m2 _ hf => ?_) hf
  show zAW X 166 _ _ m2
  exact zs_vret hC hret dX10_hasHisTurn_166 hf
set_option maxRecDepth 20000 in
set_option maxHeartbeats 4000000 in
theorem wX10_hasHisTurn {X : zX} {F h1 h2 : Nat} (hC : zCx X RX10 cX10_hasHisTurn 9 4) (hh1 : zIsSt h1 = true) (hh2 : zIsLw h2 = true) (hret : zRt X none) {v3 : Int32} {v4 : Int32} {μ : zMem} (hf : fX10_hasHisTurn F h1 h2 v3 v4 μ = some (zOut X)) : zAW X 0 [some (.ref 33), some (.ref h1), some (.ref h2), some (.int v3), some (.int v4), none, none, none, none] [] μ := by
  unfold fX10_hasHisTurn at hf
  refine zs_al hC dX10_hasHisTurn_0 rfl ?_
  refine zs_al hC dX10_hasHisTurn_1 rfl ?_
  refine zs_il hC dX10_hasHisTurn_2 rfl ?_
  refine zs_al hC dX10_hasHisTurn_3 rfl ?_
  refine zs_getR (h1 + 3) hC fl_RX10_35 (zSt0 hh1) rfl dX10_hasHisTurn_4 ?_
  refine zs_il hC dX10_hasHisTurn_7 rfl ?_
  refine zs_iald hC (zSt3 hh1) dX10_hasHisTurn_9 (fun _ hf => ?_) hf
  refine zs_callV [.ref h1, .int v3, .int (μ (h1 + 3) v4.toNatClampNeg)] hC cw_X10_looksAt cl_RX10_50 zL33 rfl (by decide) rfl rfl (Nat.le_of_ble_eq_true rfl) dX10_hasHisTurn_10 (fun _ h => ctX10_looksAt (hh1) h) (fun r2 m2 _ hf => ?_) hf
  show zAW X 13 _ _ m2
  refine zs_al hC dX10_hasHisTurn_13 rfl ?_
  refine zs_al hC dX10_hasHisTurn_14 rfl ?_
  refine zs_al hC dX10_hasHisTurn_15 rfl ?_
  refine zs_il hC dX10_hasHisTurn_16 rfl ?_
  refine zs_callV [.ref h1, .ref h2, .int v3] hC cw_X10_choice cl_RX10_54 zL33 rfl (by decide) rfl rfl (Nat.le_of_ble_eq_true rfl) dX10_hasHisTurn_17 (fun _ h => ctX10_choice (hh1) (hh2) h) (fun r3 m3 _ hf => ?_) hf
  show zAW X 20 _ (.int r3 :: _) m3
  refine zs_is hC dX10_hasHisTurn_20 (by decide) rfl ?_
  refine zs_il hC dX10_hasHisTurn_22 rfl ?_
  refine zs_k hC dX10_hasHisTurn_24 ?_
  refine zs_ic_ne hC dX10_hasHisTurn_25 (fun _ hf => ?_) (fun _ hf => ?_) hf
  · exact zs_vret hC hret dX10_hasHisTurn_28 hf
  · refine zs_al hC dX10_hasHisTurn_29 rfl ?_
    refine zs_al hC dX10_hasHisTurn_30 rfl ?_
    refine zs_il hC dX10_hasHisTurn_31 rfl ?_
    refine zs_il hC dX10_hasHisTurn_32 rfl ?_
    refine zs_callV [.ref h1, .int v3, .int r3] hC cw_X10_looksAtOther cl_RX10_58 zL33 rfl (by decide) rfl rfl (Nat.le_of_ble_eq_true rfl) dX10_hasHisTurn_34 (fun _ h => ctX10_looksAtOther (hh1) h) (fun r4 m4 _ hf => ?_) hf
    show zAW X 37 _ _ m4
    refine zs_al hC dX10_hasHisTurn_37 rfl ?_
    refine zs_al hC dX10_hasHisTurn_38 rfl ?_
    refine zs_k hC dX10_hasHisTurn_39 ?_
    refine zs_k hC dX10_hasHisTurn_41 ?_
    refine zs_callV [.ref h2, .int (nI 109), .int (nI 10)] hC cw_X10_asked cl_RX10_61 zL33 rfl (by decide) rfl rfl (Nat.le_of_ble_eq_true rfl) dX10_hasHisTurn_43 (fun _ h => ctX10_asked (hh2) h) (fun r5 m5 _ hf => ?_) hf
    show zAW X 46 _ (.int r5 :: _) m5
    refine zs_is hC dX10_hasHisTurn_46 (by decide) rfl ?_
    refine zs_al hC dX10_hasHisTurn_48 rfl ?_
    refine zs_callV [] hC cw_X8_draw cl_RX10_65 (zSt0 hh1) rfl (by decide) rfl rfl (Nat.le_of_ble_eq_true rfl) dX10_hasHisTurn_49 (fun _ h => ctX8_draw (hh1) h) (fun r6 m6 _ hf => ?_) hf
    show zAW X 52 _ (.int r6 :: _) m6
    refine zs_al hC dX10_hasHisTurn_52 rfl ?_
    refine zs_al hC dX10_hasHisTurn_53 rfl ?_
    refine zs_k hC dX10_hasHisTurn_54 ?_
    refine zs_k hC dX10_hasHisTurn_56 ?_
    refine zs_callV [.ref h2, .int (nI 104), .int (nI 10)] hC cw_X10_asked cl_RX10_61 zL33 rfl (by decide) rfl rfl (Nat.le_of_ble_eq_true rfl) dX10_hasHisTurn_58 (fun _ h => ctX10_asked (hh2) h) (fun r7 m7 _ hf => ?_) hf
    show zAW X 61 _ (.int r7 :: _) m7
    refine zs_ic_lt hC dX10_hasHisTurn_61 (fun _ hf => ?_) (fun _ hf => ?_) hf
    · refine zs_al hC dX10_hasHisTurn_65 rfl ?_
      refine zs_getR (h1 + 1) hC fl_RX10_69 (zSt0 hh1) rfl dX10_hasHisTurn_66 ?_
      refine zs_il hC dX10_hasHisTurn_69 rfl ?_
      refine zs_iald hC (zSt1 hh1) dX10_hasHisTurn_70 (fun _ hf => ?_) hf
      refine zs_al hC dX10_hasHisTurn_71 rfl ?_
      refine zs_getR (h1 + 1) hC fl_RX10_69 (zSt0 hh1) rfl dX10_hasHisTurn_72 ?_
      refine zs_il hC dX10_hasHisTurn_75 rfl ?_
      refine zs_iald hC (zSt1 hh1) dX10_hasHisTurn_77 (fun _ hf => ?_) hf
      refine zs_k hC dX10_hasHisTurn_78 ?_
      refine zs_ixor hC dX10_hasHisTurn_79 ?_
      refine zs_iand hC dX10_hasHisTurn_80 ?_
      refine zs_callS [.int ((m7 (h1 + 1) v3.toNatClampNeg) &&& ((m7 (h1 + 1) r3.toNatClampNeg) ^^^ (-1 : Int32)))] hC cw_J6_numberOfTrailingZeros_0f7a4 cl_RX10_72 (by decide) rfl rfl (Nat.le_of_ble_eq_true rfl) dX10_hasHisTurn_81 (fun _ h => ctJ6_numberOfTrailingZeros_0f7a4 h) (fun r10 m10 _ hf => ?_) hf
      show zAW X 84 _ (.int r10 :: _) m10
      refine zs_is hC dX10_hasHisTurn_84 (by decide) rfl ?_
      refine zs_al hC dX10_hasHisTurn_86 rfl ?_
      refine zs_getR (h1 + 1) hC fl_RX10_69 (zSt0 hh1) rfl dX10_hasHisTurn_87 ?_
      refine zs_il hC dX10_hasHisTurn_90 rfl ?_
      refine zs_dup2 hC dX10_hasHisTurn_92 rfl rfl ?_
      refine zs_iald hC (zSt1 hh1) dX10_hasHisTurn_93 (fun _ hf => ?_) hf
      refine zs_k hC dX10_hasHisTurn_94 ?_
      refine zs_il hC dX10_hasHisTurn_95 rfl ?_
      refine zs_ishl hC dX10_hasHisTurn_97 ?_
      refine zs_ior hC dX10_hasHisTurn_98 ?_
      refine zs_iast hC (zSt1 hh1) dX10_hasHisTurn_99 (fun _ hf => ?_) hf
      refine zs_let (fun m12 _ hf => ?_) hf
      refine zs_al hC dX10_hasHisTurn_100 rfl ?_
      refine zs_getR (h1 + 2) hC fl_RX10_77 (zSt0 hh1) rfl dX10_hasHisTurn_101 ?_
      refine zs_il hC dX10_hasHisTurn_104 rfl ?_
      refine zs_al hC dX10_hasHisTurn_105 rfl ?_
      refine zs_getR (h1 + 2) hC fl_RX10_77 (zSt0 hh1) rfl dX10_hasHisTurn_106 ?_
      refine zs_il hC dX10_hasHisTurn_109 rfl ?_
      refine zs_iald hC (zSt2 hh1) dX10_hasHisTurn_110 (fun _ hf => ?_) hf
      refine zs_k hC dX10_hasHisTurn_111 ?_
      refine zs_iadd hC dX10_hasHisTurn_112 ?_
      refine zs_k hC dX10_hasHisTurn_113 ?_
      refine zs_callS [.int ((m12 (h1 + 2) v3.toNatClampNeg) + (nI 1)), .int (nI 9999)] hC cw_J9_min_7cf53 cl_RX10_80 (by decide) rfl rfl (Nat.le_of_ble_eq_true rfl) dX10_hasHisTurn_116 (fun _ h => ctJ9_min_7cf53 h) (fun r15 m15 _ hf => ?_) hf
      show zAW X 119 _ (.int r15 :: _) m15
      refine zs_iast hC (zSt2 hh1) dX10_hasHisTurn_119 (fun _ hf => ?_) hf
      refine zs_let (fun m16 _ hf => ?_) hf
      refine zs_il hC dX10_hasHisTurn_120 rfl ?_
      refine zs_is hC dX10_hasHisTurn_122 (by decide) rfl ?_
      refine zs_al hC dX10_hasHisTurn_124 rfl ?_
      refine zs_callV [] hC cw_X8_draw cl_RX10_65 (zSt0 hh1) rfl (by decide) rfl rfl (Nat.le_of_ble_eq_true rfl) dX10_hasHisTurn_125 (fun _ h => ctX8_draw (hh1) h) (fun r17 m17 _ hf => ?_) hf
      show zAW X 128 _ (.int r17 :: _) m17
      refine zs_il hC dX10_hasHisTurn_128 rfl ?_
      refine zs_ic_ge hC dX10_hasHisTurn_130 (fun _ hf => ?_) (fun _ hf => ?_) hf
      · exact zAW.weak (wX10_hasHisTurn_152 hC hh1 hh2 hret hf) (zLw_n (zLw_s (zLw_n (zLw_s (zLw_s (zLw_n (zLw_n (zLw_s (zLw_s zLw_0)))))))))
      · refine zs_al hC dX10_hasHisTurn_133 rfl ?_
        refine zs_il hC dX10_hasHisTurn_134 rfl ?_
        refine zs_il hC dX10_hasHisTurn_135 rfl ?_
        refine zs_callS [.ref h1, .int v3, .int r3] hC cw_X10_nextTold cl_RX10_86 (by decide) rfl rfl (Nat.le_of_ble_eq_true rfl) dX10_hasHisTurn_137 (fun _ h => ctX10_nextTold (hh1) h) (fun r18 m18 _ hf => ?_) hf
        show zAW X 140 _ (.int r18 :: _) m18
        refine zs_is hC dX10_hasHisTurn_140 (by decide) rfl ?_
        refine zs_al hC dX10_hasHisTurn_142 rfl ?_
        refine zs_dup hC dX10_hasHisTurn_143 rfl ?_
        refine zs_getI hC fl_RX10_18 zL33 rfl dX10_hasHisTurn_144 ?_
        refine zs_k hC dX10_hasHisTurn_147 ?_
        refine zs_iadd hC dX10_hasHisTurn_148 ?_
        refine zs_putI hC fl_RX10_18 fp_10_2 zL33 rfl dX10_hasHisTurn_149 ?_
        refine zs_let (fun m20 _ hf => ?_) hf
        exact zAW.weak (wX10_hasHisTurn_152 hC hh1 hh2 hret hf) (zLw_n (zLw_s (zLw_n (zLw_s (zLw_s (zLw_n (zLw_n (zLw_s (zLw_s zLw_0)))))))))
    · exact zs_vret hC hret dX10_hasHisTurn_64 hf
set_option maxRecDepth 20000 in
set_option maxHeartbeats 4000000 in
theorem ctX10_hasHisTurn {E : zEV} {F : Nat} {h1 : Nat} {h2 : Nat} {v3 : Int32} {v4 : Int32} {μ : zMem} {out : zR} (hh1 : zIsSt h1 = true) (hh2 : zIsLw h2 = true) (hf : fX10_hasHisTurn F h1 h2 v3 v4 μ = some out) : zCt E yX10_hasHisTurn cX10_hasHisTurn 9 none 4 [.ref 33, .ref h1, .ref h2, .int v3, .int v4] μ out :=
  zCt.of [some (.ref 33), some (.ref h1), some (.ref h2), some (.int v3), some (.int v4), none, none, none, none] (by decide +kernel) (Nat.le_of_ble_eq_true rfl) (zLw_s (zLw_s (zLw_s (zLw_s (zLw_s (zLw_e (zLw_e (zLw_e (zLw_e zLw_0))))))))) rfl (fun X hE ho hr hC => by
    subst hE; subst ho
    exact wX10_hasHisTurn hC hh1 hh2 hr hf)
/-! X10_holdsAny -/
def fX10_holdsAny_2 (F : Nat) (h1 : Nat) : Nat → Int32 → zMem → Option zR
  | 0, _, _ => none
  | n + 1, v2, μ => if (μ h1 7) ≤ v2 then some ((nI 0), μ) else zG v2 16 (if (μ (h1 + 3) v2.toNatClampNeg) = (nI 114) then zG v2 16 (zG v2 16 (zBd (fX10_reckoned F h1 (μ (h1 + 5) v2.toNatClampNeg) (μ (h1 + 6) v2.toNatClampNeg) μ) (fun r5 m5 => if r5 = 0 then fX10_holdsAny_2 F h1 n (v2 + (nI 1)) m5 else some ((nI 1), m5)))) else fX10_holdsAny_2 F h1 n (v2 + (nI 1)) μ)
def fX10_holdsAny (F : Nat) (h1 : Nat) (μ : zMem) : Option zR :=
  fX10_holdsAny_2 F h1 F (nI 0) μ
set_option maxRecDepth 20000 in
set_option maxHeartbeats 4000000 in
theorem wX10_holdsAny_2 {X : zX} {F h1 : Nat} (hC : zCx X RX10 cX10_holdsAny 3 2) (hh1 : zIsLw h1 = true) (hret : zRt X (some .boolean)) : ∀ (n : Nat) (v2 : Int32) (μ : zMem), fX10_holdsAny_2 F h1 n v2 μ = some (zOut X) → zAW X 2 [some (.ref 33), some (.ref h1), some (.int v2)] [] μ := by
  intro n
  induction n with
  | zero =>
    intro v2 μ hf
    rw [fX10_holdsAny_2] at hf
    cases hf
  | succ n ih =>
    intro v2 μ hf
    rw [fX10_holdsAny_2] at hf
    refine zs_il hC dX10_holdsAny_2 rfl ?_
    refine zs_al hC dX10_holdsAny_3 rfl ?_
    refine zs_getI hC fl_RX10_123 (zLw0 hh1) rfl dX10_holdsAny_4 ?_
    refine zs_ic_ge hC dX10_holdsAny_7 (fun _ hf => ?_) (fun _ hf => ?_) hf
    · refine zs_k hC dX10_holdsAny_49 ?_
      exact zs_zretK hC hret dX10_holdsAny_50 (by decide) hf
    · refine zs_al hC dX10_holdsAny_10 rfl ?_
      refine zs_getR (h1 + 3) hC fl_RX10_126 (zLw0 hh1) rfl dX10_holdsAny_11 ?_
      refine zs_il hC dX10_holdsAny_14 rfl ?_
      refine zs_iald hC (zLw3 hh1) dX10_holdsAny_15 (fun _ hf => ?_) hf
      refine zs_k hC dX10_holdsAny_16 ?_
      refine zs_ic_ne hC dX10_holdsAny_18 (fun _ hf => ?_) (fun _ hf => ?_) hf
      · refine zs_al hC dX10_holdsAny_21 rfl ?_
        refine zs_al hC dX10_holdsAny_22 rfl ?_
        refine zs_al hC dX10_holdsAny_23 rfl ?_
        refine zs_getR (h1 + 5) hC fl_RX10_129 (zLw0 hh1) rfl dX10_holdsAny_24 ?_
        refine zs_il hC dX10_holdsAny_27 rfl ?_
        refine zs_iald hC (zLw5 hh1) dX10_holdsAny_28 (fun _ hf => ?_) hf
        refine zs_al hC dX10_holdsAny_29 rfl ?_
        refine zs_getR (h1 + 6) hC fl_RX10_132 (zLw0 hh1) rfl dX10_holdsAny_30 ?_
        refine zs_il hC dX10_holdsAny_33 rfl ?_
        refine zs_iald hC (zLw6 hh1) dX10_holdsAny_34 (fun _ hf => ?_) hf
        refine zs_callV [.ref h1, .int (μ (h1 + 5) v2.toNatClampNeg), .int (μ (h1 + 6) v2.toNatClampNeg)] hC cw_X10_reckoned cl_RX10_135 zL33 rfl (by decide) rfl rfl (Nat.le_of_ble_eq_true rfl) dX10_holdsAny_35 (fun _ h => ctX10_reckoned (hh1) h) (fun r5 m5 _ hf => ?_) hf
        show zAW X 38 _ (.int r5 :: _) m5
        refine zs_if_eq hC dX10_holdsAny_38 (fun _ hf => ?_) (fun _ hf => ?_) hf
        · refine zs_iinc (nI 1) hC dX10_holdsAny_43 (by decide) rfl (by decide) rfl ?_
          refine zs_goto hC dX10_holdsAny_46 ?_
          exact zAW.weak (ih _ _ hf) (zLw_s (zLw_s (zLw_s zLw_0)))
        · refine zs_k hC dX10_holdsAny_41 ?_
          exact zs_zretK hC hret dX10_holdsAny_42 (by decide) hf
      · refine zs_iinc (nI 1) hC dX10_holdsAny_43 (by decide) rfl (by decide) rfl ?_
        refine zs_goto hC dX10_holdsAny_46 ?_
        exact zAW.weak (ih _ _ hf) (zLw_s (zLw_s (zLw_s zLw_0)))
set_option maxRecDepth 20000 in
set_option maxHeartbeats 4000000 in
theorem wX10_holdsAny {X : zX} {F h1 : Nat} (hC : zCx X RX10 cX10_holdsAny 3 2) (hh1 : zIsLw h1 = true) (hret : zRt X (some .boolean)) {μ : zMem} (hf : fX10_holdsAny F h1 μ = some (zOut X)) : zAW X 0 [some (.ref 33), some (.ref h1), none] [] μ := by
  unfold fX10_holdsAny at hf
  refine zs_k hC dX10_holdsAny_0 ?_
  refine zs_is hC dX10_holdsAny_1 (by decide) rfl ?_
  exact zAW.weak (wX10_holdsAny_2 hC hh1 hret F _ _ hf) (zLw_s (zLw_s (zLw_s zLw_0)))
set_option maxRecDepth 20000 in
set_option maxHeartbeats 4000000 in
theorem ctX10_holdsAny {E : zEV} {F : Nat} {h1 : Nat} {μ : zMem} {out : zR} (hh1 : zIsLw h1 = true) (hf : fX10_holdsAny F h1 μ = some out) : zCt E yX10_holdsAny cX10_holdsAny 3 (some .boolean) 2 [.ref 33, .ref h1] μ out :=
  zCt.of [some (.ref 33), some (.ref h1), none] (by decide +kernel) (Nat.le_of_ble_eq_true rfl) (zLw_s (zLw_s (zLw_e zLw_0))) rfl (fun X hE ho hr hC => by
    subst hE; subst ho
    exact wX10_holdsAny hC hh1 hr hf)
/-! X10_isRead -/
def fX10_isRead_77 (F : Nat) (h1 : Nat) (h2 : Nat) (k26 : Int32 → Int32 → Int32 → Int32 → zMem → Option zR) (v3 : Int32) (v4 : Int32) (v5 : Int32) (v6 : Int32) (μ : zMem) : Option zR :=
  zG v6 16 (zG v6 16 (zLt (zUp μ (h1 + 1) v6.toNatClampNeg ((μ (h1 + 1) v6.toNatClampNeg) ||| v4)) (fun m2 => k26 v3 v4 v5 (v6 + (nI 1)) m2)))
def fX10_isRead_26 (F : Nat) (h1 : Nat) (h2 : Nat) : Nat → Int32 → Int32 → Int32 → Int32 → zMem → Option zR
  | 0, _, _, _, _, _ => none
  | n + 1, v3, v4, v5, v6, μ => if (nI 16) ≤ v6 then some ((nI 0), μ) else zBd (fX8_isTold F h1 v6 μ) (fun r1 m1 => if r1 = 0 then fX10_isRead_26 F h1 h2 n v3 v4 v5 (v6 + (nI 1)) m1 else zBd (fX8_isReader F h1 v6 m1) (fun r2 m2 => if r2 = 0 then fX10_isRead_26 F h1 h2 n v3 v4 v5 (v6 + (nI 1)) m2 else zG v3 20 (zBd (fX10_looksAt F h1 v6 (m2 (h1 + 3) v3.toNatClampNeg) m2) (fun r4 m4 => if v5 = 0 then zBd (fX10_holdsAny F h2 m4) (fun r5 m5 => if r5 = 0 then fX10_isRead_26 F h1 h2 n v3 v4 v5 (v6 + (nI 1)) m5 else fX10_isRead_77 F h1 h2 (fX10_isRead_26 F h1 h2 n) v3 v4 v5 v6 m5) else fX10_isRead_77 F h1 h2 (fX10_isRead_26 F h1 h2 n) v3 v4 v5 v6 m4))))
def fX10_isRead (F : Nat) (h1 : Nat) (h2 : Nat) (v3 : Int32) (μ : zMem) : Option zR :=
  zBd (fX8_secretsIn F h1 v3 μ) (fun r1 m1 => zBd (fX5_hasKind F h2 (nI 114) m1) (fun r2 m2 => if r2 = 0 then fX10_isRead_26 F h1 h2 F v3 r1 (nI 1) (nI 0) m2 else fX10_isRead_26 F h1 h2 F v3 r1 (nI 0) (nI 0) m2))
set_option maxRecDepth 20000 in
set_option maxHeartbeats 4000000 in
theorem wX10_isRead_77 {X : zX} {F h1 h2 : Nat} (hC : zCx X RX10 cX10_isRead 7 3) (hh1 : zIsSt h1 = true) (hh2 : zIsLw h2 = true) (hret : zRt X none) {k26 : Int32 → Int32 → Int32 → Int32 → zMem → Option zR} (hk26 : ∀ v3 v4 v5 v6 μ, k26 v3 v4 v5 v6 μ = some (zOut X) → zAW X 26 [some (.ref 33), some (.ref h1), some (.ref h2), some (.int v3), some (.int v4), some (.int v5), some (.int v6)] [] μ) {v3 : Int32} {v4 : Int32} {v5 : Int32} {v6 : Int32} {μ : zMem} (hf : fX10_isRead_77 F h1 h2 k26 v3 v4 v5 v6 μ = some (zOut X)) : zAW X 77 [some (.ref 33), some (.ref h1), some (.ref h2), some (.int v3), some (.int v4), some (.int v5), some (.int v6)] [] μ := by
  unfold fX10_isRead_77 at hf
  refine zs_al hC dX10_isRead_77 rfl ?_
  refine zs_getR (h1 + 1) hC fl_RX10_69 (zSt0 hh1) rfl dX10_isRead_78 ?_
  refine zs_il hC dX10_isRead_81 rfl ?_
  refine zs_dup2 hC dX10_isRead_83 rfl rfl ?_
  refine zs_iald hC (zSt1 hh1) dX10_isRead_84 (fun _ hf => ?_) hf
  refine zs_il hC dX10_isRead_85 rfl ?_
  refine zs_ior hC dX10_isRead_87 ?_
  refine zs_iast hC (zSt1 hh1) dX10_isRead_88 (fun _ hf => ?_) hf
  refine zs_let (fun m2 _ hf => ?_) hf
  refine zs_iinc (nI 1) hC dX10_isRead_89 (by decide) rfl (by decide) rfl ?_
  refine zs_goto hC dX10_isRead_92 ?_
  exact zAW.weak (hk26 _ _ _ _ _ hf) (zLw_s (zLw_s (zLw_s (zLw_s (zLw_s (zLw_s (zLw_s zLw_0)))))))
set_option maxRecDepth 20000 in
set_option maxHeartbeats 4000000 in
theorem wX10_isRead_26 {X : zX} {F h1 h2 : Nat} (hC : zCx X RX10 cX10_isRead 7 3) (hh1 : zIsSt h1 = true) (hh2 : zIsLw h2 = true) (hret : zRt X none) : ∀ (n : Nat) (v3 : Int32) (v4 : Int32) (v5 : Int32) (v6 : Int32) (μ : zMem), fX10_isRead_26 F h1 h2 n v3 v4 v5 v6 μ = some (zOut X) → zAW X 26 [some (.ref 33), some (.ref h1), some (.ref h2), some (.int v3), some (.int v4), some (.int v5), some (.int v6)] [] μ := by
  intro n
  induction n with
  | zero =>
    intro v3 v4 v5 v6 μ hf
    rw [fX10_isRead_26] at hf
    cases hf
  | succ n ih =>
    intro v3 v4 v5 v6 μ hf
    rw [fX10_isRead_26] at hf
    refine zs_il hC dX10_isRead_26 rfl ?_
    refine zs_k hC dX10_isRead_28 ?_
    refine zs_ic_ge hC dX10_isRead_30 (fun _ hf => ?_) (fun _ hf => ?_) hf
    · exact zs_vret hC hret dX10_isRead_95 hf
    · refine zs_al hC dX10_isRead_33 rfl ?_
      refine zs_il hC dX10_isRead_34 rfl ?_
      refine zs_callV [.int v6] hC cw_X8_isTold cl_RX10_38 (zSt0 hh1) rfl (by decide) rfl rfl (Nat.le_of_ble_eq_true rfl) dX10_isRead_36 (fun _ h => ctX8_isTold (hh1) h) (fun r1 m1 _ hf => ?_) hf
      show zAW X 39 _ (.int r1 :: _) m1
      refine zs_if_eq hC dX10_isRead_39 (fun _ hf => ?_) (fun _ hf => ?_) hf
      · refine zs_iinc (nI 1) hC dX10_isRead_89 (by decide) rfl (by decide) rfl ?_
        refine zs_goto hC dX10_isRead_92 ?_
        exact zAW.weak (ih _ _ _ _ _ hf) (zLw_s (zLw_s (zLw_s (zLw_s (zLw_s (zLw_s (zLw_s zLw_0)))))))
      · refine zs_al hC dX10_isRead_42 rfl ?_
        refine zs_il hC dX10_isRead_43 rfl ?_
        refine zs_callV [.int v6] hC cw_X8_isReader cl_RX10_106 (zSt0 hh1) rfl (by decide) rfl rfl (Nat.le_of_ble_eq_true rfl) dX10_isRead_45 (fun _ h => ctX8_isReader (hh1) h) (fun r2 m2 _ hf => ?_) hf
        show zAW X 48 _ (.int r2 :: _) m2
        refine zs_if_eq hC dX10_isRead_48 (fun _ hf => ?_) (fun _ hf => ?_) hf
        · refine zs_iinc (nI 1) hC dX10_isRead_89 (by decide) rfl (by decide) rfl ?_
          refine zs_goto hC dX10_isRead_92 ?_
          exact zAW.weak (ih _ _ _ _ _ hf) (zLw_s (zLw_s (zLw_s (zLw_s (zLw_s (zLw_s (zLw_s zLw_0)))))))
        · refine zs_al hC dX10_isRead_51 rfl ?_
          refine zs_al hC dX10_isRead_52 rfl ?_
          refine zs_il hC dX10_isRead_53 rfl ?_
          refine zs_al hC dX10_isRead_55 rfl ?_
          refine zs_getR (h1 + 3) hC fl_RX10_35 (zSt0 hh1) rfl dX10_isRead_56 ?_
          refine zs_il hC dX10_isRead_59 rfl ?_
          refine zs_iald hC (zSt3 hh1) dX10_isRead_60 (fun _ hf => ?_) hf
          refine zs_callV [.ref h1, .int v6, .int (m2 (h1 + 3) v3.toNatClampNeg)] hC cw_X10_looksAt cl_RX10_50 zL33 rfl (by decide) rfl rfl (Nat.le_of_ble_eq_true rfl) dX10_isRead_61 (fun _ h => ctX10_looksAt (hh1) h) (fun r4 m4 _ hf => ?_) hf
          show zAW X 64 _ _ m4
          refine zs_il hC dX10_isRead_64 rfl ?_
          refine zs_if_ne hC dX10_isRead_66 (fun _ hf => ?_) (fun _ hf => ?_) hf
          · refine zs_al hC dX10_isRead_69 rfl ?_
            refine zs_al hC dX10_isRead_70 rfl ?_
            refine zs_callV [.ref h2] hC cw_X10_holdsAny cl_RX10_109 zL33 rfl (by decide) rfl rfl (Nat.le_of_ble_eq_true rfl) dX10_isRead_71 (fun _ h => ctX10_holdsAny (hh2) h) (fun r5 m5 _ hf => ?_) hf
            show zAW X 74 _ (.int r5 :: _) m5
            refine zs_if_eq hC dX10_isRead_74 (fun _ hf => ?_) (fun _ hf => ?_) hf
            · refine zs_iinc (nI 1) hC dX10_isRead_89 (by decide) rfl (by decide) rfl ?_
              refine zs_goto hC dX10_isRead_92 ?_
              exact zAW.weak (ih _ _ _ _ _ hf) (zLw_s (zLw_s (zLw_s (zLw_s (zLw_s (zLw_s (zLw_s zLw_0)))))))
            · exact zAW.weak (wX10_isRead_77 hC hh1 hh2 hret (ih) hf) (zLw_s (zLw_s (zLw_s (zLw_s (zLw_s (zLw_s (zLw_s zLw_0)))))))
          · exact zAW.weak (wX10_isRead_77 hC hh1 hh2 hret (ih) hf) (zLw_s (zLw_s (zLw_s (zLw_s (zLw_s (zLw_s (zLw_s zLw_0)))))))
set_option maxRecDepth 20000 in
set_option maxHeartbeats 4000000 in
theorem wX10_isRead {X : zX} {F h1 h2 : Nat} (hC : zCx X RX10 cX10_isRead 7 3) (hh1 : zIsSt h1 = true) (hh2 : zIsLw h2 = true) (hret : zRt X none) {v3 : Int32} {μ : zMem} (hf : fX10_isRead F h1 h2 v3 μ = some (zOut X)) : zAW X 0 [some (.ref 33), some (.ref h1), some (.ref h2), some (.int v3), none, none, none] [] μ := by
  unfold fX10_isRead at hf
  refine zs_al hC dX10_isRead_0 rfl ?_
  refine zs_il hC dX10_isRead_1 rfl ?_
  refine zs_callV [.int v3] hC cw_X8_secretsIn cl_RX10_98 (zSt0 hh1) rfl (by decide) rfl rfl (Nat.le_of_ble_eq_true rfl) dX10_isRead_2 (fun _ h => ctX8_secretsIn (hh1) h) (fun r1 m1 _ hf => ?_) hf
  show zAW X 5 _ (.int r1 :: _) m1
  refine zs_is hC dX10_isRead_5 (by decide) rfl ?_
  refine zs_al hC dX10_isRead_7 rfl ?_
  refine zs_k hC dX10_isRead_8 ?_
  refine zs_callV [.int (nI 114)] hC cw_X5_hasKind cl_RX10_101 (zLw0 hh2) rfl (by decide) rfl rfl (Nat.le_of_ble_eq_true rfl) dX10_isRead_10 (fun _ h => ctX5_hasKind (hh2) h) (fun r2 m2 _ hf => ?_) hf
  show zAW X 13 _ (.int r2 :: _) m2
  refine zs_if_ne hC dX10_isRead_13 (fun _ hf => ?_) (fun _ hf => ?_) hf
  · refine zs_k hC dX10_isRead_16 ?_
    refine zs_goto hC dX10_isRead_17 ?_
    refine zs_is hC dX10_isRead_21 (by decide) rfl ?_
    refine zs_k hC dX10_isRead_23 ?_
    refine zs_is hC dX10_isRead_24 (by decide) rfl ?_
    exact zAW.weak (wX10_isRead_26 hC hh1 hh2 hret F _ _ _ _ _ hf) (zLw_s (zLw_s (zLw_s (zLw_s (zLw_s (zLw_s (zLw_s zLw_0)))))))
  · refine zs_k hC dX10_isRead_20 ?_
    refine zs_is hC dX10_isRead_21 (by decide) rfl ?_
    refine zs_k hC dX10_isRead_23 ?_
    refine zs_is hC dX10_isRead_24 (by decide) rfl ?_
    exact zAW.weak (wX10_isRead_26 hC hh1 hh2 hret F _ _ _ _ _ hf) (zLw_s (zLw_s (zLw_s (zLw_s (zLw_s (zLw_s (zLw_s zLw_0)))))))
set_option maxRecDepth 20000 in
set_option maxHeartbeats 4000000 in
theorem ctX10_isRead {E : zEV} {F : Nat} {h1 : Nat} {h2 : Nat} {v3 : Int32} {μ : zMem} {out : zR} (hh1 : zIsSt h1 = true) (hh2 : zIsLw h2 = true) (hf : fX10_isRead F h1 h2 v3 μ = some out) : zCt E yX10_isRead cX10_isRead 7 none 3 [.ref 33, .ref h1, .ref h2, .int v3] μ out :=
  zCt.of [some (.ref 33), some (.ref h1), some (.ref h2), some (.int v3), none, none, none] (by decide +kernel) (Nat.le_of_ble_eq_true rfl) (zLw_s (zLw_s (zLw_s (zLw_s (zLw_e (zLw_e (zLw_e zLw_0))))))) rfl (fun X hE ho hr hC => by
    subst hE; subst ho
    exact wX10_isRead hC hh1 hh2 hr hf)
/-! X10_goesBy -/
def fX10_goesBy_28 (F : Nat) (h1 : Nat) (h2 : Nat) : Nat → Int32 → Int32 → zMem → Option zR
  | 0, _, _, _ => none
  | n + 1, v3, v4, μ => if (nI 16) ≤ v4 then zBd (fX10_isRead F h1 h2 v3 μ) (fun r1 m1 => zLt (zUp m1 h1 6 ((m1 h1 6) + (nI 1))) (fun m3 => zG v3 20 (some ((m3 (h1 + 3) v3.toNatClampNeg), m3)))) else zBd (fX8_isTold F h1 v4 μ) (fun r5 m5 => if r5 = 0 then fX10_goesBy_28 F h1 h2 n v3 (v4 + (nI 1)) m5 else zBd (fX10_hasHisTurn F h1 h2 v4 v3 m5) (fun r6 m6 => fX10_goesBy_28 F h1 h2 n v3 (v4 + (nI 1)) m6))
def fX10_goesBy (F : Nat) (h1 : Nat) (h2 : Nat) (μ : zMem) : Option zR :=
  if (μ h1 6) < (nI 9999) then zBd (fX8_slotOf F h1 (nI 0) μ) (fun r2 m2 => zG r2 20 (zLt (zUp m2 (h1 + 3) r2.toNatClampNeg (nI 0)) (fun m4 => fX10_goesBy_28 F h1 h2 F r2 (nI 0) m4))) else some ((-1 : Int32), μ)
set_option maxRecDepth 20000 in
set_option maxHeartbeats 4000000 in
theorem wX10_goesBy_28 {X : zX} {F h1 h2 : Nat} (hC : zCx X RX10 cX10_goesBy 5 5) (hh1 : zIsSt h1 = true) (hh2 : zIsLw h2 = true) (hret : zRt X (some .int)) : ∀ (n : Nat) (v3 : Int32) (v4 : Int32) (μ : zMem), fX10_goesBy_28 F h1 h2 n v3 v4 μ = some (zOut X) → zAW X 28 [some (.ref 33), some (.ref h1), some (.ref h2), some (.int v3), some (.int v4)] [] μ := by
  intro n
  induction n with
  | zero =>
    intro v3 v4 μ hf
    rw [fX10_goesBy_28] at hf
    cases hf
  | succ n ih =>
    intro v3 v4 μ hf
    rw [fX10_goesBy_28] at hf
    refine zs_il hC dX10_goesBy_28 rfl ?_
    refine zs_k hC dX10_goesBy_30 ?_
    refine zs_ic_ge hC dX10_goesBy_32 (fun _ hf => ?_) (fun _ hf => ?_) hf
    · refine zs_al hC dX10_goesBy_59 rfl ?_
      refine zs_al hC dX10_goesBy_60 rfl ?_
      refine zs_al hC dX10_goesBy_61 rfl ?_
      refine zs_il hC dX10_goesBy_62 rfl ?_
      refine zs_callV [.ref h1, .ref h2, .int v3] hC cw_X10_isRead cl_RX10_46 zL33 rfl (by decide) rfl rfl (Nat.le_of_ble_eq_true rfl) dX10_goesBy_63 (fun _ h => ctX10_isRead (hh1) (hh2) h) (fun r1 m1 _ hf => ?_) hf
      show zAW X 66 _ _ m1
      refine zs_al hC dX10_goesBy_66 rfl ?_
      refine zs_dup hC dX10_goesBy_67 rfl ?_
      refine zs_getI hC fl_RX10_26 (zSt0 hh1) rfl dX10_goesBy_68 ?_
      refine zs_k hC dX10_goesBy_71 ?_
      refine zs_iadd hC dX10_goesBy_72 ?_
      refine zs_putI hC fl_RX10_26 fp_8_6 (zSt0 hh1) rfl dX10_goesBy_73 ?_
      refine zs_let (fun m3 _ hf => ?_) hf
      refine zs_al hC dX10_goesBy_76 rfl ?_
      refine zs_getR (h1 + 3) hC fl_RX10_35 (zSt0 hh1) rfl dX10_goesBy_77 ?_
      refine zs_il hC dX10_goesBy_80 rfl ?_
      refine zs_iald hC (zSt3 hh1) dX10_goesBy_81 (fun _ hf => ?_) hf
      exact zs_iret hC hret dX10_goesBy_82 hf
    · refine zs_al hC dX10_goesBy_35 rfl ?_
      refine zs_il hC dX10_goesBy_36 rfl ?_
      refine zs_callV [.int v4] hC cw_X8_isTold cl_RX10_38 (zSt0 hh1) rfl (by decide) rfl rfl (Nat.le_of_ble_eq_true rfl) dX10_goesBy_38 (fun _ h => ctX8_isTold (hh1) h) (fun r5 m5 _ hf => ?_) hf
      show zAW X 41 _ (.int r5 :: _) m5
      refine zs_if_eq hC dX10_goesBy_41 (fun _ hf => ?_) (fun _ hf => ?_) hf
      · refine zs_iinc (nI 1) hC dX10_goesBy_53 (by decide) rfl (by decide) rfl ?_
        refine zs_goto hC dX10_goesBy_56 ?_
        exact zAW.weak (ih _ _ _ hf) (zLw_s (zLw_s (zLw_s (zLw_s (zLw_s zLw_0)))))
      · refine zs_al hC dX10_goesBy_44 rfl ?_
        refine zs_al hC dX10_goesBy_45 rfl ?_
        refine zs_al hC dX10_goesBy_46 rfl ?_
        refine zs_il hC dX10_goesBy_47 rfl ?_
        refine zs_il hC dX10_goesBy_49 rfl ?_
        refine zs_callV [.ref h1, .ref h2, .int v4, .int v3] hC cw_X10_hasHisTurn cl_RX10_42 zL33 rfl (by decide) rfl rfl (Nat.le_of_ble_eq_true rfl) dX10_goesBy_50 (fun _ h => ctX10_hasHisTurn (hh1) (hh2) h) (fun r6 m6 _ hf => ?_) hf
        show zAW X 53 _ _ m6
        refine zs_iinc (nI 1) hC dX10_goesBy_53 (by decide) rfl (by decide) rfl ?_
        refine zs_goto hC dX10_goesBy_56 ?_
        exact zAW.weak (ih _ _ _ hf) (zLw_s (zLw_s (zLw_s (zLw_s (zLw_s zLw_0)))))
set_option maxRecDepth 20000 in
set_option maxHeartbeats 4000000 in
theorem wX10_goesBy {X : zX} {F h1 h2 : Nat} (hC : zCx X RX10 cX10_goesBy 5 5) (hh1 : zIsSt h1 = true) (hh2 : zIsLw h2 = true) (hret : zRt X (some .int)) {μ : zMem} (hf : fX10_goesBy F h1 h2 μ = some (zOut X)) : zAW X 0 [some (.ref 33), some (.ref h1), some (.ref h2), none, none] [] μ := by
  unfold fX10_goesBy at hf
  refine zs_al hC dX10_goesBy_0 rfl ?_
  refine zs_getI hC fl_RX10_26 (zSt0 hh1) rfl dX10_goesBy_1 ?_
  refine zs_k hC dX10_goesBy_4 ?_
  refine zs_ic_lt hC dX10_goesBy_7 (fun _ hf => ?_) (fun _ hf => ?_) hf
  · refine zs_al hC dX10_goesBy_12 rfl ?_
    refine zs_k hC dX10_goesBy_13 ?_
    refine zs_callV [.int (nI 0)] hC cw_X8_slotOf cl_RX10_31 (zSt0 hh1) rfl (by decide) rfl rfl (Nat.le_of_ble_eq_true rfl) dX10_goesBy_14 (fun _ h => ctX8_slotOf (hh1) h) (fun r2 m2 _ hf => ?_) hf
    show zAW X 17 _ (.int r2 :: _) m2
    refine zs_is hC dX10_goesBy_17 (by decide) rfl ?_
    refine zs_al hC dX10_goesBy_18 rfl ?_
    refine zs_getR (h1 + 3) hC fl_RX10_35 (zSt0 hh1) rfl dX10_goesBy_19 ?_
    refine zs_il hC dX10_goesBy_22 rfl ?_
    refine zs_k hC dX10_goesBy_23 ?_
    refine zs_iast hC (zSt3 hh1) dX10_goesBy_24 (fun _ hf => ?_) hf
    refine zs_let (fun m4 _ hf => ?_) hf
    refine zs_k hC dX10_goesBy_25 ?_
    refine zs_is hC dX10_goesBy_26 (by decide) rfl ?_
    exact zAW.weak (wX10_goesBy_28 hC hh1 hh2 hret F _ _ _ hf) (zLw_s (zLw_s (zLw_s (zLw_s (zLw_s zLw_0)))))
  · refine zs_k hC dX10_goesBy_10 ?_
    exact zs_iret hC hret dX10_goesBy_11 hf
set_option maxRecDepth 20000 in
set_option maxHeartbeats 4000000 in
theorem ctX10_goesBy {E : zEV} {F : Nat} {h1 : Nat} {h2 : Nat} {μ : zMem} {out : zR} (hh1 : zIsSt h1 = true) (hh2 : zIsLw h2 = true) (hf : fX10_goesBy F h1 h2 μ = some out) : zCt E yX10_goesBy cX10_goesBy 5 (some .int) 5 [.ref 33, .ref h1, .ref h2] μ out :=
  zCt.of [some (.ref 33), some (.ref h1), some (.ref h2), none, none] (by decide +kernel) (Nat.le_of_ble_eq_true rfl) (zLw_s (zLw_s (zLw_s (zLw_e (zLw_e zLw_0))))) rfl (fun X hE ho hr hC => by
    subst hE; subst ho
    exact wX10_goesBy hC hh1 hh2 hr hf)
/-! X10_goesByTimes -/
def fX10_goesByTimes_11 (F : Nat) (h2 : Nat) (h3 : Nat) : Nat → Int32 → Int32 → Int32 → zMem → Option zR
  | 0, _, _, _, _ => none
  | n + 1, v1, v4, v5, μ => if v1 ≤ v5 then some (v4, μ) else zBd (fX10_goesBy F h2 h3 μ) (fun r1 m1 => if r1 = (-1 : Int32) then some (v4, m1) else fX10_goesByTimes_11 F h2 h3 n v1 (v4 + r1) (v5 + (nI 1)) m1)
def fX10_goesByTimes (F : Nat) (v1 : Int32) (h2 : Nat) (h3 : Nat) (μ : zMem) : Option zR :=
  zLt (zUp μ 33 2 (nI 0)) (fun m1 => fX10_goesByTimes_11 F h2 h3 F v1 (nI 0) (nI 0) m1)
set_option maxRecDepth 20000 in
set_option maxHeartbeats 4000000 in
theorem wX10_goesByTimes_11 {X : zX} {F h2 h3 : Nat} (hC : zCx X RX10 cX10_goesByTimes 7 6) (hh2 : zIsSt h2 = true) (hh3 : zIsLw h3 = true) (hret : zRt X (some .int)) : ∀ (n : Nat) (v1 : Int32) (v4 : Int32) (v5 : Int32) (μ : zMem), fX10_goesByTimes_11 F h2 h3 n v1 v4 v5 μ = some (zOut X) → zAW X 11 [some (.ref 33), some (.int v1), some (.ref h2), some (.ref h3), some (.int v4), some (.int v5), none] [] μ := by
  intro n
  induction n with
  | zero =>
    intro v1 v4 v5 μ hf
    rw [fX10_goesByTimes_11] at hf
    cases hf
  | succ n ih =>
    intro v1 v4 v5 μ hf
    rw [fX10_goesByTimes_11] at hf
    refine zs_il hC dX10_goesByTimes_11 rfl ?_
    refine zs_il hC dX10_goesByTimes_13 rfl ?_
    refine zs_ic_ge hC dX10_goesByTimes_14 (fun _ hf => ?_) (fun _ hf => ?_) hf
    · refine zs_il hC dX10_goesByTimes_47 rfl ?_
      exact zs_iret hC hret dX10_goesByTimes_49 hf
    · refine zs_al hC dX10_goesByTimes_17 rfl ?_
      refine zs_al hC dX10_goesByTimes_18 rfl ?_
      refine zs_al hC dX10_goesByTimes_19 rfl ?_
      refine zs_callV [.ref h2, .ref h3] hC cw_X10_goesBy cl_RX10_22 zL33 rfl (by decide) rfl rfl (Nat.le_of_ble_eq_true rfl) dX10_goesByTimes_20 (fun _ h => ctX10_goesBy (hh2) (hh3) h) (fun r1 m1 _ hf => ?_) hf
      show zAW X 23 _ (.int r1 :: _) m1
      refine zs_is hC dX10_goesByTimes_23 (by decide) rfl ?_
      refine zs_il hC dX10_goesByTimes_25 rfl ?_
      refine zs_k hC dX10_goesByTimes_27 ?_
      refine zs_ic_ne hC dX10_goesByTimes_28 (fun _ hf => ?_) (fun _ hf => ?_) hf
      · refine zs_goto hC dX10_goesByTimes_31 ?_
        refine zs_il hC dX10_goesByTimes_47 rfl ?_
        exact zs_iret hC hret dX10_goesByTimes_49 hf
      · refine zs_il hC dX10_goesByTimes_34 rfl ?_
        refine zs_il hC dX10_goesByTimes_36 rfl ?_
        refine zs_iadd hC dX10_goesByTimes_38 ?_
        refine zs_is hC dX10_goesByTimes_39 (by decide) rfl ?_
        refine zs_iinc (nI 1) hC dX10_goesByTimes_41 (by decide) rfl (by decide) rfl ?_
        refine zs_goto hC dX10_goesByTimes_44 ?_
        exact zAW.weak (ih _ _ _ _ hf) (zLw_s (zLw_s (zLw_s (zLw_s (zLw_s (zLw_s (zLw_n zLw_0)))))))
set_option maxRecDepth 20000 in
set_option maxHeartbeats 4000000 in
theorem wX10_goesByTimes {X : zX} {F h2 h3 : Nat} (hC : zCx X RX10 cX10_goesByTimes 7 6) (hh2 : zIsSt h2 = true) (hh3 : zIsLw h3 = true) (hret : zRt X (some .int)) {v1 : Int32} {μ : zMem} (hf : fX10_goesByTimes F v1 h2 h3 μ = some (zOut X)) : zAW X 0 [some (.ref 33), some (.int v1), some (.ref h2), some (.ref h3), none, none, none] [] μ := by
  unfold fX10_goesByTimes at hf
  refine zs_al hC dX10_goesByTimes_0 rfl ?_
  refine zs_k hC dX10_goesByTimes_1 ?_
  refine zs_putI hC fl_RX10_18 fp_10_2 zL33 rfl dX10_goesByTimes_2 ?_
  refine zs_let (fun m1 _ hf => ?_) hf
  refine zs_k hC dX10_goesByTimes_5 ?_
  refine zs_is hC dX10_goesByTimes_6 (by decide) rfl ?_
  refine zs_k hC dX10_goesByTimes_8 ?_
  refine zs_is hC dX10_goesByTimes_9 (by decide) rfl ?_
  exact zAW.weak (wX10_goesByTimes_11 hC hh2 hh3 hret F _ _ _ _ hf) (zLw_s (zLw_s (zLw_s (zLw_s (zLw_s (zLw_s (zLw_n zLw_0)))))))
set_option maxRecDepth 20000 in
set_option maxHeartbeats 4000000 in
theorem ctX10_goesByTimes {E : zEV} {F : Nat} {v1 : Int32} {h2 : Nat} {h3 : Nat} {μ : zMem} {out : zR} (hh2 : zIsSt h2 = true) (hh3 : zIsLw h3 = true) (hf : fX10_goesByTimes F v1 h2 h3 μ = some out) : zCt E yX10_goesByTimes cX10_goesByTimes 7 (some .int) 6 [.ref 33, .int v1, .ref h2, .ref h3] μ out :=
  zCt.of [some (.ref 33), some (.int v1), some (.ref h2), some (.ref h3), none, none, none] (by decide +kernel) (Nat.le_of_ble_eq_true rfl) (zLw_s (zLw_s (zLw_s (zLw_s (zLw_e (zLw_e (zLw_e zLw_0))))))) rfl (fun X hE ho hr hC => by
    subst hE; subst ho
    exact wX10_goesByTimes hC hh2 hh3 hr hf)
/-! X11_person -/
def fX11_person (F : Nat) (v1 : Int32) (v2 : Int32) (v3 : Int32) (μ : zMem) : Option zR :=
  zBd (fX11_isPerson F v1 μ) (fun r1 m1 => if r1 = 0 then some ((nI 0), m1) else zBd (fX11_isWithin F v2 (nI 0) (nI 65535) m1) (fun r2 m2 => if r2 = 0 then some ((nI 0), m2) else zBd (fX8_tells F 3 v1 v2 v3 m2) (fun r4 m4 => some ((nI 1), m4))))
set_option maxRecDepth 20000 in
set_option maxHeartbeats 4000000 in
theorem wX11_person {X : zX} {F : Nat} (hC : zCx X RX11 cX11_person 4 2) (hret : zRt X (some .boolean)) {v1 : Int32} {v2 : Int32} {v3 : Int32} {μ : zMem} (hf : fX11_person F v1 v2 v3 μ = some (zOut X)) : zAW X 0 [some (.ref 0), some (.int v1), some (.int v2), some (.int v3)] [] μ := by
  unfold fX11_person at hf
  refine zs_il hC dX11_person_0 rfl ?_
  refine zs_callS [.int v1] hC cw_X11_isPerson cl_RX11_92 (by decide) rfl rfl (Nat.le_of_ble_eq_true rfl) dX11_person_1 (fun _ h => ctX11_isPerson h) (fun r1 m1 _ hf => ?_) hf
  show zAW X 4 _ (.int r1 :: _) m1
  refine zs_if_eq hC dX11_person_4 (fun _ hf => ?_) (fun _ hf => ?_) hf
  · refine zs_k hC dX11_person_17 ?_
    exact zs_zretK hC hret dX11_person_18 (by decide) hf
  · refine zs_il hC dX11_person_7 rfl ?_
    refine zs_k hC dX11_person_8 ?_
    refine zs_ldc hC kc_RX11_96 dX11_person_9 ?_
    refine zs_callS [.int v2, .int (nI 0), .int (nI 65535)] hC cw_X11_isWithin cl_RX11_97 (by decide) rfl rfl (Nat.le_of_ble_eq_true rfl) dX11_person_11 (fun _ h => ctX11_isWithin h) (fun r2 m2 _ hf => ?_) hf
    show zAW X 14 _ (.int r2 :: _) m2
    refine zs_if_ne hC dX11_person_14 (fun _ hf => ?_) (fun _ hf => ?_) hf
    · refine zs_k hC dX11_person_17 ?_
      exact zs_zretK hC hret dX11_person_18 (by decide) hf
    · refine zs_al hC dX11_person_19 rfl ?_
      refine zs_getR 3 hC fl_RX11_19 zL0 rfl dX11_person_20 ?_
      refine zs_il hC dX11_person_23 rfl ?_
      refine zs_il hC dX11_person_24 rfl ?_
      refine zs_il hC dX11_person_25 rfl ?_
      refine zs_callV [.int v1, .int v2, .int v3] hC cw_X8_tells cl_RX11_101 zL3 rfl (by decide) rfl rfl (Nat.le_of_ble_eq_true rfl) dX11_person_26 (fun _ h => ctX8_tells (by decide) h) (fun r4 m4 _ hf => ?_) hf
      show zAW X 29 _ _ m4
      refine zs_k hC dX11_person_29 ?_
      exact zs_zretK hC hret dX11_person_30 (by decide) hf
set_option maxRecDepth 20000 in
set_option maxHeartbeats 4000000 in
theorem ctX11_person {E : zEV} {F : Nat} {v1 : Int32} {v2 : Int32} {v3 : Int32} {μ : zMem} {out : zR} (hf : fX11_person F v1 v2 v3 μ = some out) : zCt E yX11_person cX11_person 4 (some .boolean) 2 [.ref 0, .int v1, .int v2, .int v3] μ out :=
  zCt.of [some (.ref 0), some (.int v1), some (.int v2), some (.int v3)] (by decide +kernel) (Nat.le_of_ble_eq_true rfl) (zLw_s (zLw_s (zLw_s (zLw_s zLw_0)))) rfl (fun X hE ho hr hC => by
    subst hE; subst ho
    exact wX11_person hC hr hf)
/-! X11_feed -/
def fX11_feed (F : Nat) (v1 : Int32) (v2 : Int32) (v3 : Int32) (v4 : Int32) (v5 : Int32) (μ : zMem) : Option zR :=
  if ((μ 1 1) + (nI 20)) ≤ (nI 260) then zBd (fX9_puts F v1 μ) (fun r4 m4 => zBd (fX9_puts F v2 m4) (fun r6 m6 => zBd (fX9_puts F v3 m6) (fun r8 m8 => zBd (fX9_puts F v4 m8) (fun r10 m10 => zBd (fX9_puts F v5 m10) (fun r12 m12 => some ((m12 1 1), m12)))))) else some ((-1 : Int32), μ)
set_option maxRecDepth 20000 in
set_option maxHeartbeats 4000000 in
theorem wX11_feed {X : zX} {F : Nat} (hC : zCx X RX11 cX11_feed 6 1) (hret : zRt X (some .int)) {v1 : Int32} {v2 : Int32} {v3 : Int32} {v4 : Int32} {v5 : Int32} {μ : zMem} (hf : fX11_feed F v1 v2 v3 v4 v5 μ = some (zOut X)) : zAW X 0 [some (.ref 0), some (.int v1), some (.int v2), some (.int v3), some (.int v4), some (.int v5)] [] μ := by
  unfold fX11_feed at hf
  refine zs_al hC dX11_feed_0 rfl ?_
  refine zs_getR 1 hC fl_RX11_10 zL0 rfl dX11_feed_1 ?_
  refine zs_getI hC fl_RX11_105 zL1 rfl dX11_feed_4 ?_
  refine zs_k hC dX11_feed_7 ?_
  refine zs_iadd hC dX11_feed_9 ?_
  refine zs_k hC dX11_feed_10 ?_
  refine zs_ic_le hC dX11_feed_13 (fun _ hf => ?_) (fun _ hf => ?_) hf
  · refine zs_al hC dX11_feed_18 rfl ?_
    refine zs_getR 1 hC fl_RX11_10 zL0 rfl dX11_feed_19 ?_
    refine zs_il hC dX11_feed_22 rfl ?_
    refine zs_callV [.int v1] hC cw_X9_puts cl_RX11_109 zL1 rfl (by decide) rfl rfl (Nat.le_of_ble_eq_true rfl) dX11_feed_23 (fun _ h => ctX9_puts h) (fun r4 m4 _ hf => ?_) hf
    show zAW X 26 _ _ m4
    refine zs_al hC dX11_feed_26 rfl ?_
    refine zs_getR 1 hC fl_RX11_10 zL0 rfl dX11_feed_27 ?_
    refine zs_il hC dX11_feed_30 rfl ?_
    refine zs_callV [.int v2] hC cw_X9_puts cl_RX11_109 zL1 rfl (by decide) rfl rfl (Nat.le_of_ble_eq_true rfl) dX11_feed_31 (fun _ h => ctX9_puts h) (fun r6 m6 _ hf => ?_) hf
    show zAW X 34 _ _ m6
    refine zs_al hC dX11_feed_34 rfl ?_
    refine zs_getR 1 hC fl_RX11_10 zL0 rfl dX11_feed_35 ?_
    refine zs_il hC dX11_feed_38 rfl ?_
    refine zs_callV [.int v3] hC cw_X9_puts cl_RX11_109 zL1 rfl (by decide) rfl rfl (Nat.le_of_ble_eq_true rfl) dX11_feed_39 (fun _ h => ctX9_puts h) (fun r8 m8 _ hf => ?_) hf
    show zAW X 42 _ _ m8
    refine zs_al hC dX11_feed_42 rfl ?_
    refine zs_getR 1 hC fl_RX11_10 zL0 rfl dX11_feed_43 ?_
    refine zs_il hC dX11_feed_46 rfl ?_
    refine zs_callV [.int v4] hC cw_X9_puts cl_RX11_109 zL1 rfl (by decide) rfl rfl (Nat.le_of_ble_eq_true rfl) dX11_feed_48 (fun _ h => ctX9_puts h) (fun r10 m10 _ hf => ?_) hf
    show zAW X 51 _ _ m10
    refine zs_al hC dX11_feed_51 rfl ?_
    refine zs_getR 1 hC fl_RX11_10 zL0 rfl dX11_feed_52 ?_
    refine zs_il hC dX11_feed_55 rfl ?_
    refine zs_callV [.int v5] hC cw_X9_puts cl_RX11_109 zL1 rfl (by decide) rfl rfl (Nat.le_of_ble_eq_true rfl) dX11_feed_57 (fun _ h => ctX9_puts h) (fun r12 m12 _ hf => ?_) hf
    show zAW X 60 _ _ m12
    refine zs_al hC dX11_feed_60 rfl ?_
    refine zs_getR 1 hC fl_RX11_10 zL0 rfl dX11_feed_61 ?_
    refine zs_getI hC fl_RX11_105 zL1 rfl dX11_feed_64 ?_
    exact zs_iret hC hret dX11_feed_67 hf
  · refine zs_k hC dX11_feed_16 ?_
    exact zs_iret hC hret dX11_feed_17 hf
set_option maxRecDepth 20000 in
set_option maxHeartbeats 4000000 in
theorem ctX11_feed {E : zEV} {F : Nat} {v1 : Int32} {v2 : Int32} {v3 : Int32} {v4 : Int32} {v5 : Int32} {μ : zMem} {out : zR} (hf : fX11_feed F v1 v2 v3 v4 v5 μ = some out) : zCt E yX11_feed cX11_feed 6 (some .int) 1 [.ref 0, .int v1, .int v2, .int v3, .int v4, .int v5] μ out :=
  zCt.of [some (.ref 0), some (.int v1), some (.int v2), some (.int v3), some (.int v4), some (.int v5)] (by decide +kernel) (Nat.le_of_ble_eq_true rfl) (zLw_s (zLw_s (zLw_s (zLw_s (zLw_s (zLw_s zLw_0)))))) rfl (fun X hE ho hr hC => by
    subst hE; subst ho
    exact wX11_feed hC hr hf)
/-! X11_law -/
def fX11_law (F : Nat) (v1 : Int32) (μ : zMem) : Option zR :=
  zBd (fX11_isWithin F v1 (nI 1) (nI 240) μ) (fun r1 m1 => if r1 = 0 then some ((-1 : Int32), m1) else zBd (fX9_opens F v1 m1) (fun r3 m3 => if r3 = 0 then some ((-1 : Int32), m3) else zBd (fX6_reads F m3) (fun r6 m6 => zBd (fX9_empties F m6) (fun r8 m8 => if r6 = 0 then some ((m8 1 3), m8) else zGb (zIsLw ((m8 18 0).toNatClampNeg)) (some ((m8 ((m8 18 0).toNatClampNeg) 7), m8))))))
set_option maxRecDepth 20000 in
set_option maxHeartbeats 4000000 in
theorem wX11_law {X : zX} {F : Nat} (hC : zCx X RX11 cX11_law 3 64) (hret : zRt X (some .int)) {v1 : Int32} {μ : zMem} (hf : fX11_law F v1 μ = some (zOut X)) : zAW X 0 [some (.ref 0), some (.int v1), none] [] μ := by
  unfold fX11_law at hf
  refine zs_il hC dX11_law_0 rfl ?_
  refine zs_k hC dX11_law_1 ?_
  refine zs_k hC dX11_law_2 ?_
  refine zs_callS [.int v1, .int (nI 1), .int (nI 240)] hC cw_X11_isWithin cl_RX11_97 (by decide) rfl rfl (Nat.le_of_ble_eq_true rfl) dX11_law_5 (fun _ h => ctX11_isWithin h) (fun r1 m1 _ hf => ?_) hf
  show zAW X 8 _ (.int r1 :: _) m1
  refine zs_if_eq hC dX11_law_8 (fun _ hf => ?_) (fun _ hf => ?_) hf
  · refine zs_k hC dX11_law_22 ?_
    exact zs_iret hC hret dX11_law_23 hf
  · refine zs_al hC dX11_law_11 rfl ?_
    refine zs_getR 1 hC fl_RX11_10 zL0 rfl dX11_law_12 ?_
    refine zs_il hC dX11_law_15 rfl ?_
    refine zs_callV [.int v1] hC cw_X9_opens cl_RX11_113 zL1 rfl (by decide) rfl rfl (Nat.le_of_ble_eq_true rfl) dX11_law_16 (fun _ h => ctX9_opens h) (fun r3 m3 _ hf => ?_) hf
    show zAW X 19 _ (.int r3 :: _) m3
    refine zs_if_ne hC dX11_law_19 (fun _ hf => ?_) (fun _ hf => ?_) hf
    · refine zs_k hC dX11_law_22 ?_
      exact zs_iret hC hret dX11_law_23 hf
    · refine zs_al hC dX11_law_24 rfl ?_
      refine zs_getR 18 hC fl_RX11_36 zL0 rfl dX11_law_25 ?_
      refine zs_al hC dX11_law_28 rfl ?_
      refine zs_getR 1 hC fl_RX11_10 zL0 rfl dX11_law_29 ?_
      refine zs_callV [.ref 1] hC cw_X6_reads cl_RX11_116 zL18 rfl (by decide) rfl rfl (Nat.le_of_ble_eq_true rfl) dX11_law_32 (fun _ h => ctX6_reads h) (fun r6 m6 _ hf => ?_) hf
      show zAW X 35 _ (.int r6 :: _) m6
      refine zs_is hC dX11_law_35 (by decide) rfl ?_
      refine zs_al hC dX11_law_36 rfl ?_
      refine zs_getR 1 hC fl_RX11_10 zL0 rfl dX11_law_37 ?_
      refine zs_callV [] hC cw_X9_empties cl_RX11_120 zL1 rfl (by decide) rfl rfl (Nat.le_of_ble_eq_true rfl) dX11_law_40 (fun _ h => ctX9_empties h) (fun r8 m8 _ hf => ?_) hf
      show zAW X 43 _ _ m8
      refine zs_il hC dX11_law_43 rfl ?_
      refine zs_if_eq hC dX11_law_44 (fun _ hf => ?_) (fun _ hf => ?_) hf
      · refine zs_al hC dX11_law_60 rfl ?_
        refine zs_getR 1 hC fl_RX11_10 zL0 rfl dX11_law_61 ?_
        refine zs_getI hC fl_RX11_132 zL1 rfl dX11_law_64 ?_
        exact zs_iret hC hret dX11_law_67 hf
      · refine zs_al hC dX11_law_47 rfl ?_
        refine zs_getR 18 hC fl_RX11_36 zL0 rfl dX11_law_48 ?_
        refine zs_getD hC fl_RX11_123 zL18 rfl dX11_law_51 ?_
        refine zs_gb (fun hd12 hf => ?_) hf
        refine zs_getI hC fl_RX11_127 (zLw0 hd12) rfl dX11_law_54 ?_
        refine zs_goto hC dX11_law_57 ?_
        exact zs_iret hC hret dX11_law_67 hf
set_option maxRecDepth 20000 in
set_option maxHeartbeats 4000000 in
theorem ctX11_law {E : zEV} {F : Nat} {v1 : Int32} {μ : zMem} {out : zR} (hf : fX11_law F v1 μ = some out) : zCt E yX11_law cX11_law 3 (some .int) 64 [.ref 0, .int v1] μ out :=
  zCt.of [some (.ref 0), some (.int v1), none] (by decide +kernel) (Nat.le_of_ble_eq_true rfl) (zLw_s (zLw_s (zLw_e zLw_0))) rfl (fun X hE ho hr hC => by
    subst hE; subst ho
    exact wX11_law hC hr hf)
/-! X11_gossip -/
def fX11_gossip (F : Nat) (v1 : Int32) (μ : zMem) : Option zR :=
  zBd (fX11_isWithin F v1 (nI 1) (nI 120) μ) (fun r1 m1 => if r1 = 0 then some ((-1 : Int32), m1) else zBd (fX9_opens F v1 m1) (fun r3 m3 => if r3 = 0 then some ((-1 : Int32), m3) else zBd (fX4_reads F (m3 3 4) m3) (fun r8 m8 => zBd (fX9_empties F m8) (fun r10 m10 => if r8 = 0 then some ((m10 1 3), m10) else zBd (fX4_isDoneTo F 3 m10) (fun r15 m15 => some ((m15 36 3), m15))))))
set_option maxRecDepth 20000 in
set_option maxHeartbeats 4000000 in
theorem wX11_gossip {X : zX} {F : Nat} (hC : zCx X RX11 cX11_gossip 3 5) (hret : zRt X (some .int)) {v1 : Int32} {μ : zMem} (hf : fX11_gossip F v1 μ = some (zOut X)) : zAW X 0 [some (.ref 0), some (.int v1), none] [] μ := by
  unfold fX11_gossip at hf
  refine zs_il hC dX11_gossip_0 rfl ?_
  refine zs_k hC dX11_gossip_1 ?_
  refine zs_k hC dX11_gossip_2 ?_
  refine zs_callS [.int v1, .int (nI 1), .int (nI 120)] hC cw_X11_isWithin cl_RX11_97 (by decide) rfl rfl (Nat.le_of_ble_eq_true rfl) dX11_gossip_4 (fun _ h => ctX11_isWithin h) (fun r1 m1 _ hf => ?_) hf
  show zAW X 7 _ (.int r1 :: _) m1
  refine zs_if_eq hC dX11_gossip_7 (fun _ hf => ?_) (fun _ hf => ?_) hf
  · refine zs_k hC dX11_gossip_21 ?_
    exact zs_iret hC hret dX11_gossip_22 hf
  · refine zs_al hC dX11_gossip_10 rfl ?_
    refine zs_getR 1 hC fl_RX11_10 zL0 rfl dX11_gossip_11 ?_
    refine zs_il hC dX11_gossip_14 rfl ?_
    refine zs_callV [.int v1] hC cw_X9_opens cl_RX11_113 zL1 rfl (by decide) rfl rfl (Nat.le_of_ble_eq_true rfl) dX11_gossip_15 (fun _ h => ctX9_opens h) (fun r3 m3 _ hf => ?_) hf
    show zAW X 18 _ (.int r3 :: _) m3
    refine zs_if_ne hC dX11_gossip_18 (fun _ hf => ?_) (fun _ hf => ?_) hf
    · refine zs_k hC dX11_gossip_21 ?_
      exact zs_iret hC hret dX11_gossip_22 hf
    · refine zs_al hC dX11_gossip_23 rfl ?_
      refine zs_getR 36 hC fl_RX11_50 zL0 rfl dX11_gossip_24 ?_
      refine zs_al hC dX11_gossip_27 rfl ?_
      refine zs_getR 1 hC fl_RX11_10 zL0 rfl dX11_gossip_28 ?_
      refine zs_al hC dX11_gossip_31 rfl ?_
      refine zs_getR 3 hC fl_RX11_19 zL0 rfl dX11_gossip_32 ?_
      refine zs_getI hC fl_RX11_135 zL3 rfl dX11_gossip_35 ?_
      refine zs_callV [.ref 1, .int (m3 3 4)] hC cw_X4_reads cl_RX11_138 zL36 rfl (by decide) rfl rfl (Nat.le_of_ble_eq_true rfl) dX11_gossip_38 (fun _ h => ctX4_reads h) (fun r8 m8 _ hf => ?_) hf
      show zAW X 41 _ (.int r8 :: _) m8
      refine zs_is hC dX11_gossip_41 (by decide) rfl ?_
      refine zs_al hC dX11_gossip_42 rfl ?_
      refine zs_getR 1 hC fl_RX11_10 zL0 rfl dX11_gossip_43 ?_
      refine zs_callV [] hC cw_X9_empties cl_RX11_120 zL1 rfl (by decide) rfl rfl (Nat.le_of_ble_eq_true rfl) dX11_gossip_46 (fun _ h => ctX9_empties h) (fun r10 m10 _ hf => ?_) hf
      show zAW X 49 _ _ m10
      refine zs_il hC dX11_gossip_49 rfl ?_
      refine zs_if_ne hC dX11_gossip_50 (fun _ hf => ?_) (fun _ hf => ?_) hf
      · refine zs_al hC dX11_gossip_53 rfl ?_
        refine zs_getR 1 hC fl_RX11_10 zL0 rfl dX11_gossip_54 ?_
        refine zs_getI hC fl_RX11_132 zL1 rfl dX11_gossip_57 ?_
        exact zs_iret hC hret dX11_gossip_60 hf
      · refine zs_al hC dX11_gossip_61 rfl ?_
        refine zs_getR 36 hC fl_RX11_50 zL0 rfl dX11_gossip_62 ?_
        refine zs_al hC dX11_gossip_65 rfl ?_
        refine zs_getR 3 hC fl_RX11_19 zL0 rfl dX11_gossip_66 ?_
        refine zs_callV [.ref 3] hC cw_X4_isDoneTo cl_RX11_141 zL36 rfl (by decide) rfl rfl (Nat.le_of_ble_eq_true rfl) dX11_gossip_69 (fun _ h => ctX4_isDoneTo (by decide) h) (fun r15 m15 _ hf => ?_) hf
        show zAW X 72 _ _ m15
        refine zs_al hC dX11_gossip_72 rfl ?_
        refine zs_getR 36 hC fl_RX11_50 zL0 rfl dX11_gossip_73 ?_
        refine zs_getI hC fl_RX11_145 zL36 rfl dX11_gossip_76 ?_
        exact zs_iret hC hret dX11_gossip_79 hf
set_option maxRecDepth 20000 in
set_option maxHeartbeats 4000000 in
theorem ctX11_gossip {E : zEV} {F : Nat} {v1 : Int32} {μ : zMem} {out : zR} (hf : fX11_gossip F v1 μ = some out) : zCt E yX11_gossip cX11_gossip 3 (some .int) 5 [.ref 0, .int v1] μ out :=
  zCt.of [some (.ref 0), some (.int v1), none] (by decide +kernel) (Nat.le_of_ble_eq_true rfl) (zLw_s (zLw_s (zLw_e zLw_0))) rfl (fun X hE ho hr hC => by
    subst hE; subst ho
    exact wX11_gossip hC hr hf)
/-! X11_copy -/
def fX11_copy (F : Nat) (v1 : Int32) (μ : zMem) : Option zR :=
  zBd (fX11_isWithin F v1 (nI 1) (nI 200) μ) (fun r1 m1 => if r1 = 0 then some ((-1 : Int32), m1) else zBd (fX9_opens F v1 m1) (fun r3 m3 => if r3 = 0 then some ((-1 : Int32), m3) else zGb (zIsCp ((m3 0 9).toNatClampNeg)) (zBd (fX1_reads F ((m3 0 9).toNatClampNeg) m3) (fun r6 m6 => zBd (fX9_empties F m6) (fun r8 m8 => if r6 = 0 then some ((m8 1 3), m8) else zGb (zIsCp ((m8 0 8).toNatClampNeg)) (zGb (zIsCp ((m8 0 9).toNatClampNeg)) (zLt (zUp m8 0 8 (nI ((m8 0 9).toNatClampNeg))) (fun m13 => zLt (zUp m13 0 9 (nI ((m8 0 8).toNatClampNeg))) (fun m14 => zGb (zIsCp ((m14 0 8).toNatClampNeg)) (some ((m14 ((m14 0 8).toNatClampNeg) 2), m14)))))))))))
set_option maxRecDepth 20000 in
set_option maxHeartbeats 4000000 in
theorem wX11_copy {X : zX} {F : Nat} (hC : zCx X RX11 cX11_copy 4 5) (hret : zRt X (some .int)) {v1 : Int32} {μ : zMem} (hf : fX11_copy F v1 μ = some (zOut X)) : zAW X 0 [some (.ref 0), some (.int v1), none, none] [] μ := by
  unfold fX11_copy at hf
  refine zs_il hC dX11_copy_0 rfl ?_
  refine zs_k hC dX11_copy_1 ?_
  refine zs_k hC dX11_copy_2 ?_
  refine zs_callS [.int v1, .int (nI 1), .int (nI 200)] hC cw_X11_isWithin cl_RX11_97 (by decide) rfl rfl (Nat.le_of_ble_eq_true rfl) dX11_copy_5 (fun _ h => ctX11_isWithin h) (fun r1 m1 _ hf => ?_) hf
  show zAW X 8 _ (.int r1 :: _) m1
  refine zs_if_eq hC dX11_copy_8 (fun _ hf => ?_) (fun _ hf => ?_) hf
  · refine zs_k hC dX11_copy_22 ?_
    exact zs_iret hC hret dX11_copy_23 hf
  · refine zs_al hC dX11_copy_11 rfl ?_
    refine zs_getR 1 hC fl_RX11_10 zL0 rfl dX11_copy_12 ?_
    refine zs_il hC dX11_copy_15 rfl ?_
    refine zs_callV [.int v1] hC cw_X9_opens cl_RX11_113 zL1 rfl (by decide) rfl rfl (Nat.le_of_ble_eq_true rfl) dX11_copy_16 (fun _ h => ctX9_opens h) (fun r3 m3 _ hf => ?_) hf
    show zAW X 19 _ (.int r3 :: _) m3
    refine zs_if_ne hC dX11_copy_19 (fun _ hf => ?_) (fun _ hf => ?_) hf
    · refine zs_k hC dX11_copy_22 ?_
      exact zs_iret hC hret dX11_copy_23 hf
    · refine zs_al hC dX11_copy_24 rfl ?_
      refine zs_getD hC fl_RX11_61 zL0 rfl dX11_copy_25 ?_
      refine zs_gb (fun hd4 hf => ?_) hf
      refine zs_al hC dX11_copy_28 rfl ?_
      refine zs_getR 1 hC fl_RX11_10 zL0 rfl dX11_copy_29 ?_
      refine zs_callV [.ref 1] hC cw_X1_reads cl_RX11_148 (zCp0 hd4) rfl (by decide) rfl rfl (Nat.le_of_ble_eq_true rfl) dX11_copy_32 (fun _ h => ctX1_reads (hd4) h) (fun r6 m6 _ hf => ?_) hf
      show zAW X 35 _ (.int r6 :: _) m6
      refine zs_is hC dX11_copy_35 (by decide) rfl ?_
      refine zs_al hC dX11_copy_36 rfl ?_
      refine zs_getR 1 hC fl_RX11_10 zL0 rfl dX11_copy_37 ?_
      refine zs_callV [] hC cw_X9_empties cl_RX11_120 zL1 rfl (by decide) rfl rfl (Nat.le_of_ble_eq_true rfl) dX11_copy_40 (fun _ h => ctX9_empties h) (fun r8 m8 _ hf => ?_) hf
      show zAW X 43 _ _ m8
      refine zs_il hC dX11_copy_43 rfl ?_
      refine zs_if_ne hC dX11_copy_44 (fun _ hf => ?_) (fun _ hf => ?_) hf
      · refine zs_al hC dX11_copy_47 rfl ?_
        refine zs_getR 1 hC fl_RX11_10 zL0 rfl dX11_copy_48 ?_
        refine zs_getI hC fl_RX11_132 zL1 rfl dX11_copy_51 ?_
        exact zs_iret hC hret dX11_copy_54 hf
      · refine zs_al hC dX11_copy_55 rfl ?_
        refine zs_getD hC fl_RX11_57 zL0 rfl dX11_copy_56 ?_
        refine zs_gb (fun hd11 hf => ?_) hf
        refine zs_as hC dX11_copy_59 (by decide) rfl ?_
        refine zs_al hC dX11_copy_60 rfl ?_
        refine zs_al hC dX11_copy_61 rfl ?_
        refine zs_getD hC fl_RX11_61 zL0 rfl dX11_copy_62 ?_
        refine zs_gb (fun hd12 hf => ?_) hf
        refine zs_putD hC fl_RX11_57 fp_11_8 zL0 rfl ((zCp0 hd12)).1 dX11_copy_65 ?_
        refine zs_let (fun m13 _ hf => ?_) hf
        refine zs_al hC dX11_copy_68 rfl ?_
        refine zs_al hC dX11_copy_69 rfl ?_
        refine zs_putD hC fl_RX11_61 fp_11_9 zL0 rfl ((zCp0 hd11)).1 dX11_copy_70 ?_
        refine zs_let (fun m14 _ hf => ?_) hf
        refine zs_al hC dX11_copy_73 rfl ?_
        refine zs_getD hC fl_RX11_57 zL0 rfl dX11_copy_74 ?_
        refine zs_gb (fun hd15 hf => ?_) hf
        refine zs_getI hC fl_RX11_149 (zCp0 hd15) rfl dX11_copy_77 ?_
        exact zs_iret hC hret dX11_copy_80 hf
set_option maxRecDepth 20000 in
set_option maxHeartbeats 4000000 in
theorem ctX11_copy {E : zEV} {F : Nat} {v1 : Int32} {μ : zMem} {out : zR} (hf : fX11_copy F v1 μ = some out) : zCt E yX11_copy cX11_copy 4 (some .int) 5 [.ref 0, .int v1] μ out :=
  zCt.of [some (.ref 0), some (.int v1), none, none] (by decide +kernel) (Nat.le_of_ble_eq_true rfl) (zLw_s (zLw_s (zLw_e (zLw_e zLw_0)))) rfl (fun X hE ho hr hC => by
    subst hE; subst ho
    exact wX11_copy hC hr hf)
/-! X11_weeks -/
def fX11_weeks (F : Nat) (v1 : Int32) (μ : zMem) : Option zR :=
  zBd (fX11_isWithin F v1 (nI 1) (nI 100) μ) (fun r1 m1 => if r1 = 0 then some ((-1 : Int32), m1) else zGb (zIsLw ((m1 18 0).toNatClampNeg)) (zBd (fX10_goesByTimes F v1 3 ((m1 18 0).toNatClampNeg) m1) (fun r6 m6 => some (r6, m6))))
set_option maxRecDepth 20000 in
set_option maxHeartbeats 4000000 in
theorem wX11_weeks {X : zX} {F : Nat} (hC : zCx X RX11 cX11_weeks 2 7) (hret : zRt X (some .int)) {v1 : Int32} {μ : zMem} (hf : fX11_weeks F v1 μ = some (zOut X)) : zAW X 0 [some (.ref 0), some (.int v1)] [] μ := by
  unfold fX11_weeks at hf
  refine zs_il hC dX11_weeks_0 rfl ?_
  refine zs_k hC dX11_weeks_1 ?_
  refine zs_k hC dX11_weeks_2 ?_
  refine zs_callS [.int v1, .int (nI 1), .int (nI 100)] hC cw_X11_isWithin cl_RX11_97 (by decide) rfl rfl (Nat.le_of_ble_eq_true rfl) dX11_weeks_4 (fun _ h => ctX11_isWithin h) (fun r1 m1 _ hf => ?_) hf
  show zAW X 7 _ (.int r1 :: _) m1
  refine zs_if_ne hC dX11_weeks_7 (fun _ hf => ?_) (fun _ hf => ?_) hf
  · refine zs_k hC dX11_weeks_10 ?_
    exact zs_iret hC hret dX11_weeks_11 hf
  · refine zs_al hC dX11_weeks_12 rfl ?_
    refine zs_getR 33 hC fl_RX11_43 zL0 rfl dX11_weeks_13 ?_
    refine zs_il hC dX11_weeks_16 rfl ?_
    refine zs_al hC dX11_weeks_17 rfl ?_
    refine zs_getR 3 hC fl_RX11_19 zL0 rfl dX11_weeks_18 ?_
    refine zs_al hC dX11_weeks_21 rfl ?_
    refine zs_getR 18 hC fl_RX11_36 zL0 rfl dX11_weeks_22 ?_
    refine zs_getD hC fl_RX11_123 zL18 rfl dX11_weeks_25 ?_
    refine zs_gb (fun hd5 hf => ?_) hf
    refine zs_callV [.int v1, .ref 3, .ref ((m1 18 0).toNatClampNeg)] hC cw_X10_goesByTimes cl_RX11_152 zL33 rfl (by decide) rfl rfl (Nat.le_of_ble_eq_true rfl) dX11_weeks_28 (fun _ h => ctX10_goesByTimes (by decide) (hd5) h) (fun r6 m6 _ hf => ?_) hf
    show zAW X 31 _ (.int r6 :: _) m6
    exact zs_iret hC hret dX11_weeks_31 hf
set_option maxRecDepth 20000 in
set_option maxHeartbeats 4000000 in
theorem ctX11_weeks {E : zEV} {F : Nat} {v1 : Int32} {μ : zMem} {out : zR} (hf : fX11_weeks F v1 μ = some out) : zCt E yX11_weeks cX11_weeks 2 (some .int) 7 [.ref 0, .int v1] μ out :=
  zCt.of [some (.ref 0), some (.int v1)] (by decide +kernel) (Nat.le_of_ble_eq_true rfl) (zLw_s (zLw_s zLw_0)) rfl (fun X hE ho hr hC => by
    subst hE; subst ho
    exact wX11_weeks hC hr hf)
/-! X11_tried -/
def fX11_tried_37 (F : Nat) (v1 : Int32) (v2 : Int32) (μ : zMem) : Option zR :=
  zBd (fX8_becomes F 13 3 μ) (fun r3 m3 => zGb (zIsLw ((m3 18 0).toNatClampNeg)) (zBd (fX10_goesByTimes F v1 13 ((m3 18 0).toNatClampNeg) m3) (fun r8 m8 => (if v2 = (nI 0) then some (r8, m8) else if v2 = (nI 1) then some ((m8 33 2), m8) else if v2 = (nI 2) then zBd (fX8_knownToAny F 13 m8) (fun r12 m12 => some (r12, m12)) else if v2 = (nI 3) then zBd (fX8_knownToAll F 13 m8) (fun r14 m14 => some (r14, m14)) else zBd (fX8_secretsOf F 13 (v2 - (nI 100)) m8) (fun r16 m16 => some (r16, m16))))))
def fX11_tried (F : Nat) (v1 : Int32) (v2 : Int32) (μ : zMem) : Option zR :=
  zBd (fX8_isTold F 3 (v2 - (nI 100)) μ) (fun r2 m2 => zBd (fX11_isWithin F v1 (nI 1) (nI 100) m2) (fun r3 m3 => if r3 = 0 then some ((-1 : Int32), m3) else zBd (fX11_isWithin F v2 (nI 0) (nI 3) m3) (fun r4 m4 => if r4 = 0 then if r2 = 0 then some ((-1 : Int32), m4) else fX11_tried_37 F v1 v2 m4 else fX11_tried_37 F v1 v2 m4)))
set_option maxRecDepth 20000 in
set_option maxHeartbeats 4000000 in
theorem wX11_tried_37 {X : zX} {F : Nat} (hC : zCx X RX11 cX11_tried 5 7) (hret : zRt X (some .int)) {v1 : Int32} {v2 : Int32} {μ : zMem} (hf : fX11_tried_37 F v1 v2 μ = some (zOut X)) : zAW X 37 [some (.ref 0), some (.int v1), some (.int v2), none, none] [] μ := by
  unfold fX11_tried_37 at hf
  refine zs_al hC dX11_tried_37 rfl ?_
  refine zs_getR 13 hC fl_RX11_26 zL0 rfl dX11_tried_38 ?_
  refine zs_al hC dX11_tried_41 rfl ?_
  refine zs_getR 3 hC fl_RX11_19 zL0 rfl dX11_tried_42 ?_
  refine zs_callV [.ref 3] hC cw_X8_becomes cl_RX11_159 zL13 rfl (by decide) rfl rfl (Nat.le_of_ble_eq_true rfl) dX11_tried_45 (fun _ h => ctX8_becomes (by decide) (by decide) h) (fun r3 m3 _ hf => ?_) hf
  show zAW X 48 _ _ m3
  refine zs_al hC dX11_tried_48 rfl ?_
  refine zs_getR 33 hC fl_RX11_43 zL0 rfl dX11_tried_49 ?_
  refine zs_il hC dX11_tried_52 rfl ?_
  refine zs_al hC dX11_tried_53 rfl ?_
  refine zs_getR 13 hC fl_RX11_26 zL0 rfl dX11_tried_54 ?_
  refine zs_al hC dX11_tried_57 rfl ?_
  refine zs_getR 18 hC fl_RX11_36 zL0 rfl dX11_tried_58 ?_
  refine zs_getD hC fl_RX11_123 zL18 rfl dX11_tried_61 ?_
  refine zs_gb (fun hd7 hf => ?_) hf
  refine zs_callV [.int v1, .ref 13, .ref ((m3 18 0).toNatClampNeg)] hC cw_X10_goesByTimes cl_RX11_152 zL33 rfl (by decide) rfl rfl (Nat.le_of_ble_eq_true rfl) dX11_tried_64 (fun _ h => ctX10_goesByTimes (by decide) (hd7) h) (fun r8 m8 _ hf => ?_) hf
  show zAW X 67 _ (.int r8 :: _) m8
  refine zs_is hC dX11_tried_67 (by decide) rfl ?_
  refine zs_il hC dX11_tried_69 rfl ?_
  refine zs_case (nI 0) (fun hx hf => ?_) (fun e70_0 hf => ?_) hf
  · refine zs_tabI (off := 30) (tgt := 100) hC hx dX11_tried_70 (by decide) (by decide) rfl (by decide) ?_
    refine zs_il hC dX11_tried_100 rfl ?_
    exact zs_iret hC hret dX11_tried_102 hf
  refine zs_case (nI 1) (fun hx hf => ?_) (fun e70_1 hf => ?_) hf
  · refine zs_tabI (off := 33) (tgt := 103) hC hx dX11_tried_70 (by decide) (by decide) rfl (by decide) ?_
    refine zs_al hC dX11_tried_103 rfl ?_
    refine zs_getR 33 hC fl_RX11_43 zL0 rfl dX11_tried_104 ?_
    refine zs_getI hC fl_RX11_162 zL33 rfl dX11_tried_107 ?_
    exact zs_iret hC hret dX11_tried_110 hf
  refine zs_case (nI 2) (fun hx hf => ?_) (fun e70_2 hf => ?_) hf
  · refine zs_tabI (off := 41) (tgt := 111) hC hx dX11_tried_70 (by decide) (by decide) rfl (by decide) ?_
    refine zs_al hC dX11_tried_111 rfl ?_
    refine zs_getR 13 hC fl_RX11_26 zL0 rfl dX11_tried_112 ?_
    refine zs_callV [] hC cw_X8_knownToAny cl_RX11_165 zL13 rfl (by decide) rfl rfl (Nat.le_of_ble_eq_true rfl) dX11_tried_115 (fun _ h => ctX8_knownToAny (by decide) h) (fun r12 m12 _ hf => ?_) hf
    show zAW X 118 _ (.int r12 :: _) m12
    exact zs_iret hC hret dX11_tried_118 hf
  refine zs_case (nI 3) (fun hx hf => ?_) (fun e70_3 hf => ?_) hf
  · refine zs_tabI (off := 49) (tgt := 119) hC hx dX11_tried_70 (by decide) (by decide) rfl (by decide) ?_
    refine zs_al hC dX11_tried_119 rfl ?_
    refine zs_getR 13 hC fl_RX11_26 zL0 rfl dX11_tried_120 ?_
    refine zs_callV [] hC cw_X8_knownToAll cl_RX11_169 zL13 rfl (by decide) rfl rfl (Nat.le_of_ble_eq_true rfl) dX11_tried_123 (fun _ h => ctX8_knownToAll (by decide) h) (fun r14 m14 _ hf => ?_) hf
    show zAW X 126 _ (.int r14 :: _) m14
    exact zs_iret hC hret dX11_tried_126 hf
  have e70_0 := lv_neT (a := 0) e70_0 (by decide)
  have e70_1 := lv_neT (a := 1) e70_1 (by decide)
  have e70_2 := lv_neT (a := 2) e70_2 (by decide)
  have e70_3 := lv_neT (a := 3) e70_3 (by decide)
  refine zs_tabO (tgt := 127) hC dX11_tried_70 (by omega) (by decide) ?_
  refine zs_al hC dX11_tried_127 rfl ?_
  refine zs_getR 13 hC fl_RX11_26 zL0 rfl dX11_tried_128 ?_
  refine zs_il hC dX11_tried_131 rfl ?_
  refine zs_k hC dX11_tried_132 ?_
  refine zs_isub hC dX11_tried_134 ?_
  refine zs_callV [.int (v2 - (nI 100))] hC cw_X8_secretsOf cl_RX11_172 zL13 rfl (by decide) rfl rfl (Nat.le_of_ble_eq_true rfl) dX11_tried_135 (fun _ h => ctX8_secretsOf (by decide) h) (fun r16 m16 _ hf => ?_) hf
  show zAW X 138 _ (.int r16 :: _) m16
  exact zs_iret hC hret dX11_tried_138 hf
set_option maxRecDepth 20000 in
set_option maxHeartbeats 4000000 in
theorem wX11_tried {X : zX} {F : Nat} (hC : zCx X RX11 cX11_tried 5 7) (hret : zRt X (some .int)) {v1 : Int32} {v2 : Int32} {μ : zMem} (hf : fX11_tried F v1 v2 μ = some (zOut X)) : zAW X 0 [some (.ref 0), some (.int v1), some (.int v2), none, none] [] μ := by
  unfold fX11_tried at hf
  refine zs_al hC dX11_tried_0 rfl ?_
  refine zs_getR 3 hC fl_RX11_19 zL0 rfl dX11_tried_1 ?_
  refine zs_il hC dX11_tried_4 rfl ?_
  refine zs_k hC dX11_tried_5 ?_
  refine zs_isub hC dX11_tried_7 ?_
  refine zs_callV [.int (v2 - (nI 100))] hC cw_X8_isTold cl_RX11_156 zL3 rfl (by decide) rfl rfl (Nat.le_of_ble_eq_true rfl) dX11_tried_8 (fun _ h => ctX8_isTold (by decide) h) (fun r2 m2 _ hf => ?_) hf
  show zAW X 11 _ (.int r2 :: _) m2
  refine zs_is hC dX11_tried_11 (by decide) rfl ?_
  refine zs_il hC dX11_tried_12 rfl ?_
  refine zs_k hC dX11_tried_13 ?_
  refine zs_k hC dX11_tried_14 ?_
  refine zs_callS [.int v1, .int (nI 1), .int (nI 100)] hC cw_X11_isWithin cl_RX11_97 (by decide) rfl rfl (Nat.le_of_ble_eq_true rfl) dX11_tried_16 (fun _ h => ctX11_isWithin h) (fun r3 m3 _ hf => ?_) hf
  show zAW X 19 _ (.int r3 :: _) m3
  refine zs_if_eq hC dX11_tried_19 (fun _ hf => ?_) (fun _ hf => ?_) hf
  · refine zs_k hC dX11_tried_35 ?_
    exact zs_iret hC hret dX11_tried_36 hf
  · refine zs_il hC dX11_tried_22 rfl ?_
    refine zs_k hC dX11_tried_23 ?_
    refine zs_k hC dX11_tried_24 ?_
    refine zs_callS [.int v2, .int (nI 0), .int (nI 3)] hC cw_X11_isWithin cl_RX11_97 (by decide) rfl rfl (Nat.le_of_ble_eq_true rfl) dX11_tried_25 (fun _ h => ctX11_isWithin h) (fun r4 m4 _ hf => ?_) hf
    show zAW X 28 _ (.int r4 :: _) m4
    refine zs_if_ne hC dX11_tried_28 (fun _ hf => ?_) (fun _ hf => ?_) hf
    · refine zs_il hC dX11_tried_31 rfl ?_
      refine zs_if_ne hC dX11_tried_32 (fun _ hf => ?_) (fun _ hf => ?_) hf
      · refine zs_k hC dX11_tried_35 ?_
        exact zs_iret hC hret dX11_tried_36 hf
      · exact zAW.weak (wX11_tried_37 hC hret hf) (zLw_s (zLw_s (zLw_s (zLw_n (zLw_n zLw_0)))))
    · exact zAW.weak (wX11_tried_37 hC hret hf) (zLw_s (zLw_s (zLw_s (zLw_n (zLw_n zLw_0)))))
set_option maxRecDepth 20000 in
set_option maxHeartbeats 4000000 in
theorem ctX11_tried {E : zEV} {F : Nat} {v1 : Int32} {v2 : Int32} {μ : zMem} {out : zR} (hf : fX11_tried F v1 v2 μ = some out) : zCt E yX11_tried cX11_tried 5 (some .int) 7 [.ref 0, .int v1, .int v2] μ out :=
  zCt.of [some (.ref 0), some (.int v1), some (.int v2), none, none] (by decide +kernel) (Nat.le_of_ble_eq_true rfl) (zLw_s (zLw_s (zLw_s (zLw_e (zLw_e zLw_0))))) rfl (fun X hE ho hr hC => by
    subst hE; subst ho
    exact wX11_tried hC hr hf)
/-! X11_personIs -/
def fX11_personIs (F : Nat) (v1 : Int32) (v2 : Int32) (μ : zMem) : Option zR :=
  zBd (fX8_isTold F 3 v1 μ) (fun r2 m2 => if r2 = 0 then some ((-1 : Int32), m2) else (if v2 = (nI 0) then zG v1 16 (some ((m2 4 v1.toNatClampNeg), m2)) else if v2 = (nI 1) then zG v1 16 (zBd (fJ6_bitCount_0f7a4 F (m2 4 v1.toNatClampNeg) m2) (fun r7 m7 => some (r7, m7))) else if v2 = (nI 2) then zBd (fX8_isReader F 3 v1 m2) (fun r9 m9 => if r9 = 0 then some ((nI 0), m9) else some ((nI 1), m9)) else if v2 = (nI 3) then zG v1 16 (some ((m2 5 v1.toNatClampNeg), m2)) else some ((-1 : Int32), m2)))
set_option maxRecDepth 20000 in
set_option maxHeartbeats 4000000 in
theorem wX11_personIs {X : zX} {F : Nat} (hC : zCx X RX11 cX11_personIs 3 3) (hret : zRt X (some .int)) {v1 : Int32} {v2 : Int32} {μ : zMem} (hf : fX11_personIs F v1 v2 μ = some (zOut X)) : zAW X 0 [some (.ref 0), some (.int v1), some (.int v2)] [] μ := by
  unfold fX11_personIs at hf
  refine zs_al hC dX11_personIs_0 rfl ?_
  refine zs_getR 3 hC fl_RX11_19 zL0 rfl dX11_personIs_1 ?_
  refine zs_il hC dX11_personIs_4 rfl ?_
  refine zs_callV [.int v1] hC cw_X8_isTold cl_RX11_156 zL3 rfl (by decide) rfl rfl (Nat.le_of_ble_eq_true rfl) dX11_personIs_5 (fun _ h => ctX8_isTold (by decide) h) (fun r2 m2 _ hf => ?_) hf
  show zAW X 8 _ (.int r2 :: _) m2
  refine zs_if_ne hC dX11_personIs_8 (fun _ hf => ?_) (fun _ hf => ?_) hf
  · refine zs_k hC dX11_personIs_11 ?_
    exact zs_iret hC hret dX11_personIs_12 hf
  · refine zs_il hC dX11_personIs_13 rfl ?_
    refine zs_case (nI 0) (fun hx hf => ?_) (fun e14_0 hf => ?_) hf
    · refine zs_tabI (off := 30) (tgt := 44) hC hx dX11_personIs_14 (by decide) (by decide) rfl (by decide) ?_
      refine zs_al hC dX11_personIs_44 rfl ?_
      refine zs_getR 3 hC fl_RX11_19 zL0 rfl dX11_personIs_45 ?_
      refine zs_getR 4 hC fl_RX11_176 zL3 rfl dX11_personIs_48 ?_
      refine zs_il hC dX11_personIs_51 rfl ?_
      refine zs_iald hC zL4 dX11_personIs_52 (fun _ hf => ?_) hf
      exact zs_iret hC hret dX11_personIs_53 hf
    refine zs_case (nI 1) (fun hx hf => ?_) (fun e14_1 hf => ?_) hf
    · refine zs_tabI (off := 40) (tgt := 54) hC hx dX11_personIs_14 (by decide) (by decide) rfl (by decide) ?_
      refine zs_al hC dX11_personIs_54 rfl ?_
      refine zs_getR 3 hC fl_RX11_19 zL0 rfl dX11_personIs_55 ?_
      refine zs_getR 4 hC fl_RX11_176 zL3 rfl dX11_personIs_58 ?_
      refine zs_il hC dX11_personIs_61 rfl ?_
      refine zs_iald hC zL4 dX11_personIs_62 (fun _ hf => ?_) hf
      refine zs_callS [.int (m2 4 v1.toNatClampNeg)] hC cw_J6_bitCount_0f7a4 cl_RX11_180 (by decide) rfl rfl (Nat.le_of_ble_eq_true rfl) dX11_personIs_63 (fun _ h => ctJ6_bitCount_0f7a4 h) (fun r7 m7 _ hf => ?_) hf
      show zAW X 66 _ (.int r7 :: _) m7
      exact zs_iret hC hret dX11_personIs_66 hf
    refine zs_case (nI 2) (fun hx hf => ?_) (fun e14_2 hf => ?_) hf
    · refine zs_tabI (off := 53) (tgt := 67) hC hx dX11_personIs_14 (by decide) (by decide) rfl (by decide) ?_
      refine zs_al hC dX11_personIs_67 rfl ?_
      refine zs_getR 3 hC fl_RX11_19 zL0 rfl dX11_personIs_68 ?_
      refine zs_il hC dX11_personIs_71 rfl ?_
      refine zs_callV [.int v1] hC cw_X8_isReader cl_RX11_185 zL3 rfl (by decide) rfl rfl (Nat.le_of_ble_eq_true rfl) dX11_personIs_72 (fun _ h => ctX8_isReader (by decide) h) (fun r9 m9 _ hf => ?_) hf
      show zAW X 75 _ (.int r9 :: _) m9
      refine zs_if_eq hC dX11_personIs_75 (fun _ hf => ?_) (fun _ hf => ?_) hf
      · refine zs_k hC dX11_personIs_82 ?_
        exact zs_iret hC hret dX11_personIs_83 hf
      · refine zs_k hC dX11_personIs_78 ?_
        refine zs_goto hC dX11_personIs_79 ?_
        exact zs_iret hC hret dX11_personIs_83 hf
    refine zs_case (nI 3) (fun hx hf => ?_) (fun e14_3 hf => ?_) hf
    · refine zs_tabI (off := 70) (tgt := 84) hC hx dX11_personIs_14 (by decide) (by decide) rfl (by decide) ?_
      refine zs_al hC dX11_personIs_84 rfl ?_
      refine zs_getR 3 hC fl_RX11_19 zL0 rfl dX11_personIs_85 ?_
      refine zs_getR 5 hC fl_RX11_188 zL3 rfl dX11_personIs_88 ?_
      refine zs_il hC dX11_personIs_91 rfl ?_
      refine zs_iald hC zL5 dX11_personIs_92 (fun _ hf => ?_) hf
      exact zs_iret hC hret dX11_personIs_93 hf
    have e14_0 := lv_neT (a := 0) e14_0 (by decide)
    have e14_1 := lv_neT (a := 1) e14_1 (by decide)
    have e14_2 := lv_neT (a := 2) e14_2 (by decide)
    have e14_3 := lv_neT (a := 3) e14_3 (by decide)
    refine zs_tabO (tgt := 94) hC dX11_personIs_14 (by omega) (by decide) ?_
    refine zs_k hC dX11_personIs_94 ?_
    exact zs_iret hC hret dX11_personIs_95 hf
set_option maxRecDepth 20000 in
set_option maxHeartbeats 4000000 in
theorem ctX11_personIs {E : zEV} {F : Nat} {v1 : Int32} {v2 : Int32} {μ : zMem} {out : zR} (hf : fX11_personIs F v1 v2 μ = some out) : zCt E yX11_personIs cX11_personIs 3 (some .int) 3 [.ref 0, .int v1, .int v2] μ out :=
  zCt.of [some (.ref 0), some (.int v1), some (.int v2)] (by decide +kernel) (Nat.le_of_ble_eq_true rfl) (zLw_s (zLw_s (zLw_s zLw_0))) rfl (fun X hE ho hr hC => by
    subst hE; subst ho
    exact wX11_personIs hC hr hf)
/-! X11_allKnow -/
def fX11_allKnow_32 (F : Nat) : Nat → Int32 → Int32 → Int32 → zMem → Option zR
  | 0, _, _, _, _ => none
  | n + 1, v1, v2, v3, μ => if v2 < v3 then some ((-2 : Int32), μ) else zBd (fX8_knownToAll F 13 μ) (fun r2 m2 => zBd (fX11_hasBit F r2 v1 m2) (fun r3 m3 => if r3 = 0 then if v3 = v2 then some ((-2 : Int32), m3) else zGb (zIsLw ((m3 18 0).toNatClampNeg)) (zBd (fX10_goesBy F 13 ((m3 18 0).toNatClampNeg) m3) (fun r8 m8 => if r8 = (-1 : Int32) then some ((-2 : Int32), m8) else fX11_allKnow_32 F n v1 v2 (v3 + (nI 1)) m8)) else some (v3, m3)))
def fX11_allKnow (F : Nat) (v1 : Int32) (v2 : Int32) (μ : zMem) : Option zR :=
  zBd (fX11_isSecret F v1 μ) (fun r1 m1 => if r1 = 0 then some ((-1 : Int32), m1) else zBd (fX11_isWithin F v2 (nI 1) (nI 100) m1) (fun r2 m2 => if r2 = 0 then some ((-1 : Int32), m2) else zBd (fX8_becomes F 13 3 m2) (fun r5 m5 => fX11_allKnow_32 F F v1 v2 (nI 0) m5)))
set_option maxRecDepth 20000 in
set_option maxHeartbeats 4000000 in
theorem wX11_allKnow_32 {X : zX} {F : Nat} (hC : zCx X RX11 cX11_allKnow 4 6) (hret : zRt X (some .int)) : ∀ (n : Nat) (v1 : Int32) (v2 : Int32) (v3 : Int32) (μ : zMem), fX11_allKnow_32 F n v1 v2 v3 μ = some (zOut X) → zAW X 32 [some (.ref 0), some (.int v1), some (.int v2), some (.int v3)] [] μ := by
  intro n
  induction n with
  | zero =>
    intro v1 v2 v3 μ hf
    rw [fX11_allKnow_32] at hf
    cases hf
  | succ n ih =>
    intro v1 v2 v3 μ hf
    rw [fX11_allKnow_32] at hf
    refine zs_il hC dX11_allKnow_32 rfl ?_
    refine zs_il hC dX11_allKnow_33 rfl ?_
    refine zs_ic_gt hC dX11_allKnow_34 (fun _ hf => ?_) (fun _ hf => ?_) hf
    · refine zs_k hC dX11_allKnow_89 ?_
      exact zs_iret hC hret dX11_allKnow_91 hf
    · refine zs_al hC dX11_allKnow_37 rfl ?_
      refine zs_getR 13 hC fl_RX11_26 zL0 rfl dX11_allKnow_38 ?_
      refine zs_callV [] hC cw_X8_knownToAll cl_RX11_169 zL13 rfl (by decide) rfl rfl (Nat.le_of_ble_eq_true rfl) dX11_allKnow_41 (fun _ h => ctX8_knownToAll (by decide) h) (fun r2 m2 _ hf => ?_) hf
      show zAW X 44 _ (.int r2 :: _) m2
      refine zs_il hC dX11_allKnow_44 rfl ?_
      refine zs_callS [.int r2, .int v1] hC cw_X11_hasBit cl_RX11_194 (by decide) rfl rfl (Nat.le_of_ble_eq_true rfl) dX11_allKnow_45 (fun _ h => ctX11_hasBit h) (fun r3 m3 _ hf => ?_) hf
      show zAW X 48 _ (.int r3 :: _) m3
      refine zs_if_eq hC dX11_allKnow_48 (fun _ hf => ?_) (fun _ hf => ?_) hf
      · refine zs_il hC dX11_allKnow_53 rfl ?_
        refine zs_il hC dX11_allKnow_54 rfl ?_
        refine zs_ic_eq hC dX11_allKnow_55 (fun _ hf => ?_) (fun _ hf => ?_) hf
        · refine zs_k hC dX11_allKnow_80 ?_
          exact zs_iret hC hret dX11_allKnow_82 hf
        · refine zs_al hC dX11_allKnow_58 rfl ?_
          refine zs_getR 33 hC fl_RX11_43 zL0 rfl dX11_allKnow_59 ?_
          refine zs_al hC dX11_allKnow_62 rfl ?_
          refine zs_getR 13 hC fl_RX11_26 zL0 rfl dX11_allKnow_63 ?_
          refine zs_al hC dX11_allKnow_66 rfl ?_
          refine zs_getR 18 hC fl_RX11_36 zL0 rfl dX11_allKnow_67 ?_
          refine zs_getD hC fl_RX11_123 zL18 rfl dX11_allKnow_70 ?_
          refine zs_gb (fun hd7 hf => ?_) hf
          refine zs_callV [.ref 13, .ref ((m3 18 0).toNatClampNeg)] hC cw_X10_goesBy cl_RX11_198 zL33 rfl (by decide) rfl rfl (Nat.le_of_ble_eq_true rfl) dX11_allKnow_73 (fun _ h => ctX10_goesBy (by decide) (hd7) h) (fun r8 m8 _ hf => ?_) hf
          show zAW X 76 _ (.int r8 :: _) m8
          refine zs_k hC dX11_allKnow_76 ?_
          refine zs_ic_ne hC dX11_allKnow_77 (fun _ hf => ?_) (fun _ hf => ?_) hf
          · refine zs_k hC dX11_allKnow_80 ?_
            exact zs_iret hC hret dX11_allKnow_82 hf
          · refine zs_iinc (nI 1) hC dX11_allKnow_83 (by decide) rfl (by decide) rfl ?_
            refine zs_goto hC dX11_allKnow_86 ?_
            exact zAW.weak (ih _ _ _ _ hf) (zLw_s (zLw_s (zLw_s (zLw_s zLw_0))))
      · refine zs_il hC dX11_allKnow_51 rfl ?_
        exact zs_iret hC hret dX11_allKnow_52 hf
set_option maxRecDepth 20000 in
set_option maxHeartbeats 4000000 in
theorem wX11_allKnow {X : zX} {F : Nat} (hC : zCx X RX11 cX11_allKnow 4 6) (hret : zRt X (some .int)) {v1 : Int32} {v2 : Int32} {μ : zMem} (hf : fX11_allKnow F v1 v2 μ = some (zOut X)) : zAW X 0 [some (.ref 0), some (.int v1), some (.int v2), none] [] μ := by
  unfold fX11_allKnow at hf
  refine zs_il hC dX11_allKnow_0 rfl ?_
  refine zs_callS [.int v1] hC cw_X11_isSecret cl_RX11_191 (by decide) rfl rfl (Nat.le_of_ble_eq_true rfl) dX11_allKnow_1 (fun _ h => ctX11_isSecret h) (fun r1 m1 _ hf => ?_) hf
  show zAW X 4 _ (.int r1 :: _) m1
  refine zs_if_eq hC dX11_allKnow_4 (fun _ hf => ?_) (fun _ hf => ?_) hf
  · refine zs_k hC dX11_allKnow_17 ?_
    exact zs_iret hC hret dX11_allKnow_18 hf
  · refine zs_il hC dX11_allKnow_7 rfl ?_
    refine zs_k hC dX11_allKnow_8 ?_
    refine zs_k hC dX11_allKnow_9 ?_
    refine zs_callS [.int v2, .int (nI 1), .int (nI 100)] hC cw_X11_isWithin cl_RX11_97 (by decide) rfl rfl (Nat.le_of_ble_eq_true rfl) dX11_allKnow_11 (fun _ h => ctX11_isWithin h) (fun r2 m2 _ hf => ?_) hf
    show zAW X 14 _ (.int r2 :: _) m2
    refine zs_if_ne hC dX11_allKnow_14 (fun _ hf => ?_) (fun _ hf => ?_) hf
    · refine zs_k hC dX11_allKnow_17 ?_
      exact zs_iret hC hret dX11_allKnow_18 hf
    · refine zs_al hC dX11_allKnow_19 rfl ?_
      refine zs_getR 13 hC fl_RX11_26 zL0 rfl dX11_allKnow_20 ?_
      refine zs_al hC dX11_allKnow_23 rfl ?_
      refine zs_getR 3 hC fl_RX11_19 zL0 rfl dX11_allKnow_24 ?_
      refine zs_callV [.ref 3] hC cw_X8_becomes cl_RX11_159 zL13 rfl (by decide) rfl rfl (Nat.le_of_ble_eq_true rfl) dX11_allKnow_27 (fun _ h => ctX8_becomes (by decide) (by decide) h) (fun r5 m5 _ hf => ?_) hf
      show zAW X 30 _ _ m5
      refine zs_k hC dX11_allKnow_30 ?_
      refine zs_is hC dX11_allKnow_31 (by decide) rfl ?_
      exact zAW.weak (wX11_allKnow_32 hC hret F _ _ _ _ hf) (zLw_s (zLw_s (zLw_s (zLw_s zLw_0))))
set_option maxRecDepth 20000 in
set_option maxHeartbeats 4000000 in
theorem ctX11_allKnow {E : zEV} {F : Nat} {v1 : Int32} {v2 : Int32} {μ : zMem} {out : zR} (hf : fX11_allKnow F v1 v2 μ = some out) : zCt E yX11_allKnow cX11_allKnow 4 (some .int) 6 [.ref 0, .int v1, .int v2] μ out :=
  zCt.of [some (.ref 0), some (.int v1), some (.int v2), none] (by decide +kernel) (Nat.le_of_ble_eq_true rfl) (zLw_s (zLw_s (zLw_s (zLw_e zLw_0)))) rfl (fun X hE ho hr hC => by
    subst hE; subst ho
    exact wX11_allKnow hC hr hf)
/-! X11_whose -/
def fX11_whose (F : Nat) (v1 : Int32) (μ : zMem) : Option zR :=
  zBd (fX11_isSecret F v1 μ) (fun r1 m1 => if r1 = 0 then some ((-1 : Int32), m1) else zBd (fX8_whoKnow F 3 v1 m1) (fun r3 m3 => some (r3, m3)))
set_option maxRecDepth 20000 in
set_option maxHeartbeats 4000000 in
theorem wX11_whose {X : zX} {F : Nat} (hC : zCx X RX11 cX11_whose 2 5) (hret : zRt X (some .int)) {v1 : Int32} {μ : zMem} (hf : fX11_whose F v1 μ = some (zOut X)) : zAW X 0 [some (.ref 0), some (.int v1)] [] μ := by
  unfold fX11_whose at hf
  refine zs_il hC dX11_whose_0 rfl ?_
  refine zs_callS [.int v1] hC cw_X11_isSecret cl_RX11_191 (by decide) rfl rfl (Nat.le_of_ble_eq_true rfl) dX11_whose_1 (fun _ h => ctX11_isSecret h) (fun r1 m1 _ hf => ?_) hf
  show zAW X 4 _ (.int r1 :: _) m1
  refine zs_if_ne hC dX11_whose_4 (fun _ hf => ?_) (fun _ hf => ?_) hf
  · refine zs_k hC dX11_whose_7 ?_
    exact zs_iret hC hret dX11_whose_8 hf
  · refine zs_al hC dX11_whose_9 rfl ?_
    refine zs_getR 3 hC fl_RX11_19 zL0 rfl dX11_whose_10 ?_
    refine zs_il hC dX11_whose_13 rfl ?_
    refine zs_callV [.int v1] hC cw_X8_whoKnow cl_RX11_202 zL3 rfl (by decide) rfl rfl (Nat.le_of_ble_eq_true rfl) dX11_whose_14 (fun _ h => ctX8_whoKnow (by decide) h) (fun r3 m3 _ hf => ?_) hf
    show zAW X 17 _ (.int r3 :: _) m3
    exact zs_iret hC hret dX11_whose_17 hf
set_option maxRecDepth 20000 in
set_option maxHeartbeats 4000000 in
theorem ctX11_whose {E : zEV} {F : Nat} {v1 : Int32} {μ : zMem} {out : zR} (hf : fX11_whose F v1 μ = some out) : zCt E yX11_whose cX11_whose 2 (some .int) 5 [.ref 0, .int v1] μ out :=
  zCt.of [some (.ref 0), some (.int v1)] (by decide +kernel) (Nat.le_of_ble_eq_true rfl) (zLw_s (zLw_s zLw_0)) rfl (fun X hE ho hr hC => by
    subst hE; subst ho
    exact wX11_whose hC hr hf)
/-! X11_alone -/
def fX11_alone_4 (F : Nat) : Nat → Int32 → Int32 → zMem → Option zR
  | 0, _, _, _ => none
  | n + 1, v1, v2, μ => if (nI 16) ≤ v2 then some (v1, μ) else zBd (fX8_whoKnow F 3 v2 μ) (fun r2 m2 => zBd (fJ6_bitCount_0f7a4 F r2 m2) (fun r3 m3 => if r3 = (nI 1) then fX11_alone_4 F n (v1 ||| r2) (v2 + (nI 1)) m3 else fX11_alone_4 F n v1 (v2 + (nI 1)) m3))
def fX11_alone (F : Nat) (μ : zMem) : Option zR :=
  fX11_alone_4 F F (nI 0) (nI 0) μ
set_option maxRecDepth 20000 in
set_option maxHeartbeats 4000000 in
theorem wX11_alone_4 {X : zX} {F : Nat} (hC : zCx X RX11 cX11_alone 4 5) (hret : zRt X (some .int)) : ∀ (n : Nat) (v1 : Int32) (v2 : Int32) (μ : zMem), fX11_alone_4 F n v1 v2 μ = some (zOut X) → zAW X 4 [some (.ref 0), some (.int v1), some (.int v2), none] [] μ := by
  intro n
  induction n with
  | zero =>
    intro v1 v2 μ hf
    rw [fX11_alone_4] at hf
    cases hf
  | succ n ih =>
    intro v1 v2 μ hf
    rw [fX11_alone_4] at hf
    refine zs_il hC dX11_alone_4 rfl ?_
    refine zs_k hC dX11_alone_5 ?_
    refine zs_ic_ge hC dX11_alone_7 (fun _ hf => ?_) (fun _ hf => ?_) hf
    · refine zs_il hC dX11_alone_37 rfl ?_
      exact zs_iret hC hret dX11_alone_38 hf
    · refine zs_al hC dX11_alone_10 rfl ?_
      refine zs_getR 3 hC fl_RX11_19 zL0 rfl dX11_alone_11 ?_
      refine zs_il hC dX11_alone_14 rfl ?_
      refine zs_callV [.int v2] hC cw_X8_whoKnow cl_RX11_202 zL3 rfl (by decide) rfl rfl (Nat.le_of_ble_eq_true rfl) dX11_alone_15 (fun _ h => ctX8_whoKnow (by decide) h) (fun r2 m2 _ hf => ?_) hf
      show zAW X 18 _ (.int r2 :: _) m2
      refine zs_is hC dX11_alone_18 (by decide) rfl ?_
      refine zs_il hC dX11_alone_19 rfl ?_
      refine zs_callS [.int r2] hC cw_J6_bitCount_0f7a4 cl_RX11_180 (by decide) rfl rfl (Nat.le_of_ble_eq_true rfl) dX11_alone_20 (fun _ h => ctJ6_bitCount_0f7a4 h) (fun r3 m3 _ hf => ?_) hf
      show zAW X 23 _ (.int r3 :: _) m3
      refine zs_k hC dX11_alone_23 ?_
      refine zs_ic_ne hC dX11_alone_24 (fun _ hf => ?_) (fun _ hf => ?_) hf
      · refine zs_il hC dX11_alone_27 rfl ?_
        refine zs_il hC dX11_alone_28 rfl ?_
        refine zs_ior hC dX11_alone_29 ?_
        refine zs_is hC dX11_alone_30 (by decide) rfl ?_
        refine zs_iinc (nI 1) hC dX11_alone_31 (by decide) rfl (by decide) rfl ?_
        refine zs_goto hC dX11_alone_34 ?_
        exact zAW.weak (ih _ _ _ hf) (zLw_s (zLw_s (zLw_s (zLw_n zLw_0))))
      · refine zs_iinc (nI 1) hC dX11_alone_31 (by decide) rfl (by decide) rfl ?_
        refine zs_goto hC dX11_alone_34 ?_
        exact zAW.weak (ih _ _ _ hf) (zLw_s (zLw_s (zLw_s (zLw_n zLw_0))))
set_option maxRecDepth 20000 in
set_option maxHeartbeats 4000000 in
theorem wX11_alone {X : zX} {F : Nat} (hC : zCx X RX11 cX11_alone 4 5) (hret : zRt X (some .int)) {μ : zMem} (hf : fX11_alone F μ = some (zOut X)) : zAW X 0 [some (.ref 0), none, none, none] [] μ := by
  unfold fX11_alone at hf
  refine zs_k hC dX11_alone_0 ?_
  refine zs_is hC dX11_alone_1 (by decide) rfl ?_
  refine zs_k hC dX11_alone_2 ?_
  refine zs_is hC dX11_alone_3 (by decide) rfl ?_
  exact zAW.weak (wX11_alone_4 hC hret F _ _ _ hf) (zLw_s (zLw_s (zLw_s (zLw_n zLw_0))))
set_option maxRecDepth 20000 in
set_option maxHeartbeats 4000000 in
theorem ctX11_alone {E : zEV} {F : Nat} {μ : zMem} {out : zR} (hf : fX11_alone F μ = some out) : zCt E yX11_alone cX11_alone 4 (some .int) 5 [.ref 0] μ out :=
  zCt.of [some (.ref 0), none, none, none] (by decide +kernel) (Nat.le_of_ble_eq_true rfl) (zLw_s (zLw_e (zLw_e (zLw_e zLw_0)))) rfl (fun X hE ho hr hC => by
    subst hE; subst ho
    exact wX11_alone hC hr hf)
/-! X11_enough -/
def fX11_enough_13 (F : Nat) : Nat → Int32 → Int32 → zMem → Option zR
  | 0, _, _, _ => none
  | n + 1, v1, v2, μ => if (nI 16) ≤ v2 then zBd (fX8_knownToAny F 3 μ) (fun r3 m3 => zBd (fX2_finds F (nI 16) r3 m3) (fun r4 m4 => if v1 = 0 then zBd (fJ6_bitCount_0f7a4 F (m4 50 3) m4) (fun r7 m7 => some (r7, m7)) else some ((m4 50 3), m4))) else zBd (fX8_secretsOf F 3 v2 μ) (fun r13 m13 => zG v2 20 (zLt (zUp m13 51 v2.toNatClampNeg r13) (fun m14 => fX11_enough_13 F n v1 (v2 + (nI 1)) m14)))
def fX11_enough (F : Nat) (v1 : Int32) (μ : zMem) : Option zR :=
  zBd (fX11_isWithin F v1 (nI 0) (nI 1) μ) (fun r1 m1 => if r1 = 0 then some ((-1 : Int32), m1) else fX11_enough_13 F F v1 (nI 0) m1)
set_option maxRecDepth 20000 in
set_option maxHeartbeats 4000000 in
theorem wX11_enough_13 {X : zX} {F : Nat} (hC : zCx X RX11 cX11_enough 3 43) (hret : zRt X (some .int)) : ∀ (n : Nat) (v1 : Int32) (v2 : Int32) (μ : zMem), fX11_enough_13 F n v1 v2 μ = some (zOut X) → zAW X 13 [some (.ref 0), some (.int v1), some (.int v2)] [] μ := by
  intro n
  induction n with
  | zero =>
    intro v1 v2 μ hf
    rw [fX11_enough_13] at hf
    cases hf
  | succ n ih =>
    intro v1 v2 μ hf
    rw [fX11_enough_13] at hf
    refine zs_il hC dX11_enough_13 rfl ?_
    refine zs_k hC dX11_enough_14 ?_
    refine zs_ic_ge hC dX11_enough_16 (fun _ hf => ?_) (fun _ hf => ?_) hf
    · refine zs_al hC dX11_enough_42 rfl ?_
      refine zs_getR 50 hC fl_RX11_74 zL0 rfl dX11_enough_43 ?_
      refine zs_k hC dX11_enough_46 ?_
      refine zs_al hC dX11_enough_48 rfl ?_
      refine zs_getR 3 hC fl_RX11_19 zL0 rfl dX11_enough_49 ?_
      refine zs_callV [] hC cw_X8_knownToAny cl_RX11_165 zL3 rfl (by decide) rfl rfl (Nat.le_of_ble_eq_true rfl) dX11_enough_52 (fun _ h => ctX8_knownToAny (by decide) h) (fun r3 m3 _ hf => ?_) hf
      show zAW X 55 _ (.int r3 :: _) m3
      refine zs_callV [.int (nI 16), .int r3] hC cw_X2_finds cl_RX11_208 zL50 rfl (by decide) rfl rfl (Nat.le_of_ble_eq_true rfl) dX11_enough_55 (fun _ h => ctX2_finds h) (fun r4 m4 _ hf => ?_) hf
      show zAW X 58 _ (.int r4 :: _) m4
      refine zs_pop hC dX11_enough_58 rfl ?_
      refine zs_il hC dX11_enough_59 rfl ?_
      refine zs_if_ne hC dX11_enough_60 (fun _ hf => ?_) (fun _ hf => ?_) hf
      · refine zs_al hC dX11_enough_63 rfl ?_
        refine zs_getR 50 hC fl_RX11_74 zL0 rfl dX11_enough_64 ?_
        refine zs_getI hC fl_RX11_211 zL50 rfl dX11_enough_67 ?_
        refine zs_callS [.int (m4 50 3)] hC cw_J6_bitCount_0f7a4 cl_RX11_180 (by decide) rfl rfl (Nat.le_of_ble_eq_true rfl) dX11_enough_70 (fun _ h => ctJ6_bitCount_0f7a4 h) (fun r7 m7 _ hf => ?_) hf
        show zAW X 73 _ (.int r7 :: _) m7
        refine zs_goto hC dX11_enough_73 ?_
        exact zs_iret hC hret dX11_enough_83 hf
      · refine zs_al hC dX11_enough_76 rfl ?_
        refine zs_getR 50 hC fl_RX11_74 zL0 rfl dX11_enough_77 ?_
        refine zs_getI hC fl_RX11_211 zL50 rfl dX11_enough_80 ?_
        exact zs_iret hC hret dX11_enough_83 hf
    · refine zs_al hC dX11_enough_19 rfl ?_
      refine zs_getR 50 hC fl_RX11_74 zL0 rfl dX11_enough_20 ?_
      refine zs_getR 51 hC fl_RX11_205 zL50 rfl dX11_enough_23 ?_
      refine zs_il hC dX11_enough_26 rfl ?_
      refine zs_al hC dX11_enough_27 rfl ?_
      refine zs_getR 3 hC fl_RX11_19 zL0 rfl dX11_enough_28 ?_
      refine zs_il hC dX11_enough_31 rfl ?_
      refine zs_callV [.int v2] hC cw_X8_secretsOf cl_RX11_172 zL3 rfl (by decide) rfl rfl (Nat.le_of_ble_eq_true rfl) dX11_enough_32 (fun _ h => ctX8_secretsOf (by decide) h) (fun r13 m13 _ hf => ?_) hf
      show zAW X 35 _ (.int r13 :: _) m13
      refine zs_iast hC zL51 dX11_enough_35 (fun _ hf => ?_) hf
      refine zs_let (fun m14 _ hf => ?_) hf
      refine zs_iinc (nI 1) hC dX11_enough_36 (by decide) rfl (by decide) rfl ?_
      refine zs_goto hC dX11_enough_39 ?_
      exact zAW.weak (ih _ _ _ hf) (zLw_s (zLw_s (zLw_s zLw_0)))
set_option maxRecDepth 20000 in
set_option maxHeartbeats 4000000 in
theorem wX11_enough {X : zX} {F : Nat} (hC : zCx X RX11 cX11_enough 3 43) (hret : zRt X (some .int)) {v1 : Int32} {μ : zMem} (hf : fX11_enough F v1 μ = some (zOut X)) : zAW X 0 [some (.ref 0), some (.int v1), none] [] μ := by
  unfold fX11_enough at hf
  refine zs_il hC dX11_enough_0 rfl ?_
  refine zs_k hC dX11_enough_1 ?_
  refine zs_k hC dX11_enough_2 ?_
  refine zs_callS [.int v1, .int (nI 0), .int (nI 1)] hC cw_X11_isWithin cl_RX11_97 (by decide) rfl rfl (Nat.le_of_ble_eq_true rfl) dX11_enough_3 (fun _ h => ctX11_isWithin h) (fun r1 m1 _ hf => ?_) hf
  show zAW X 6 _ (.int r1 :: _) m1
  refine zs_if_ne hC dX11_enough_6 (fun _ hf => ?_) (fun _ hf => ?_) hf
  · refine zs_k hC dX11_enough_9 ?_
    exact zs_iret hC hret dX11_enough_10 hf
  · refine zs_k hC dX11_enough_11 ?_
    refine zs_is hC dX11_enough_12 (by decide) rfl ?_
    exact zAW.weak (wX11_enough_13 hC hret F _ _ _ hf) (zLw_s (zLw_s (zLw_s zLw_0)))
set_option maxRecDepth 20000 in
set_option maxHeartbeats 4000000 in
theorem ctX11_enough {E : zEV} {F : Nat} {v1 : Int32} {μ : zMem} {out : zR} (hf : fX11_enough F v1 μ = some out) : zCt E yX11_enough cX11_enough 3 (some .int) 43 [.ref 0, .int v1] μ out :=
  zCt.of [some (.ref 0), some (.int v1), none] (by decide +kernel) (Nat.le_of_ble_eq_true rfl) (zLw_s (zLw_s (zLw_e zLw_0))) rfl (fun X hE ho hr hC => by
    subst hE; subst ho
    exact wX11_enough hC hr hf)
/-! X11_backNumber -/
def fX11_backNumber_30 (F : Nat) (v1 : Int32) (v2 : Int32) (μ : zMem) : Option zR :=
  zBd (fX8_issues F 3 μ) (fun r2 m2 => if v1 ≤ r2 then zBd (fX8_slotOf F 3 v1 m2) (fun r4 m4 => if v2 = (nI 100) then zG r4 20 (some ((m4 6 r4.toNatClampNeg), m4)) else zGz (nI 3) (zG r4 20 (if (v2 / (nI 3)) < (m4 6 r4.toNatClampNeg) then zBd (fX8_whisperOf F 3 r4 (v2 / (nI 3)) m4) (fun r10 m10 => zGz (nI 3) ((if (v2 % (nI 3)) = (nI 0) then zBd (fX11_fromOf F r10 m10) (fun r11 m11 => some (r11, m11)) else if (v2 % (nI 3)) = (nI 1) then zBd (fX11_toOf F r10 m10) (fun r12 m12 => some (r12, m12)) else zBd (fX11_secretOf F r10 m10) (fun r13 m13 => some (r13, m13))))) else some ((-4 : Int32), m4)))) else some ((-2 : Int32), m2))
def fX11_backNumber (F : Nat) (v1 : Int32) (v2 : Int32) (μ : zMem) : Option zR :=
  zBd (fX11_isWithin F v2 (nI 0) (nI 47) μ) (fun r1 m1 => zBd (fX11_isWithin F v1 (nI 1) (nI 20) m1) (fun r2 m2 => if r2 = 0 then some ((-1 : Int32), m2) else if r1 = 0 then if v2 = (nI 100) then fX11_backNumber_30 F v1 v2 m2 else some ((-1 : Int32), m2) else fX11_backNumber_30 F v1 v2 m2))
set_option maxRecDepth 20000 in
set_option maxHeartbeats 4000000 in
theorem wX11_backNumber_30 {X : zX} {F : Nat} (hC : zCx X RX11 cX11_backNumber 7 2) (hret : zRt X (some .int)) {v1 : Int32} {v2 : Int32} {μ : zMem} (hf : fX11_backNumber_30 F v1 v2 μ = some (zOut X)) : zAW X 30 [some (.ref 0), some (.int v1), some (.int v2), none, none, none, none] [] μ := by
  unfold fX11_backNumber_30 at hf
  refine zs_il hC dX11_backNumber_30 rfl ?_
  refine zs_al hC dX11_backNumber_31 rfl ?_
  refine zs_getR 3 hC fl_RX11_19 zL0 rfl dX11_backNumber_32 ?_
  refine zs_callV [] hC cw_X8_issues cl_RX11_214 zL3 rfl (by decide) rfl rfl (Nat.le_of_ble_eq_true rfl) dX11_backNumber_35 (fun _ h => ctX8_issues (by decide) h) (fun r2 m2 _ hf => ?_) hf
  show zAW X 38 _ (.int r2 :: _) m2
  refine zs_ic_le hC dX11_backNumber_38 (fun _ hf => ?_) (fun _ hf => ?_) hf
  · refine zs_al hC dX11_backNumber_44 rfl ?_
    refine zs_getR 3 hC fl_RX11_19 zL0 rfl dX11_backNumber_45 ?_
    refine zs_il hC dX11_backNumber_48 rfl ?_
    refine zs_callV [.int v1] hC cw_X8_slotOf cl_RX11_217 zL3 rfl (by decide) rfl rfl (Nat.le_of_ble_eq_true rfl) dX11_backNumber_49 (fun _ h => ctX8_slotOf (by decide) h) (fun r4 m4 _ hf => ?_) hf
    show zAW X 52 _ (.int r4 :: _) m4
    refine zs_is hC dX11_backNumber_52 (by decide) rfl ?_
    refine zs_il hC dX11_backNumber_54 rfl ?_
    refine zs_k hC dX11_backNumber_55 ?_
    refine zs_ic_ne hC dX11_backNumber_57 (fun _ hf => ?_) (fun _ hf => ?_) hf
    · refine zs_al hC dX11_backNumber_60 rfl ?_
      refine zs_getR 3 hC fl_RX11_19 zL0 rfl dX11_backNumber_61 ?_
      refine zs_getR 6 hC fl_RX11_220 zL3 rfl dX11_backNumber_64 ?_
      refine zs_il hC dX11_backNumber_67 rfl ?_
      refine zs_iald hC zL6 dX11_backNumber_69 (fun _ hf => ?_) hf
      exact zs_iret hC hret dX11_backNumber_70 hf
    · refine zs_il hC dX11_backNumber_71 rfl ?_
      refine zs_k hC dX11_backNumber_72 ?_
      refine zs_idiv hC dX11_backNumber_73 (fun _ hf => ?_) hf
      refine zs_is hC dX11_backNumber_74 (by decide) rfl ?_
      refine zs_il hC dX11_backNumber_76 rfl ?_
      refine zs_al hC dX11_backNumber_78 rfl ?_
      refine zs_getR 3 hC fl_RX11_19 zL0 rfl dX11_backNumber_79 ?_
      refine zs_getR 6 hC fl_RX11_220 zL3 rfl dX11_backNumber_82 ?_
      refine zs_il hC dX11_backNumber_85 rfl ?_
      refine zs_iald hC zL6 dX11_backNumber_87 (fun _ hf => ?_) hf
      refine zs_ic_lt hC dX11_backNumber_88 (fun _ hf => ?_) (fun _ hf => ?_) hf
      · refine zs_al hC dX11_backNumber_94 rfl ?_
        refine zs_getR 3 hC fl_RX11_19 zL0 rfl dX11_backNumber_95 ?_
        refine zs_il hC dX11_backNumber_98 rfl ?_
        refine zs_il hC dX11_backNumber_100 rfl ?_
        refine zs_callV [.int r4, .int (v2 / (nI 3))] hC cw_X8_whisperOf cl_RX11_223 zL3 rfl (by decide) rfl rfl (Nat.le_of_ble_eq_true rfl) dX11_backNumber_102 (fun _ h => ctX8_whisperOf (by decide) h) (fun r10 m10 _ hf => ?_) hf
        show zAW X 105 _ (.int r10 :: _) m10
        refine zs_is hC dX11_backNumber_105 (by decide) rfl ?_
        refine zs_il hC dX11_backNumber_107 rfl ?_
        refine zs_k hC dX11_backNumber_108 ?_
        refine zs_irem hC dX11_backNumber_109 (fun _ hf => ?_) hf
        refine zs_case (nI 0) (fun hx hf => ?_) (fun e110_0 hf => ?_) hf
        · refine zs_look (tgt := 136) (off := 26) hC dX11_backNumber_110 (by decide) (by rw [hx]; first | done | decide) (by decide) ?_
          refine zs_il hC dX11_backNumber_136 rfl ?_
          refine zs_callS [.int r10] hC cw_X11_fromOf cl_RX11_227 (by decide) rfl rfl (Nat.le_of_ble_eq_true rfl) dX11_backNumber_138 (fun _ h => ctX11_fromOf h) (fun r11 m11 _ hf => ?_) hf
          show zAW X 141 _ (.int r11 :: _) m11
          exact zs_iret hC hret dX11_backNumber_141 hf
        refine zs_case (nI 1) (fun hx hf => ?_) (fun e110_1 hf => ?_) hf
        · refine zs_look (tgt := 142) (off := 32) hC dX11_backNumber_110 (by decide) (by rw [hx]; first | done | decide) (by decide) ?_
          refine zs_il hC dX11_backNumber_142 rfl ?_
          refine zs_callS [.int r10] hC cw_X11_toOf cl_RX11_230 (by decide) rfl rfl (Nat.le_of_ble_eq_true rfl) dX11_backNumber_144 (fun _ h => ctX11_toOf h) (fun r12 m12 _ hf => ?_) hf
          show zAW X 147 _ (.int r12 :: _) m12
          exact zs_iret hC hret dX11_backNumber_147 hf
        refine zs_look (tgt := 148) (off := 38) hC dX11_backNumber_110 (by decide) (by show Op.lookupswitch.offset [(0, 26), (1, 32)] 38 _ = _; rw [lv_osw (a := 0) e110_0 (by decide), lv_osw (a := 1) e110_1 (by decide)]; rfl) (by decide) ?_
        refine zs_il hC dX11_backNumber_148 rfl ?_
        refine zs_callS [.int r10] hC cw_X11_secretOf cl_RX11_233 (by decide) rfl rfl (Nat.le_of_ble_eq_true rfl) dX11_backNumber_150 (fun _ h => ctX11_secretOf h) (fun r13 m13 _ hf => ?_) hf
        show zAW X 153 _ (.int r13 :: _) m13
        exact zs_iret hC hret dX11_backNumber_153 hf
      · refine zs_k hC dX11_backNumber_91 ?_
        exact zs_iret hC hret dX11_backNumber_93 hf
  · refine zs_k hC dX11_backNumber_41 ?_
    exact zs_iret hC hret dX11_backNumber_43 hf
set_option maxRecDepth 20000 in
set_option maxHeartbeats 4000000 in
theorem wX11_backNumber {X : zX} {F : Nat} (hC : zCx X RX11 cX11_backNumber 7 2) (hret : zRt X (some .int)) {v1 : Int32} {v2 : Int32} {μ : zMem} (hf : fX11_backNumber F v1 v2 μ = some (zOut X)) : zAW X 0 [some (.ref 0), some (.int v1), some (.int v2), none, none, none, none] [] μ := by
  unfold fX11_backNumber at hf
  refine zs_il hC dX11_backNumber_0 rfl ?_
  refine zs_k hC dX11_backNumber_1 ?_
  refine zs_k hC dX11_backNumber_2 ?_
  refine zs_callS [.int v2, .int (nI 0), .int (nI 47)] hC cw_X11_isWithin cl_RX11_97 (by decide) rfl rfl (Nat.le_of_ble_eq_true rfl) dX11_backNumber_4 (fun _ h => ctX11_isWithin h) (fun r1 m1 _ hf => ?_) hf
  show zAW X 7 _ (.int r1 :: _) m1
  refine zs_is hC dX11_backNumber_7 (by decide) rfl ?_
  refine zs_il hC dX11_backNumber_8 rfl ?_
  refine zs_k hC dX11_backNumber_9 ?_
  refine zs_k hC dX11_backNumber_10 ?_
  refine zs_callS [.int v1, .int (nI 1), .int (nI 20)] hC cw_X11_isWithin cl_RX11_97 (by decide) rfl rfl (Nat.le_of_ble_eq_true rfl) dX11_backNumber_12 (fun _ h => ctX11_isWithin h) (fun r2 m2 _ hf => ?_) hf
  show zAW X 15 _ (.int r2 :: _) m2
  refine zs_if_eq hC dX11_backNumber_15 (fun _ hf => ?_) (fun _ hf => ?_) hf
  · refine zs_k hC dX11_backNumber_28 ?_
    exact zs_iret hC hret dX11_backNumber_29 hf
  · refine zs_il hC dX11_backNumber_18 rfl ?_
    refine zs_if_ne hC dX11_backNumber_19 (fun _ hf => ?_) (fun _ hf => ?_) hf
    · refine zs_il hC dX11_backNumber_22 rfl ?_
      refine zs_k hC dX11_backNumber_23 ?_
      refine zs_ic_eq hC dX11_backNumber_25 (fun _ hf => ?_) (fun _ hf => ?_) hf
      · exact zAW.weak (wX11_backNumber_30 hC hret hf) (zLw_s (zLw_s (zLw_s (zLw_n (zLw_n (zLw_n (zLw_n zLw_0)))))))
      · refine zs_k hC dX11_backNumber_28 ?_
        exact zs_iret hC hret dX11_backNumber_29 hf
    · exact zAW.weak (wX11_backNumber_30 hC hret hf) (zLw_s (zLw_s (zLw_s (zLw_n (zLw_n (zLw_n (zLw_n zLw_0)))))))
set_option maxRecDepth 20000 in
set_option maxHeartbeats 4000000 in
theorem ctX11_backNumber {E : zEV} {F : Nat} {v1 : Int32} {v2 : Int32} {μ : zMem} {out : zR} (hf : fX11_backNumber F v1 v2 μ = some out) : zCt E yX11_backNumber cX11_backNumber 7 (some .int) 2 [.ref 0, .int v1, .int v2] μ out :=
  zCt.of [some (.ref 0), some (.int v1), some (.int v2), none, none, none, none] (by decide +kernel) (Nat.le_of_ble_eq_true rfl) (zLw_s (zLw_s (zLw_s (zLw_e (zLw_e (zLw_e (zLw_e zLw_0))))))) rfl (fun X hE ho hr hC => by
    subst hE; subst ho
    exact wX11_backNumber hC hr hf)
/-! J6_numberOfLeadingZeros_0f7a4 -/
def fJ6_numberOfLeadingZeros_0f7a4_61 (F : Nat) (v0 : Int32) (v1 : Int32) (μ : zMem) : Option zR :=
  if v0 < (nI 4) then some ((v1 - (zUsh v0 (nI 1))), μ) else some (((v1 + (-2 : Int32)) - (zUsh (zUsh v0 (nI 2)) (nI 1))), μ)
def fJ6_numberOfLeadingZeros_0f7a4_48 (F : Nat) (v0 : Int32) (v1 : Int32) (μ : zMem) : Option zR :=
  if v0 < (nI 16) then fJ6_numberOfLeadingZeros_0f7a4_61 F v0 v1 μ else fJ6_numberOfLeadingZeros_0f7a4_61 F (zUsh v0 (nI 4)) (v1 + (-4 : Int32)) μ
def fJ6_numberOfLeadingZeros_0f7a4_33 (F : Nat) (v0 : Int32) (v1 : Int32) (μ : zMem) : Option zR :=
  if v0 < (nI 256) then fJ6_numberOfLeadingZeros_0f7a4_48 F v0 v1 μ else fJ6_numberOfLeadingZeros_0f7a4_48 F (zUsh v0 (nI 8)) (v1 + (-8 : Int32)) μ
def fJ6_numberOfLeadingZeros_0f7a4 (F : Nat) (v0 : Int32) (μ : zMem) : Option zR :=
  if 0 < v0 then if v0 < (nI 65536) then fJ6_numberOfLeadingZeros_0f7a4_33 F v0 (nI 31) μ else fJ6_numberOfLeadingZeros_0f7a4_33 F (zUsh v0 (nI 16)) ((nI 31) + (-16 : Int32)) μ else if v0 = 0 then some ((nI 32), μ) else some ((nI 0), μ)
set_option maxRecDepth 20000 in
set_option maxHeartbeats 4000000 in
theorem wJ6_numberOfLeadingZeros_0f7a4_61 {X : zX} {F : Nat} (hC : zCx X RJ6 cJ6_numberOfLeadingZeros_0f7a4 2 0) (hret : zRt X (some .int)) {v0 : Int32} {v1 : Int32} {μ : zMem} (hf : fJ6_numberOfLeadingZeros_0f7a4_61 F v0 v1 μ = some (zOut X)) : zAW X 61 [some (.int v0), some (.int v1)] [] μ := by
  unfold fJ6_numberOfLeadingZeros_0f7a4_61 at hf
  refine zs_il hC dJ6_numberOfLeadingZeros_0f7a4_61 rfl ?_
  refine zs_k hC dJ6_numberOfLeadingZeros_0f7a4_62 ?_
  refine zs_ic_lt hC dJ6_numberOfLeadingZeros_0f7a4_63 (fun _ hf => ?_) (fun _ hf => ?_) hf
  · refine zs_il hC dJ6_numberOfLeadingZeros_0f7a4_73 rfl ?_
    refine zs_il hC dJ6_numberOfLeadingZeros_0f7a4_74 rfl ?_
    refine zs_k hC dJ6_numberOfLeadingZeros_0f7a4_75 ?_
    refine zs_iushr hC dJ6_numberOfLeadingZeros_0f7a4_76 ?_
    refine zs_isub hC dJ6_numberOfLeadingZeros_0f7a4_77 ?_
    exact zs_iret hC hret dJ6_numberOfLeadingZeros_0f7a4_78 hf
  · refine zs_iinc (-2 : Int32) hC dJ6_numberOfLeadingZeros_0f7a4_66 (by decide) rfl (by decide) rfl ?_
    refine zs_il hC dJ6_numberOfLeadingZeros_0f7a4_69 rfl ?_
    refine zs_k hC dJ6_numberOfLeadingZeros_0f7a4_70 ?_
    refine zs_iushr hC dJ6_numberOfLeadingZeros_0f7a4_71 ?_
    refine zs_is hC dJ6_numberOfLeadingZeros_0f7a4_72 (by decide) rfl ?_
    refine zs_il hC dJ6_numberOfLeadingZeros_0f7a4_73 rfl ?_
    refine zs_il hC dJ6_numberOfLeadingZeros_0f7a4_74 rfl ?_
    refine zs_k hC dJ6_numberOfLeadingZeros_0f7a4_75 ?_
    refine zs_iushr hC dJ6_numberOfLeadingZeros_0f7a4_76 ?_
    refine zs_isub hC dJ6_numberOfLeadingZeros_0f7a4_77 ?_
    exact zs_iret hC hret dJ6_numberOfLeadingZeros_0f7a4_78 hf
set_option maxRecDepth 20000 in
set_option maxHeartbeats 4000000 in
theorem wJ6_numberOfLeadingZeros_0f7a4_48 {X : zX} {F : Nat} (hC : zCx X RJ6 cJ6_numberOfLeadingZeros_0f7a4 2 0) (hret : zRt X (some .int)) {v0 : Int32} {v1 : Int32} {μ : zMem} (hf : fJ6_numberOfLeadingZeros_0f7a4_48 F v0 v1 μ = some (zOut X)) : zAW X 48 [some (.int v0), some (.int v1)] [] μ := by
  unfold fJ6_numberOfLeadingZeros_0f7a4_48 at hf
  refine zs_il hC dJ6_numberOfLeadingZeros_0f7a4_48 rfl ?_
  refine zs_k hC dJ6_numberOfLeadingZeros_0f7a4_49 ?_
  refine zs_ic_lt hC dJ6_numberOfLeadingZeros_0f7a4_51 (fun _ hf => ?_) (fun _ hf => ?_) hf
  · exact zAW.weak (wJ6_numberOfLeadingZeros_0f7a4_61 hC hret hf) (zLw_s (zLw_s zLw_0))
  · refine zs_iinc (-4 : Int32) hC dJ6_numberOfLeadingZeros_0f7a4_54 (by decide) rfl (by decide) rfl ?_
    refine zs_il hC dJ6_numberOfLeadingZeros_0f7a4_57 rfl ?_
    refine zs_k hC dJ6_numberOfLeadingZeros_0f7a4_58 ?_
    refine zs_iushr hC dJ6_numberOfLeadingZeros_0f7a4_59 ?_
    refine zs_is hC dJ6_numberOfLeadingZeros_0f7a4_60 (by decide) rfl ?_
    exact zAW.weak (wJ6_numberOfLeadingZeros_0f7a4_61 hC hret hf) (zLw_s (zLw_s zLw_0))
set_option maxRecDepth 20000 in
set_option maxHeartbeats 4000000 in
theorem wJ6_numberOfLeadingZeros_0f7a4_33 {X : zX} {F : Nat} (hC : zCx X RJ6 cJ6_numberOfLeadingZeros_0f7a4 2 0) (hret : zRt X (some .int)) {v0 : Int32} {v1 : Int32} {μ : zMem} (hf : fJ6_numberOfLeadingZeros_0f7a4_33 F v0 v1 μ = some (zOut X)) : zAW X 33 [some (.int v0), some (.int v1)] [] μ := by
  unfold fJ6_numberOfLeadingZeros_0f7a4_33 at hf
  refine zs_il hC dJ6_numberOfLeadingZeros_0f7a4_33 rfl ?_
  refine zs_k hC dJ6_numberOfLeadingZeros_0f7a4_34 ?_
  refine zs_ic_lt hC dJ6_numberOfLeadingZeros_0f7a4_37 (fun _ hf => ?_) (fun _ hf => ?_) hf
  · exact zAW.weak (wJ6_numberOfLeadingZeros_0f7a4_48 hC hret hf) (zLw_s (zLw_s zLw_0))
  · refine zs_iinc (-8 : Int32) hC dJ6_numberOfLeadingZeros_0f7a4_40 (by decide) rfl (by decide) rfl ?_
    refine zs_il hC dJ6_numberOfLeadingZeros_0f7a4_43 rfl ?_
    refine zs_k hC dJ6_numberOfLeadingZeros_0f7a4_44 ?_
    refine zs_iushr hC dJ6_numberOfLeadingZeros_0f7a4_46 ?_
    refine zs_is hC dJ6_numberOfLeadingZeros_0f7a4_47 (by decide) rfl ?_
    exact zAW.weak (wJ6_numberOfLeadingZeros_0f7a4_48 hC hret hf) (zLw_s (zLw_s zLw_0))
set_option maxRecDepth 20000 in
set_option maxHeartbeats 4000000 in
theorem wJ6_numberOfLeadingZeros_0f7a4 {X : zX} {F : Nat} (hC : zCx X RJ6 cJ6_numberOfLeadingZeros_0f7a4 2 0) (hret : zRt X (some .int)) {v0 : Int32} {μ : zMem} (hf : fJ6_numberOfLeadingZeros_0f7a4 F v0 μ = some (zOut X)) : zAW X 0 [some (.int v0), none] [] μ := by
  unfold fJ6_numberOfLeadingZeros_0f7a4 at hf
  refine zs_il hC dJ6_numberOfLeadingZeros_0f7a4_0 rfl ?_
  refine zs_if_gt hC dJ6_numberOfLeadingZeros_0f7a4_1 (fun _ hf => ?_) (fun _ hf => ?_) hf
  · refine zs_k hC dJ6_numberOfLeadingZeros_0f7a4_15 ?_
    refine zs_is hC dJ6_numberOfLeadingZeros_0f7a4_17 (by decide) rfl ?_
    refine zs_il hC dJ6_numberOfLeadingZeros_0f7a4_18 rfl ?_
    refine zs_ldcw hC kc_RJ6_264 dJ6_numberOfLeadingZeros_0f7a4_19 ?_
    refine zs_ic_lt hC dJ6_numberOfLeadingZeros_0f7a4_22 (fun _ hf => ?_) (fun _ hf => ?_) hf
    · exact zAW.weak (wJ6_numberOfLeadingZeros_0f7a4_33 hC hret hf) (zLw_s (zLw_s zLw_0))
    · refine zs_iinc (-16 : Int32) hC dJ6_numberOfLeadingZeros_0f7a4_25 (by decide) rfl (by decide) rfl ?_
      refine zs_il hC dJ6_numberOfLeadingZeros_0f7a4_28 rfl ?_
      refine zs_k hC dJ6_numberOfLeadingZeros_0f7a4_29 ?_
      refine zs_iushr hC dJ6_numberOfLeadingZeros_0f7a4_31 ?_
      refine zs_is hC dJ6_numberOfLeadingZeros_0f7a4_32 (by decide) rfl ?_
      exact zAW.weak (wJ6_numberOfLeadingZeros_0f7a4_33 hC hret hf) (zLw_s (zLw_s zLw_0))
  · refine zs_il hC dJ6_numberOfLeadingZeros_0f7a4_4 rfl ?_
    refine zs_if_ne hC dJ6_numberOfLeadingZeros_0f7a4_5 (fun _ hf => ?_) (fun _ hf => ?_) hf
    · refine zs_k hC dJ6_numberOfLeadingZeros_0f7a4_8 ?_
      refine zs_goto hC dJ6_numberOfLeadingZeros_0f7a4_10 ?_
      exact zs_iret hC hret dJ6_numberOfLeadingZeros_0f7a4_14 hf
    · refine zs_k hC dJ6_numberOfLeadingZeros_0f7a4_13 ?_
      exact zs_iret hC hret dJ6_numberOfLeadingZeros_0f7a4_14 hf
set_option maxRecDepth 20000 in
set_option maxHeartbeats 4000000 in
theorem ctJ6_numberOfLeadingZeros_0f7a4 {E : zEV} {F : Nat} {v0 : Int32} {μ : zMem} {out : zR} (hf : fJ6_numberOfLeadingZeros_0f7a4 F v0 μ = some out) : zCt E yJ6_numberOfLeadingZeros_0f7a4 cJ6_numberOfLeadingZeros_0f7a4 2 (some .int) 0 [.int v0] μ out :=
  zCt.of [some (.int v0), none] (by decide +kernel) (Nat.le_of_ble_eq_true rfl) (zLw_s (zLw_e zLw_0)) rfl (fun X hE ho hr hC => by
    subst hE; subst ho
    exact wJ6_numberOfLeadingZeros_0f7a4 hC hr hf)
/-! X11_blackmail -/
def fX11_blackmail_32 (F : Nat) : Nat → Int32 → Int32 → Int32 → Int32 → zMem → Option zR
  | 0, _, _, _, _, _ => none
  | n + 1, v1, v2, v3, v4, μ => if v3 < v4 then zBd (fX2_finds F v3 v1 μ) (fun r2 m2 => if r2 = 0 then some ((-2 : Int32), m2) else if v2 = 0 then zBd (fJ6_bitCount_0f7a4 F (m2 50 3) m2) (fun r5 m5 => some (r5, m5)) else zBd (fJ6_numberOfLeadingZeros_0f7a4 F (m2 50 3) m2) (fun r8 m8 => some (((nI 32) - r8), m8))) else zBd (fX8_slotOf F 3 v4 μ) (fun r13 m13 => zBd (fX8_secretsIn F 3 r13 m13) (fun r14 m14 => zG (v4 - (nI 1)) 20 (zLt (zUp m14 51 (v4 - (nI 1)).toNatClampNeg r14) (fun m15 => fX11_blackmail_32 F n v1 v2 v3 (v4 + (nI 1)) m15))))
def fX11_blackmail (F : Nat) (v1 : Int32) (v2 : Int32) (μ : zMem) : Option zR :=
  zBd (fX11_isWithin F v1 (nI 0) (nI 65535) μ) (fun r1 m1 => if r1 = 0 then some ((-1 : Int32), m1) else zBd (fX11_isWithin F v2 (nI 0) (nI 1) m1) (fun r2 m2 => if r2 = 0 then some ((-1 : Int32), m2) else zBd (fX8_issues F 3 m2) (fun r4 m4 => fX11_blackmail_32 F F v1 v2 r4 (nI 1) m4)))
set_option maxRecDepth 20000 in
set_option maxHeartbeats 4000000 in
theorem wX11_blackmail_32 {X : zX} {F : Nat} (hC : zCx X RX11 cX11_blackmail 5 43) (hret : zRt X (some .int)) : ∀ (n : Nat) (v1 : Int32) (v2 : Int32) (v3 : Int32) (v4 : Int32) (μ : zMem), fX11_blackmail_32 F n v1 v2 v3 v4 μ = some (zOut X) → zAW X 32 [some (.ref 0), some (.int v1), some (.int v2), some (.int v3), some (.int v4)] [] μ := by
  intro n
  induction n with
  | zero =>
    intro v1 v2 v3 v4 μ hf
    rw [fX11_blackmail_32] at hf
    cases hf
  | succ n ih =>
    intro v1 v2 v3 v4 μ hf
    rw [fX11_blackmail_32] at hf
    refine zs_il hC dX11_blackmail_32 rfl ?_
    refine zs_il hC dX11_blackmail_34 rfl ?_
    refine zs_ic_gt hC dX11_blackmail_35 (fun _ hf => ?_) (fun _ hf => ?_) hf
    · refine zs_al hC dX11_blackmail_72 rfl ?_
      refine zs_getR 50 hC fl_RX11_74 zL0 rfl dX11_blackmail_73 ?_
      refine zs_il hC dX11_blackmail_76 rfl ?_
      refine zs_il hC dX11_blackmail_77 rfl ?_
      refine zs_callV [.int v3, .int v1] hC cw_X2_finds cl_RX11_208 zL50 rfl (by decide) rfl rfl (Nat.le_of_ble_eq_true rfl) dX11_blackmail_78 (fun _ h => ctX2_finds h) (fun r2 m2 _ hf => ?_) hf
      show zAW X 81 _ (.int r2 :: _) m2
      refine zs_if_ne hC dX11_blackmail_81 (fun _ hf => ?_) (fun _ hf => ?_) hf
      · refine zs_k hC dX11_blackmail_84 ?_
        exact zs_iret hC hret dX11_blackmail_86 hf
      · refine zs_il hC dX11_blackmail_87 rfl ?_
        refine zs_if_ne hC dX11_blackmail_88 (fun _ hf => ?_) (fun _ hf => ?_) hf
        · refine zs_al hC dX11_blackmail_91 rfl ?_
          refine zs_getR 50 hC fl_RX11_74 zL0 rfl dX11_blackmail_92 ?_
          refine zs_getI hC fl_RX11_211 zL50 rfl dX11_blackmail_95 ?_
          refine zs_callS [.int (m2 50 3)] hC cw_J6_bitCount_0f7a4 cl_RX11_180 (by decide) rfl rfl (Nat.le_of_ble_eq_true rfl) dX11_blackmail_98 (fun _ h => ctJ6_bitCount_0f7a4 h) (fun r5 m5 _ hf => ?_) hf
          show zAW X 101 _ (.int r5 :: _) m5
          refine zs_goto hC dX11_blackmail_101 ?_
          exact zs_iret hC hret dX11_blackmail_117 hf
        · refine zs_k hC dX11_blackmail_104 ?_
          refine zs_al hC dX11_blackmail_106 rfl ?_
          refine zs_getR 50 hC fl_RX11_74 zL0 rfl dX11_blackmail_107 ?_
          refine zs_getI hC fl_RX11_211 zL50 rfl dX11_blackmail_110 ?_
          refine zs_callS [.int (m2 50 3)] hC cw_J6_numberOfLeadingZeros_0f7a4 cl_RX11_239 (by decide) rfl rfl (Nat.le_of_ble_eq_true rfl) dX11_blackmail_113 (fun _ h => ctJ6_numberOfLeadingZeros_0f7a4 h) (fun r8 m8 _ hf => ?_) hf
          show zAW X 116 _ (.int r8 :: _) m8
          refine zs_isub hC dX11_blackmail_116 ?_
          exact zs_iret hC hret dX11_blackmail_117 hf
    · refine zs_al hC dX11_blackmail_38 rfl ?_
      refine zs_getR 50 hC fl_RX11_74 zL0 rfl dX11_blackmail_39 ?_
      refine zs_getR 51 hC fl_RX11_205 zL50 rfl dX11_blackmail_42 ?_
      refine zs_il hC dX11_blackmail_45 rfl ?_
      refine zs_k hC dX11_blackmail_47 ?_
      refine zs_isub hC dX11_blackmail_48 ?_
      refine zs_al hC dX11_blackmail_49 rfl ?_
      refine zs_getR 3 hC fl_RX11_19 zL0 rfl dX11_blackmail_50 ?_
      refine zs_al hC dX11_blackmail_53 rfl ?_
      refine zs_getR 3 hC fl_RX11_19 zL0 rfl dX11_blackmail_54 ?_
      refine zs_il hC dX11_blackmail_57 rfl ?_
      refine zs_callV [.int v4] hC cw_X8_slotOf cl_RX11_217 zL3 rfl (by decide) rfl rfl (Nat.le_of_ble_eq_true rfl) dX11_blackmail_59 (fun _ h => ctX8_slotOf (by decide) h) (fun r13 m13 _ hf => ?_) hf
      show zAW X 62 _ (.int r13 :: _) m13
      refine zs_callV [.int r13] hC cw_X8_secretsIn cl_RX11_236 zL3 rfl (by decide) rfl rfl (Nat.le_of_ble_eq_true rfl) dX11_blackmail_62 (fun _ h => ctX8_secretsIn (by decide) h) (fun r14 m14 _ hf => ?_) hf
      show zAW X 65 _ (.int r14 :: _) m14
      refine zs_iast hC zL51 dX11_blackmail_65 (fun _ hf => ?_) hf
      refine zs_let (fun m15 _ hf => ?_) hf
      refine zs_iinc (nI 1) hC dX11_blackmail_66 (by decide) rfl (by decide) rfl ?_
      refine zs_goto hC dX11_blackmail_69 ?_
      exact zAW.weak (ih _ _ _ _ _ hf) (zLw_s (zLw_s (zLw_s (zLw_s (zLw_s zLw_0)))))
set_option maxRecDepth 20000 in
set_option maxHeartbeats 4000000 in
theorem wX11_blackmail {X : zX} {F : Nat} (hC : zCx X RX11 cX11_blackmail 5 43) (hret : zRt X (some .int)) {v1 : Int32} {v2 : Int32} {μ : zMem} (hf : fX11_blackmail F v1 v2 μ = some (zOut X)) : zAW X 0 [some (.ref 0), some (.int v1), some (.int v2), none, none] [] μ := by
  unfold fX11_blackmail at hf
  refine zs_il hC dX11_blackmail_0 rfl ?_
  refine zs_k hC dX11_blackmail_1 ?_
  refine zs_ldc hC kc_RX11_96 dX11_blackmail_2 ?_
  refine zs_callS [.int v1, .int (nI 0), .int (nI 65535)] hC cw_X11_isWithin cl_RX11_97 (by decide) rfl rfl (Nat.le_of_ble_eq_true rfl) dX11_blackmail_4 (fun _ h => ctX11_isWithin h) (fun r1 m1 _ hf => ?_) hf
  show zAW X 7 _ (.int r1 :: _) m1
  refine zs_if_eq hC dX11_blackmail_7 (fun _ hf => ?_) (fun _ hf => ?_) hf
  · refine zs_k hC dX11_blackmail_19 ?_
    exact zs_iret hC hret dX11_blackmail_20 hf
  · refine zs_il hC dX11_blackmail_10 rfl ?_
    refine zs_k hC dX11_blackmail_11 ?_
    refine zs_k hC dX11_blackmail_12 ?_
    refine zs_callS [.int v2, .int (nI 0), .int (nI 1)] hC cw_X11_isWithin cl_RX11_97 (by decide) rfl rfl (Nat.le_of_ble_eq_true rfl) dX11_blackmail_13 (fun _ h => ctX11_isWithin h) (fun r2 m2 _ hf => ?_) hf
    show zAW X 16 _ (.int r2 :: _) m2
    refine zs_if_ne hC dX11_blackmail_16 (fun _ hf => ?_) (fun _ hf => ?_) hf
    · refine zs_k hC dX11_blackmail_19 ?_
      exact zs_iret hC hret dX11_blackmail_20 hf
    · refine zs_al hC dX11_blackmail_21 rfl ?_
      refine zs_getR 3 hC fl_RX11_19 zL0 rfl dX11_blackmail_22 ?_
      refine zs_callV [] hC cw_X8_issues cl_RX11_214 zL3 rfl (by decide) rfl rfl (Nat.le_of_ble_eq_true rfl) dX11_blackmail_25 (fun _ h => ctX8_issues (by decide) h) (fun r4 m4 _ hf => ?_) hf
      show zAW X 28 _ (.int r4 :: _) m4
      refine zs_is hC dX11_blackmail_28 (by decide) rfl ?_
      refine zs_k hC dX11_blackmail_29 ?_
      refine zs_is hC dX11_blackmail_30 (by decide) rfl ?_
      exact zAW.weak (wX11_blackmail_32 hC hret F _ _ _ _ _ hf) (zLw_s (zLw_s (zLw_s (zLw_s (zLw_s zLw_0)))))
set_option maxRecDepth 20000 in
set_option maxHeartbeats 4000000 in
theorem ctX11_blackmail {E : zEV} {F : Nat} {v1 : Int32} {v2 : Int32} {μ : zMem} {out : zR} (hf : fX11_blackmail F v1 v2 μ = some out) : zCt E yX11_blackmail cX11_blackmail 5 (some .int) 43 [.ref 0, .int v1, .int v2] μ out :=
  zCt.of [some (.ref 0), some (.int v1), some (.int v2), none, none] (by decide +kernel) (Nat.le_of_ble_eq_true rfl) (zLw_s (zLw_s (zLw_s (zLw_e (zLw_e zLw_0))))) rfl (fun X hE ho hr hC => by
    subst hE; subst ho
    exact wX11_blackmail hC hr hf)
/-! X11_mostPrinted -/
def fX11_mostPrinted (F : Nat) (v1 : Int32) (μ : zMem) : Option zR :=
  zBd (fX11_isWithin F v1 (nI 0) (nI 1) μ) (fun r1 m1 => if r1 = 0 then some ((-1 : Int32), m1) else zBd (fX0_tallies F 3 m1) (fun r4 m4 => zBd (fX0_mostWhisperedTo F m4) (fun r6 m6 => zBd (fX0_timesTo F r6 m6) (fun r8 m8 => if v1 = (nI 1) then some (r8, m8) else if r8 = 0 then some ((-2 : Int32), m8) else some (r6, m8)))))
set_option maxRecDepth 20000 in
set_option maxHeartbeats 4000000 in
theorem wX11_mostPrinted {X : zX} {F : Nat} (hC : zCx X RX11 cX11_mostPrinted 4 3) (hret : zRt X (some .int)) {v1 : Int32} {μ : zMem} (hf : fX11_mostPrinted F v1 μ = some (zOut X)) : zAW X 0 [some (.ref 0), some (.int v1), none, none] [] μ := by
  unfold fX11_mostPrinted at hf
  refine zs_il hC dX11_mostPrinted_0 rfl ?_
  refine zs_k hC dX11_mostPrinted_1 ?_
  refine zs_k hC dX11_mostPrinted_2 ?_
  refine zs_callS [.int v1, .int (nI 0), .int (nI 1)] hC cw_X11_isWithin cl_RX11_97 (by decide) rfl rfl (Nat.le_of_ble_eq_true rfl) dX11_mostPrinted_3 (fun _ h => ctX11_isWithin h) (fun r1 m1 _ hf => ?_) hf
  show zAW X 6 _ (.int r1 :: _) m1
  refine zs_if_ne hC dX11_mostPrinted_6 (fun _ hf => ?_) (fun _ hf => ?_) hf
  · refine zs_k hC dX11_mostPrinted_9 ?_
    exact zs_iret hC hret dX11_mostPrinted_10 hf
  · refine zs_al hC dX11_mostPrinted_11 rfl ?_
    refine zs_getR 54 hC fl_RX11_81 zL0 rfl dX11_mostPrinted_12 ?_
    refine zs_al hC dX11_mostPrinted_15 rfl ?_
    refine zs_getR 3 hC fl_RX11_19 zL0 rfl dX11_mostPrinted_16 ?_
    refine zs_callV [.ref 3] hC cw_X0_tallies cl_RX11_242 zL54 rfl (by decide) rfl rfl (Nat.le_of_ble_eq_true rfl) dX11_mostPrinted_19 (fun _ h => ctX0_tallies (by decide) h) (fun r4 m4 _ hf => ?_) hf
    show zAW X 22 _ _ m4
    refine zs_al hC dX11_mostPrinted_22 rfl ?_
    refine zs_getR 54 hC fl_RX11_81 zL0 rfl dX11_mostPrinted_23 ?_
    refine zs_callV [] hC cw_X0_mostWhisperedTo cl_RX11_245 zL54 rfl (by decide) rfl rfl (Nat.le_of_ble_eq_true rfl) dX11_mostPrinted_26 (fun _ h => ctX0_mostWhisperedTo h) (fun r6 m6 _ hf => ?_) hf
    show zAW X 29 _ (.int r6 :: _) m6
    refine zs_is hC dX11_mostPrinted_29 (by decide) rfl ?_
    refine zs_al hC dX11_mostPrinted_30 rfl ?_
    refine zs_getR 54 hC fl_RX11_81 zL0 rfl dX11_mostPrinted_31 ?_
    refine zs_il hC dX11_mostPrinted_34 rfl ?_
    refine zs_callV [.int r6] hC cw_X0_timesTo cl_RX11_248 zL54 rfl (by decide) rfl rfl (Nat.le_of_ble_eq_true rfl) dX11_mostPrinted_35 (fun _ h => ctX0_timesTo h) (fun r8 m8 _ hf => ?_) hf
    show zAW X 38 _ (.int r8 :: _) m8
    refine zs_is hC dX11_mostPrinted_38 (by decide) rfl ?_
    refine zs_il hC dX11_mostPrinted_39 rfl ?_
    refine zs_k hC dX11_mostPrinted_40 ?_
    refine zs_ic_ne hC dX11_mostPrinted_41 (fun _ hf => ?_) (fun _ hf => ?_) hf
    · refine zs_il hC dX11_mostPrinted_44 rfl ?_
      exact zs_iret hC hret dX11_mostPrinted_45 hf
    · refine zs_il hC dX11_mostPrinted_46 rfl ?_
      refine zs_if_ne hC dX11_mostPrinted_47 (fun _ hf => ?_) (fun _ hf => ?_) hf
      · refine zs_k hC dX11_mostPrinted_50 ?_
        refine zs_goto hC dX11_mostPrinted_52 ?_
        exact zs_iret hC hret dX11_mostPrinted_56 hf
      · refine zs_il hC dX11_mostPrinted_55 rfl ?_
        exact zs_iret hC hret dX11_mostPrinted_56 hf
set_option maxRecDepth 20000 in
set_option maxHeartbeats 4000000 in
theorem ctX11_mostPrinted {E : zEV} {F : Nat} {v1 : Int32} {μ : zMem} {out : zR} (hf : fX11_mostPrinted F v1 μ = some out) : zCt E yX11_mostPrinted cX11_mostPrinted 4 (some .int) 3 [.ref 0, .int v1] μ out :=
  zCt.of [some (.ref 0), some (.int v1), none, none] (by decide +kernel) (Nat.le_of_ble_eq_true rfl) (zLw_s (zLw_s (zLw_e (zLw_e zLw_0)))) rfl (fun X hE ho hr hC => by
    subst hE; subst ho
    exact wX11_mostPrinted hC hr hf)
/-! X11_silent -/
def fX11_silent_30 (F : Nat) : Nat → Int32 → Int32 → Int32 → Int32 → zMem → Option zR
  | 0, _, _, _, _, _ => none
  | n + 1, v1, v2, v3, v4, μ => if v1 ≤ v4 then some (v3, μ) else zGb (zIsLw ((μ 18 0).toNatClampNeg)) (zBd (fX10_goesBy F 13 ((μ 18 0).toNatClampNeg) μ) (fun r5 m5 => if r5 = (-1 : Int32) then some (v3, m5) else if r5 = 0 then zBd (fJ9_max_7cf53 F v3 (v2 + (nI 1)) m5) (fun r6 m6 => fX11_silent_30 F n v1 (v2 + (nI 1)) r6 (v4 + (nI 1)) m6) else zBd (fJ9_max_7cf53 F v3 (nI 0) m5) (fun r7 m7 => fX11_silent_30 F n v1 (nI 0) r7 (v4 + (nI 1)) m7)))
def fX11_silent (F : Nat) (v1 : Int32) (μ : zMem) : Option zR :=
  zBd (fX11_isWithin F v1 (nI 1) (nI 100) μ) (fun r1 m1 => if r1 = 0 then some ((-1 : Int32), m1) else zBd (fX8_becomes F 13 3 m1) (fun r4 m4 => fX11_silent_30 F F v1 (nI 0) (nI 0) (nI 0) m4))
set_option maxRecDepth 20000 in
set_option maxHeartbeats 4000000 in
theorem wX11_silent_30 {X : zX} {F : Nat} (hC : zCx X RX11 cX11_silent 6 6) (hret : zRt X (some .int)) : ∀ (n : Nat) (v1 : Int32) (v2 : Int32) (v3 : Int32) (v4 : Int32) (μ : zMem), fX11_silent_30 F n v1 v2 v3 v4 μ = some (zOut X) → zAW X 30 [some (.ref 0), some (.int v1), some (.int v2), some (.int v3), some (.int v4), none] [] μ := by
  intro n
  induction n with
  | zero =>
    intro v1 v2 v3 v4 μ hf
    rw [fX11_silent_30] at hf
    cases hf
  | succ n ih =>
    intro v1 v2 v3 v4 μ hf
    rw [fX11_silent_30] at hf
    refine zs_il hC dX11_silent_30 rfl ?_
    refine zs_il hC dX11_silent_32 rfl ?_
    refine zs_ic_ge hC dX11_silent_33 (fun _ hf => ?_) (fun _ hf => ?_) hf
    · refine zs_il hC dX11_silent_90 rfl ?_
      exact zs_iret hC hret dX11_silent_91 hf
    · refine zs_al hC dX11_silent_36 rfl ?_
      refine zs_getR 33 hC fl_RX11_43 zL0 rfl dX11_silent_37 ?_
      refine zs_al hC dX11_silent_40 rfl ?_
      refine zs_getR 13 hC fl_RX11_26 zL0 rfl dX11_silent_41 ?_
      refine zs_al hC dX11_silent_44 rfl ?_
      refine zs_getR 18 hC fl_RX11_36 zL0 rfl dX11_silent_45 ?_
      refine zs_getD hC fl_RX11_123 zL18 rfl dX11_silent_48 ?_
      refine zs_gb (fun hd4 hf => ?_) hf
      refine zs_callV [.ref 13, .ref ((μ 18 0).toNatClampNeg)] hC cw_X10_goesBy cl_RX11_198 zL33 rfl (by decide) rfl rfl (Nat.le_of_ble_eq_true rfl) dX11_silent_51 (fun _ h => ctX10_goesBy (by decide) (hd4) h) (fun r5 m5 _ hf => ?_) hf
      show zAW X 54 _ (.int r5 :: _) m5
      refine zs_is hC dX11_silent_54 (by decide) rfl ?_
      refine zs_il hC dX11_silent_56 rfl ?_
      refine zs_k hC dX11_silent_58 ?_
      refine zs_ic_ne hC dX11_silent_59 (fun _ hf => ?_) (fun _ hf => ?_) hf
      · refine zs_goto hC dX11_silent_62 ?_
        refine zs_il hC dX11_silent_90 rfl ?_
        exact zs_iret hC hret dX11_silent_91 hf
      · refine zs_il hC dX11_silent_65 rfl ?_
        refine zs_if_ne hC dX11_silent_67 (fun _ hf => ?_) (fun _ hf => ?_) hf
        · refine zs_il hC dX11_silent_70 rfl ?_
          refine zs_k hC dX11_silent_71 ?_
          refine zs_iadd hC dX11_silent_72 ?_
          refine zs_goto hC dX11_silent_73 ?_
          refine zs_is hC dX11_silent_77 (by decide) rfl ?_
          refine zs_il hC dX11_silent_78 rfl ?_
          refine zs_il hC dX11_silent_79 rfl ?_
          refine zs_callS [.int v3, .int (v2 + (nI 1))] hC cw_J9_max_7cf53 cl_RX11_251 (by decide) rfl rfl (Nat.le_of_ble_eq_true rfl) dX11_silent_80 (fun _ h => ctJ9_max_7cf53 h) (fun r6 m6 _ hf => ?_) hf
          show zAW X 83 _ (.int r6 :: _) m6
          refine zs_is hC dX11_silent_83 (by decide) rfl ?_
          refine zs_iinc (nI 1) hC dX11_silent_84 (by decide) rfl (by decide) rfl ?_
          refine zs_goto hC dX11_silent_87 ?_
          exact zAW.weak (ih _ _ _ _ _ hf) (zLw_s (zLw_s (zLw_s (zLw_s (zLw_s (zLw_n zLw_0))))))
        · refine zs_k hC dX11_silent_76 ?_
          refine zs_is hC dX11_silent_77 (by decide) rfl ?_
          refine zs_il hC dX11_silent_78 rfl ?_
          refine zs_il hC dX11_silent_79 rfl ?_
          refine zs_callS [.int v3, .int (nI 0)] hC cw_J9_max_7cf53 cl_RX11_251 (by decide) rfl rfl (Nat.le_of_ble_eq_true rfl) dX11_silent_80 (fun _ h => ctJ9_max_7cf53 h) (fun r7 m7 _ hf => ?_) hf
          show zAW X 83 _ (.int r7 :: _) m7
          refine zs_is hC dX11_silent_83 (by decide) rfl ?_
          refine zs_iinc (nI 1) hC dX11_silent_84 (by decide) rfl (by decide) rfl ?_
          refine zs_goto hC dX11_silent_87 ?_
          exact zAW.weak (ih _ _ _ _ _ hf) (zLw_s (zLw_s (zLw_s (zLw_s (zLw_s (zLw_n zLw_0))))))
set_option maxRecDepth 20000 in
set_option maxHeartbeats 4000000 in
theorem wX11_silent {X : zX} {F : Nat} (hC : zCx X RX11 cX11_silent 6 6) (hret : zRt X (some .int)) {v1 : Int32} {μ : zMem} (hf : fX11_silent F v1 μ = some (zOut X)) : zAW X 0 [some (.ref 0), some (.int v1), none, none, none, none] [] μ := by
  unfold fX11_silent at hf
  refine zs_il hC dX11_silent_0 rfl ?_
  refine zs_k hC dX11_silent_1 ?_
  refine zs_k hC dX11_silent_2 ?_
  refine zs_callS [.int v1, .int (nI 1), .int (nI 100)] hC cw_X11_isWithin cl_RX11_97 (by decide) rfl rfl (Nat.le_of_ble_eq_true rfl) dX11_silent_4 (fun _ h => ctX11_isWithin h) (fun r1 m1 _ hf => ?_) hf
  show zAW X 7 _ (.int r1 :: _) m1
  refine zs_if_ne hC dX11_silent_7 (fun _ hf => ?_) (fun _ hf => ?_) hf
  · refine zs_k hC dX11_silent_10 ?_
    exact zs_iret hC hret dX11_silent_11 hf
  · refine zs_al hC dX11_silent_12 rfl ?_
    refine zs_getR 13 hC fl_RX11_26 zL0 rfl dX11_silent_13 ?_
    refine zs_al hC dX11_silent_16 rfl ?_
    refine zs_getR 3 hC fl_RX11_19 zL0 rfl dX11_silent_17 ?_
    refine zs_callV [.ref 3] hC cw_X8_becomes cl_RX11_159 zL13 rfl (by decide) rfl rfl (Nat.le_of_ble_eq_true rfl) dX11_silent_20 (fun _ h => ctX8_becomes (by decide) (by decide) h) (fun r4 m4 _ hf => ?_) hf
    show zAW X 23 _ _ m4
    refine zs_k hC dX11_silent_23 ?_
    refine zs_is hC dX11_silent_24 (by decide) rfl ?_
    refine zs_k hC dX11_silent_25 ?_
    refine zs_is hC dX11_silent_26 (by decide) rfl ?_
    refine zs_k hC dX11_silent_27 ?_
    refine zs_is hC dX11_silent_28 (by decide) rfl ?_
    exact zAW.weak (wX11_silent_30 hC hret F _ _ _ _ _ hf) (zLw_s (zLw_s (zLw_s (zLw_s (zLw_s (zLw_n zLw_0))))))
set_option maxRecDepth 20000 in
set_option maxHeartbeats 4000000 in
theorem ctX11_silent {E : zEV} {F : Nat} {v1 : Int32} {μ : zMem} {out : zR} (hf : fX11_silent F v1 μ = some out) : zCt E yX11_silent cX11_silent 6 (some .int) 6 [.ref 0, .int v1] μ out :=
  zCt.of [some (.ref 0), some (.int v1), none, none, none, none] (by decide +kernel) (Nat.le_of_ble_eq_true rfl) (zLw_s (zLw_s (zLw_e (zLw_e (zLw_e (zLw_e zLw_0)))))) rfl (fun X hE ho hr hC => by
    subst hE; subst ho
    exact wX11_silent hC hr hf)
/-! X11_pair -/
def fX11_pair (F : Nat) (v1 : Int32) (μ : zMem) : Option zR :=
  zBd (fX11_isWithin F v1 (nI 0) (nI 2) μ) (fun r1 m1 => if r1 = 0 then some ((-1 : Int32), m1) else zBd (fX0_tallies F 3 m1) (fun r4 m4 => zBd (fX0_mostOftenPair F m4) (fun r6 m6 => zG r6 256 (if v1 = (nI 2) then some ((m6 55 r6.toNatClampNeg), m6) else if (m6 55 r6.toNatClampNeg) = 0 then some ((-2 : Int32), m6) else if v1 = 0 then zGz (nI 16) (some ((r6 / (nI 16)), m6)) else zGz (nI 16) (some ((r6 % (nI 16)), m6))))))
set_option maxRecDepth 20000 in
set_option maxHeartbeats 4000000 in
theorem wX11_pair {X : zX} {F : Nat} (hC : zCx X RX11 cX11_pair 4 3) (hret : zRt X (some .int)) {v1 : Int32} {μ : zMem} (hf : fX11_pair F v1 μ = some (zOut X)) : zAW X 0 [some (.ref 0), some (.int v1), none, none] [] μ := by
  unfold fX11_pair at hf
  refine zs_il hC dX11_pair_0 rfl ?_
  refine zs_k hC dX11_pair_1 ?_
  refine zs_k hC dX11_pair_2 ?_
  refine zs_callS [.int v1, .int (nI 0), .int (nI 2)] hC cw_X11_isWithin cl_RX11_97 (by decide) rfl rfl (Nat.le_of_ble_eq_true rfl) dX11_pair_3 (fun _ h => ctX11_isWithin h) (fun r1 m1 _ hf => ?_) hf
  show zAW X 6 _ (.int r1 :: _) m1
  refine zs_if_ne hC dX11_pair_6 (fun _ hf => ?_) (fun _ hf => ?_) hf
  · refine zs_k hC dX11_pair_9 ?_
    exact zs_iret hC hret dX11_pair_10 hf
  · refine zs_al hC dX11_pair_11 rfl ?_
    refine zs_getR 54 hC fl_RX11_81 zL0 rfl dX11_pair_12 ?_
    refine zs_al hC dX11_pair_15 rfl ?_
    refine zs_getR 3 hC fl_RX11_19 zL0 rfl dX11_pair_16 ?_
    refine zs_callV [.ref 3] hC cw_X0_tallies cl_RX11_242 zL54 rfl (by decide) rfl rfl (Nat.le_of_ble_eq_true rfl) dX11_pair_19 (fun _ h => ctX0_tallies (by decide) h) (fun r4 m4 _ hf => ?_) hf
    show zAW X 22 _ _ m4
    refine zs_al hC dX11_pair_22 rfl ?_
    refine zs_getR 54 hC fl_RX11_81 zL0 rfl dX11_pair_23 ?_
    refine zs_callV [] hC cw_X0_mostOftenPair cl_RX11_256 zL54 rfl (by decide) rfl rfl (Nat.le_of_ble_eq_true rfl) dX11_pair_26 (fun _ h => ctX0_mostOftenPair h) (fun r6 m6 _ hf => ?_) hf
    show zAW X 29 _ (.int r6 :: _) m6
    refine zs_is hC dX11_pair_29 (by decide) rfl ?_
    refine zs_al hC dX11_pair_30 rfl ?_
    refine zs_getR 54 hC fl_RX11_81 zL0 rfl dX11_pair_31 ?_
    refine zs_getR 55 hC fl_RX11_259 zL54 rfl dX11_pair_34 ?_
    refine zs_il hC dX11_pair_37 rfl ?_
    refine zs_iald hC zL55 dX11_pair_38 (fun _ hf => ?_) hf
    refine zs_is hC dX11_pair_39 (by decide) rfl ?_
    refine zs_il hC dX11_pair_40 rfl ?_
    refine zs_k hC dX11_pair_41 ?_
    refine zs_ic_ne hC dX11_pair_42 (fun _ hf => ?_) (fun _ hf => ?_) hf
    · refine zs_il hC dX11_pair_45 rfl ?_
      exact zs_iret hC hret dX11_pair_46 hf
    · refine zs_il hC dX11_pair_47 rfl ?_
      refine zs_if_ne hC dX11_pair_48 (fun _ hf => ?_) (fun _ hf => ?_) hf
      · refine zs_k hC dX11_pair_51 ?_
        exact zs_iret hC hret dX11_pair_53 hf
      · refine zs_il hC dX11_pair_54 rfl ?_
        refine zs_if_ne hC dX11_pair_55 (fun _ hf => ?_) (fun _ hf => ?_) hf
        · refine zs_il hC dX11_pair_58 rfl ?_
          refine zs_k hC dX11_pair_59 ?_
          refine zs_idiv hC dX11_pair_61 (fun _ hf => ?_) hf
          refine zs_goto hC dX11_pair_62 ?_
          exact zs_iret hC hret dX11_pair_69 hf
        · refine zs_il hC dX11_pair_65 rfl ?_
          refine zs_k hC dX11_pair_66 ?_
          refine zs_irem hC dX11_pair_68 (fun _ hf => ?_) hf
          exact zs_iret hC hret dX11_pair_69 hf
set_option maxRecDepth 20000 in
set_option maxHeartbeats 4000000 in
theorem ctX11_pair {E : zEV} {F : Nat} {v1 : Int32} {μ : zMem} {out : zR} (hf : fX11_pair F v1 μ = some out) : zCt E yX11_pair cX11_pair 4 (some .int) 3 [.ref 0, .int v1] μ out :=
  zCt.of [some (.ref 0), some (.int v1), none, none] (by decide +kernel) (Nat.le_of_ble_eq_true rfl) (zLw_s (zLw_s (zLw_e (zLw_e zLw_0)))) rfl (fun X hE ho hr hC => by
    subst hE; subst ho
    exact wX11_pair hC hr hf)
/-! X11_reached -/
def fX11_reached (F : Nat) (v1 : Int32) (μ : zMem) : Option zR :=
  zBd (fX11_isPerson F v1 μ) (fun r1 m1 => if r1 = 0 then some ((-1 : Int32), m1) else zBd (fX0_tallies F 3 m1) (fun r4 m4 => zBd (fX0_reachedFrom F v1 m4) (fun r6 m6 => some (r6, m6))))
set_option maxRecDepth 20000 in
set_option maxHeartbeats 4000000 in
theorem wX11_reached {X : zX} {F : Nat} (hC : zCx X RX11 cX11_reached 2 3) (hret : zRt X (some .int)) {v1 : Int32} {μ : zMem} (hf : fX11_reached F v1 μ = some (zOut X)) : zAW X 0 [some (.ref 0), some (.int v1)] [] μ := by
  unfold fX11_reached at hf
  refine zs_il hC dX11_reached_0 rfl ?_
  refine zs_callS [.int v1] hC cw_X11_isPerson cl_RX11_92 (by decide) rfl rfl (Nat.le_of_ble_eq_true rfl) dX11_reached_1 (fun _ h => ctX11_isPerson h) (fun r1 m1 _ hf => ?_) hf
  show zAW X 4 _ (.int r1 :: _) m1
  refine zs_if_ne hC dX11_reached_4 (fun _ hf => ?_) (fun _ hf => ?_) hf
  · refine zs_k hC dX11_reached_7 ?_
    exact zs_iret hC hret dX11_reached_8 hf
  · refine zs_al hC dX11_reached_9 rfl ?_
    refine zs_getR 54 hC fl_RX11_81 zL0 rfl dX11_reached_10 ?_
    refine zs_al hC dX11_reached_13 rfl ?_
    refine zs_getR 3 hC fl_RX11_19 zL0 rfl dX11_reached_14 ?_
    refine zs_callV [.ref 3] hC cw_X0_tallies cl_RX11_242 zL54 rfl (by decide) rfl rfl (Nat.le_of_ble_eq_true rfl) dX11_reached_17 (fun _ h => ctX0_tallies (by decide) h) (fun r4 m4 _ hf => ?_) hf
    show zAW X 20 _ _ m4
    refine zs_al hC dX11_reached_20 rfl ?_
    refine zs_getR 54 hC fl_RX11_81 zL0 rfl dX11_reached_21 ?_
    refine zs_il hC dX11_reached_24 rfl ?_
    refine zs_callV [.int v1] hC cw_X0_reachedFrom cl_RX11_262 zL54 rfl (by decide) rfl rfl (Nat.le_of_ble_eq_true rfl) dX11_reached_25 (fun _ h => ctX0_reachedFrom h) (fun r6 m6 _ hf => ?_) hf
    show zAW X 28 _ (.int r6 :: _) m6
    exact zs_iret hC hret dX11_reached_28 hf
set_option maxRecDepth 20000 in
set_option maxHeartbeats 4000000 in
theorem ctX11_reached {E : zEV} {F : Nat} {v1 : Int32} {μ : zMem} {out : zR} (hf : fX11_reached F v1 μ = some out) : zCt E yX11_reached cX11_reached 2 (some .int) 3 [.ref 0, .int v1] μ out :=
  zCt.of [some (.ref 0), some (.int v1)] (by decide +kernel) (Nat.le_of_ble_eq_true rfl) (zLw_s (zLw_s zLw_0)) rfl (fun X hE ho hr hC => by
    subst hE; subst ho
    exact wX11_reached hC hr hf)
/-! X11_lineOf -/
def fX11_lineOf (F : Nat) (v1 : Int32) (v2 : Int32) (μ : zMem) : Option zR :=
  zBd (fX11_isWithin F v1 (nI 12) (nI 60) μ) (fun r1 m1 => if r1 = 0 then some ((-1 : Int32), m1) else zGb (zIsCp ((m1 0 8).toNatClampNeg)) (zBd (fX11_isWithin F v2 (nI 0) ((m1 ((m1 0 8).toNatClampNeg) 2) - (nI 1)) m1) (fun r4 m4 => if r4 = 0 then some ((-1 : Int32), m4) else zGb (zIsCp ((m4 0 8).toNatClampNeg)) (zBd (fX7_sets F ((m4 0 8).toNatClampNeg) v1 m4) (fun r7 m7 => zBd (fX7_lineWith F v2 m7) (fun r9 m9 => some (r9, m9)))))))
set_option maxRecDepth 20000 in
set_option maxHeartbeats 4000000 in
theorem wX11_lineOf {X : zX} {F : Nat} (hC : zCx X RX11 cX11_lineOf 3 2) (hret : zRt X (some .int)) {v1 : Int32} {v2 : Int32} {μ : zMem} (hf : fX11_lineOf F v1 v2 μ = some (zOut X)) : zAW X 0 [some (.ref 0), some (.int v1), some (.int v2)] [] μ := by
  unfold fX11_lineOf at hf
  refine zs_il hC dX11_lineOf_0 rfl ?_
  refine zs_k hC dX11_lineOf_1 ?_
  refine zs_k hC dX11_lineOf_3 ?_
  refine zs_callS [.int v1, .int (nI 12), .int (nI 60)] hC cw_X11_isWithin cl_RX11_97 (by decide) rfl rfl (Nat.le_of_ble_eq_true rfl) dX11_lineOf_5 (fun _ h => ctX11_isWithin h) (fun r1 m1 _ hf => ?_) hf
  show zAW X 8 _ (.int r1 :: _) m1
  refine zs_if_eq hC dX11_lineOf_8 (fun _ hf => ?_) (fun _ hf => ?_) hf
  · refine zs_k hC dX11_lineOf_28 ?_
    exact zs_iret hC hret dX11_lineOf_29 hf
  · refine zs_il hC dX11_lineOf_11 rfl ?_
    refine zs_k hC dX11_lineOf_12 ?_
    refine zs_al hC dX11_lineOf_13 rfl ?_
    refine zs_getD hC fl_RX11_57 zL0 rfl dX11_lineOf_14 ?_
    refine zs_gb (fun hd2 hf => ?_) hf
    refine zs_getI hC fl_RX11_149 (zCp0 hd2) rfl dX11_lineOf_17 ?_
    refine zs_k hC dX11_lineOf_20 ?_
    refine zs_isub hC dX11_lineOf_21 ?_
    refine zs_callS [.int v2, .int (nI 0), .int ((m1 ((m1 0 8).toNatClampNeg) 2) - (nI 1))] hC cw_X11_isWithin cl_RX11_97 (by decide) rfl rfl (Nat.le_of_ble_eq_true rfl) dX11_lineOf_22 (fun _ h => ctX11_isWithin h) (fun r4 m4 _ hf => ?_) hf
    show zAW X 25 _ (.int r4 :: _) m4
    refine zs_if_ne hC dX11_lineOf_25 (fun _ hf => ?_) (fun _ hf => ?_) hf
    · refine zs_k hC dX11_lineOf_28 ?_
      exact zs_iret hC hret dX11_lineOf_29 hf
    · refine zs_al hC dX11_lineOf_30 rfl ?_
      refine zs_getR 46 hC fl_RX11_67 zL0 rfl dX11_lineOf_31 ?_
      refine zs_al hC dX11_lineOf_34 rfl ?_
      refine zs_getD hC fl_RX11_57 zL0 rfl dX11_lineOf_35 ?_
      refine zs_gb (fun hd6 hf => ?_) hf
      refine zs_il hC dX11_lineOf_38 rfl ?_
      refine zs_callV [.ref ((m4 0 8).toNatClampNeg), .int v1] hC cw_X7_sets cl_RX11_265 zL46 rfl (by decide) rfl rfl (Nat.le_of_ble_eq_true rfl) dX11_lineOf_39 (fun _ h => ctX7_sets (hd6) h) (fun r7 m7 _ hf => ?_) hf
      show zAW X 42 _ _ m7
      refine zs_al hC dX11_lineOf_42 rfl ?_
      refine zs_getR 46 hC fl_RX11_67 zL0 rfl dX11_lineOf_43 ?_
      refine zs_il hC dX11_lineOf_46 rfl ?_
      refine zs_callV [.int v2] hC cw_X7_lineWith cl_RX11_268 zL46 rfl (by decide) rfl rfl (Nat.le_of_ble_eq_true rfl) dX11_lineOf_47 (fun _ h => ctX7_lineWith h) (fun r9 m9 _ hf => ?_) hf
      show zAW X 50 _ (.int r9 :: _) m9
      exact zs_iret hC hret dX11_lineOf_50 hf
set_option maxRecDepth 20000 in
set_option maxHeartbeats 4000000 in
theorem ctX11_lineOf {E : zEV} {F : Nat} {v1 : Int32} {v2 : Int32} {μ : zMem} {out : zR} (hf : fX11_lineOf F v1 v2 μ = some out) : zCt E yX11_lineOf cX11_lineOf 3 (some .int) 2 [.ref 0, .int v1, .int v2] μ out :=
  zCt.of [some (.ref 0), some (.int v1), some (.int v2)] (by decide +kernel) (Nat.le_of_ble_eq_true rfl) (zLw_s (zLw_s (zLw_s zLw_0))) rfl (fun X hE ho hr hC => by
    subst hE; subst ho
    exact wX11_lineOf hC hr hf)
/-! X11_copyIs -/
def fX11_copyIs (F : Nat) (v1 : Int32) (μ : zMem) : Option zR :=
  (if v1 = (nI 0) then zGb (zIsCp ((μ 0 8).toNatClampNeg)) (zBd (fX1_allLetters F ((μ 0 8).toNatClampNeg) μ) (fun r2 m2 => some (r2, m2))) else if v1 = (nI 1) then zGb (zIsCp ((μ 0 8).toNatClampNeg)) (zBd (fX1_longestWord F ((μ 0 8).toNatClampNeg) μ) (fun r4 m4 => some (r4, m4))) else if v1 = (nI 2) then zGb (zIsCp ((μ 0 8).toNatClampNeg)) (zBd (fX1_unlikeLetters F ((μ 0 8).toNatClampNeg) μ) (fun r6 m6 => some (r6, m6))) else some ((-1 : Int32), μ))
set_option maxRecDepth 20000 in
set_option maxHeartbeats 4000000 in
theorem wX11_copyIs {X : zX} {F : Nat} (hC : zCx X RX11 cX11_copyIs 2 3) (hret : zRt X (some .int)) {v1 : Int32} {μ : zMem} (hf : fX11_copyIs F v1 μ = some (zOut X)) : zAW X 0 [some (.ref 0), some (.int v1)] [] μ := by
  unfold fX11_copyIs at hf
  refine zs_il hC dX11_copyIs_0 rfl ?_
  refine zs_case (nI 0) (fun hx hf => ?_) (fun e1_0 hf => ?_) hf
  · refine zs_tabI (off := 27) (tgt := 28) hC hx dX11_copyIs_1 (by decide) (by decide) rfl (by decide) ?_
    refine zs_al hC dX11_copyIs_28 rfl ?_
    refine zs_getD hC fl_RX11_57 zL0 rfl dX11_copyIs_29 ?_
    refine zs_gb (fun hd1 hf => ?_) hf
    refine zs_callV [] hC cw_X1_allLetters cl_RX11_271 (zCp0 hd1) rfl (by decide) rfl rfl (Nat.le_of_ble_eq_true rfl) dX11_copyIs_32 (fun _ h => ctX1_allLetters (hd1) h) (fun r2 m2 _ hf => ?_) hf
    show zAW X 35 _ (.int r2 :: _) m2
    exact zs_iret hC hret dX11_copyIs_35 hf
  refine zs_case (nI 1) (fun hx hf => ?_) (fun e1_1 hf => ?_) hf
  · refine zs_tabI (off := 35) (tgt := 36) hC hx dX11_copyIs_1 (by decide) (by decide) rfl (by decide) ?_
    refine zs_al hC dX11_copyIs_36 rfl ?_
    refine zs_getD hC fl_RX11_57 zL0 rfl dX11_copyIs_37 ?_
    refine zs_gb (fun hd3 hf => ?_) hf
    refine zs_callV [] hC cw_X1_longestWord cl_RX11_274 (zCp0 hd3) rfl (by decide) rfl rfl (Nat.le_of_ble_eq_true rfl) dX11_copyIs_40 (fun _ h => ctX1_longestWord (hd3) h) (fun r4 m4 _ hf => ?_) hf
    show zAW X 43 _ (.int r4 :: _) m4
    exact zs_iret hC hret dX11_copyIs_43 hf
  refine zs_case (nI 2) (fun hx hf => ?_) (fun e1_2 hf => ?_) hf
  · refine zs_tabI (off := 43) (tgt := 44) hC hx dX11_copyIs_1 (by decide) (by decide) rfl (by decide) ?_
    refine zs_al hC dX11_copyIs_44 rfl ?_
    refine zs_getD hC fl_RX11_57 zL0 rfl dX11_copyIs_45 ?_
    refine zs_gb (fun hd5 hf => ?_) hf
    refine zs_callV [] hC cw_X1_unlikeLetters cl_RX11_277 (zCp0 hd5) rfl (by decide) rfl rfl (Nat.le_of_ble_eq_true rfl) dX11_copyIs_48 (fun _ h => ctX1_unlikeLetters (hd5) h) (fun r6 m6 _ hf => ?_) hf
    show zAW X 51 _ (.int r6 :: _) m6
    exact zs_iret hC hret dX11_copyIs_51 hf
  have e1_0 := lv_neT (a := 0) e1_0 (by decide)
  have e1_1 := lv_neT (a := 1) e1_1 (by decide)
  have e1_2 := lv_neT (a := 2) e1_2 (by decide)
  refine zs_tabO (tgt := 52) hC dX11_copyIs_1 (by omega) (by decide) ?_
  refine zs_k hC dX11_copyIs_52 ?_
  exact zs_iret hC hret dX11_copyIs_53 hf
set_option maxRecDepth 20000 in
set_option maxHeartbeats 4000000 in
theorem ctX11_copyIs {E : zEV} {F : Nat} {v1 : Int32} {μ : zMem} {out : zR} (hf : fX11_copyIs F v1 μ = some out) : zCt E yX11_copyIs cX11_copyIs 2 (some .int) 3 [.ref 0, .int v1] μ out :=
  zCt.of [some (.ref 0), some (.int v1)] (by decide +kernel) (Nat.le_of_ble_eq_true rfl) (zLw_s (zLw_s zLw_0)) rfl (fun X hE ho hr hC => by
    subst hE; subst ho
    exact wX11_copyIs hC hr hf)
/-! X11_set -/
def fX11_set (F : Nat) (v1 : Int32) (v2 : Int32) (μ : zMem) : Option zR :=
  zBd (fX11_isWithin F v1 (nI 12) (nI 60) μ) (fun r1 m1 => if r1 = 0 then some ((-1 : Int32), m1) else zBd (fX11_isWithin F v2 (nI 0) (nI 2) m1) (fun r2 m2 => if r2 = 0 then some ((-1 : Int32), m2) else zGb (zIsCp ((m2 0 8).toNatClampNeg)) (zBd (fX7_sets F ((m2 0 8).toNatClampNeg) v1 m2) (fun r5 m5 => (if v2 = (nI 0) then zG (nI 0) 61 (some ((m5 47 (nI 0).toNatClampNeg), m5)) else if v2 = (nI 1) then zG (nI 0) 61 (some ((m5 48 (nI 0).toNatClampNeg), m5)) else zG (nI 0) 61 (some ((m5 49 (nI 0).toNatClampNeg), m5)))))))
set_option maxRecDepth 20000 in
set_option maxHeartbeats 4000000 in
theorem wX11_set {X : zX} {F : Nat} (hC : zCx X RX11 cX11_set 3 2) (hret : zRt X (some .int)) {v1 : Int32} {v2 : Int32} {μ : zMem} (hf : fX11_set F v1 v2 μ = some (zOut X)) : zAW X 0 [some (.ref 0), some (.int v1), some (.int v2)] [] μ := by
  unfold fX11_set at hf
  refine zs_il hC dX11_set_0 rfl ?_
  refine zs_k hC dX11_set_1 ?_
  refine zs_k hC dX11_set_3 ?_
  refine zs_callS [.int v1, .int (nI 12), .int (nI 60)] hC cw_X11_isWithin cl_RX11_97 (by decide) rfl rfl (Nat.le_of_ble_eq_true rfl) dX11_set_5 (fun _ h => ctX11_isWithin h) (fun r1 m1 _ hf => ?_) hf
  show zAW X 8 _ (.int r1 :: _) m1
  refine zs_if_eq hC dX11_set_8 (fun _ hf => ?_) (fun _ hf => ?_) hf
  · refine zs_k hC dX11_set_20 ?_
    exact zs_iret hC hret dX11_set_21 hf
  · refine zs_il hC dX11_set_11 rfl ?_
    refine zs_k hC dX11_set_12 ?_
    refine zs_k hC dX11_set_13 ?_
    refine zs_callS [.int v2, .int (nI 0), .int (nI 2)] hC cw_X11_isWithin cl_RX11_97 (by decide) rfl rfl (Nat.le_of_ble_eq_true rfl) dX11_set_14 (fun _ h => ctX11_isWithin h) (fun r2 m2 _ hf => ?_) hf
    show zAW X 17 _ (.int r2 :: _) m2
    refine zs_if_ne hC dX11_set_17 (fun _ hf => ?_) (fun _ hf => ?_) hf
    · refine zs_k hC dX11_set_20 ?_
      exact zs_iret hC hret dX11_set_21 hf
    · refine zs_al hC dX11_set_22 rfl ?_
      refine zs_getR 46 hC fl_RX11_67 zL0 rfl dX11_set_23 ?_
      refine zs_al hC dX11_set_26 rfl ?_
      refine zs_getD hC fl_RX11_57 zL0 rfl dX11_set_27 ?_
      refine zs_gb (fun hd4 hf => ?_) hf
      refine zs_il hC dX11_set_30 rfl ?_
      refine zs_callV [.ref ((m2 0 8).toNatClampNeg), .int v1] hC cw_X7_sets cl_RX11_265 zL46 rfl (by decide) rfl rfl (Nat.le_of_ble_eq_true rfl) dX11_set_31 (fun _ h => ctX7_sets (hd4) h) (fun r5 m5 _ hf => ?_) hf
      show zAW X 34 _ _ m5
      refine zs_il hC dX11_set_34 rfl ?_
      refine zs_case (nI 0) (fun hx hf => ?_) (fun e35_0 hf => ?_) hf
      · refine zs_look (tgt := 60) (off := 25) hC dX11_set_35 (by decide) (by rw [hx]; first | done | decide) (by decide) ?_
        refine zs_al hC dX11_set_60 rfl ?_
        refine zs_getR 46 hC fl_RX11_67 zL0 rfl dX11_set_61 ?_
        refine zs_getR 47 hC fl_RX11_280 zL46 rfl dX11_set_64 ?_
        refine zs_k hC dX11_set_67 ?_
        refine zs_iald hC zL47 dX11_set_68 (fun _ hf => ?_) hf
        exact zs_iret hC hret dX11_set_69 hf
      refine zs_case (nI 1) (fun hx hf => ?_) (fun e35_1 hf => ?_) hf
      · refine zs_look (tgt := 70) (off := 35) hC dX11_set_35 (by decide) (by rw [hx]; first | done | decide) (by decide) ?_
        refine zs_al hC dX11_set_70 rfl ?_
        refine zs_getR 46 hC fl_RX11_67 zL0 rfl dX11_set_71 ?_
        refine zs_getR 48 hC fl_RX11_283 zL46 rfl dX11_set_74 ?_
        refine zs_k hC dX11_set_77 ?_
        refine zs_iald hC zL48 dX11_set_78 (fun _ hf => ?_) hf
        exact zs_iret hC hret dX11_set_79 hf
      refine zs_look (tgt := 80) (off := 45) hC dX11_set_35 (by decide) (by show Op.lookupswitch.offset [(0, 25), (1, 35)] 45 _ = _; rw [lv_osw (a := 0) e35_0 (by decide), lv_osw (a := 1) e35_1 (by decide)]; rfl) (by decide) ?_
      refine zs_al hC dX11_set_80 rfl ?_
      refine zs_getR 46 hC fl_RX11_67 zL0 rfl dX11_set_81 ?_
      refine zs_getR 49 hC fl_RX11_285 zL46 rfl dX11_set_84 ?_
      refine zs_k hC dX11_set_87 ?_
      refine zs_iald hC zL49 dX11_set_88 (fun _ hf => ?_) hf
      exact zs_iret hC hret dX11_set_89 hf
set_option maxRecDepth 20000 in
set_option maxHeartbeats 4000000 in
theorem ctX11_set {E : zEV} {F : Nat} {v1 : Int32} {v2 : Int32} {μ : zMem} {out : zR} (hf : fX11_set F v1 v2 μ = some out) : zCt E yX11_set cX11_set 3 (some .int) 2 [.ref 0, .int v1, .int v2] μ out :=
  zCt.of [some (.ref 0), some (.int v1), some (.int v2)] (by decide +kernel) (Nat.le_of_ble_eq_true rfl) (zLw_s (zLw_s (zLw_s zLw_0))) rfl (fun X hE ho hr hC => by
    subst hE; subst ho
    exact wX11_set hC hr hf)
/-! X11_type -/
def fX11_type (F : Nat) (v1 : Int32) (μ : zMem) : Option zR :=
  zBd (fX11_isLetter F v1 μ) (fun r1 m1 => if r1 = 0 then some ((-1 : Int32), m1) else zGb (zIsCp ((m1 0 8).toNatClampNeg)) (zG v1 26 (some ((m1 (((m1 0 8).toNatClampNeg) + 2) v1.toNatClampNeg), m1))))
set_option maxRecDepth 20000 in
set_option maxHeartbeats 4000000 in
theorem wX11_type {X : zX} {F : Nat} (hC : zCx X RX11 cX11_type 2 2) (hret : zRt X (some .int)) {v1 : Int32} {μ : zMem} (hf : fX11_type F v1 μ = some (zOut X)) : zAW X 0 [some (.ref 0), some (.int v1)] [] μ := by
  unfold fX11_type at hf
  refine zs_il hC dX11_type_0 rfl ?_
  refine zs_callS [.int v1] hC cw_X11_isLetter cl_RX11_288 (by decide) rfl rfl (Nat.le_of_ble_eq_true rfl) dX11_type_1 (fun _ h => ctX11_isLetter h) (fun r1 m1 _ hf => ?_) hf
  show zAW X 4 _ (.int r1 :: _) m1
  refine zs_if_eq hC dX11_type_4 (fun _ hf => ?_) (fun _ hf => ?_) hf
  · refine zs_k hC dX11_type_19 ?_
    exact zs_iret hC hret dX11_type_20 hf
  · refine zs_al hC dX11_type_7 rfl ?_
    refine zs_getD hC fl_RX11_57 zL0 rfl dX11_type_8 ?_
    refine zs_gb (fun hd2 hf => ?_) hf
    refine zs_getR (((m1 0 8).toNatClampNeg) + 2) hC fl_RX11_291 (zCp0 hd2) rfl dX11_type_11 ?_
    refine zs_il hC dX11_type_14 rfl ?_
    refine zs_iald hC (zCp2 hd2) dX11_type_15 (fun _ hf => ?_) hf
    refine zs_goto hC dX11_type_16 ?_
    exact zs_iret hC hret dX11_type_20 hf
set_option maxRecDepth 20000 in
set_option maxHeartbeats 4000000 in
theorem ctX11_type {E : zEV} {F : Nat} {v1 : Int32} {μ : zMem} {out : zR} (hf : fX11_type F v1 μ = some out) : zCt E yX11_type cX11_type 2 (some .int) 2 [.ref 0, .int v1] μ out :=
  zCt.of [some (.ref 0), some (.int v1)] (by decide +kernel) (Nat.le_of_ble_eq_true rfl) (zLw_s (zLw_s zLw_0)) rfl (fun X hE ho hr hC => by
    subst hE; subst ho
    exact wX11_type hC hr hf)
/-! X11_bought -/
def fX11_bought (F : Nat) (v1 : Int32) (μ : zMem) : Option zR :=
  zBd (fX11_isWithin F v1 (nI 0) (nI 255) μ) (fun r1 m1 => if r1 = 0 then some ((-1 : Int32), m1) else zGb (zIsCp ((m1 0 8).toNatClampNeg)) (zBd (fX1_lackingTypes F ((m1 0 8).toNatClampNeg) v1 m1) (fun r3 m3 => some (r3, m3))))
set_option maxRecDepth 20000 in
set_option maxHeartbeats 4000000 in
theorem wX11_bought {X : zX} {F : Nat} (hC : zCx X RX11 cX11_bought 2 2) (hret : zRt X (some .int)) {v1 : Int32} {μ : zMem} (hf : fX11_bought F v1 μ = some (zOut X)) : zAW X 0 [some (.ref 0), some (.int v1)] [] μ := by
  unfold fX11_bought at hf
  refine zs_il hC dX11_bought_0 rfl ?_
  refine zs_k hC dX11_bought_1 ?_
  refine zs_k hC dX11_bought_2 ?_
  refine zs_callS [.int v1, .int (nI 0), .int (nI 255)] hC cw_X11_isWithin cl_RX11_97 (by decide) rfl rfl (Nat.le_of_ble_eq_true rfl) dX11_bought_5 (fun _ h => ctX11_isWithin h) (fun r1 m1 _ hf => ?_) hf
  show zAW X 8 _ (.int r1 :: _) m1
  refine zs_if_ne hC dX11_bought_8 (fun _ hf => ?_) (fun _ hf => ?_) hf
  · refine zs_k hC dX11_bought_11 ?_
    exact zs_iret hC hret dX11_bought_12 hf
  · refine zs_al hC dX11_bought_13 rfl ?_
    refine zs_getD hC fl_RX11_57 zL0 rfl dX11_bought_14 ?_
    refine zs_gb (fun hd2 hf => ?_) hf
    refine zs_il hC dX11_bought_17 rfl ?_
    refine zs_callV [.int v1] hC cw_X1_lackingTypes cl_RX11_294 (zCp0 hd2) rfl (by decide) rfl rfl (Nat.le_of_ble_eq_true rfl) dX11_bought_18 (fun _ h => ctX1_lackingTypes (hd2) h) (fun r3 m3 _ hf => ?_) hf
    show zAW X 21 _ (.int r3 :: _) m3
    exact zs_iret hC hret dX11_bought_21 hf
set_option maxRecDepth 20000 in
set_option maxHeartbeats 4000000 in
theorem ctX11_bought {E : zEV} {F : Nat} {v1 : Int32} {μ : zMem} {out : zR} (hf : fX11_bought F v1 μ = some out) : zCt E yX11_bought cX11_bought 2 (some .int) 2 [.ref 0, .int v1] μ out :=
  zCt.of [some (.ref 0), some (.int v1)] (by decide +kernel) (Nat.le_of_ble_eq_true rfl) (zLw_s (zLw_s zLw_0)) rfl (fun X hE ho hr hC => by
    subst hE; subst ho
    exact wX11_bought hC hr hf)
/-! X11_nuns -/
def fX11_nuns (F : Nat) (v1 : Int32) (v2 : Int32) (μ : zMem) : Option zR :=
  zBd (fX11_isWithin F v1 (nI 1) (nI 8) μ) (fun r1 m1 => if r1 = 0 then some ((-1 : Int32), m1) else zBd (fX11_isWithin F v2 (nI 2) (nI 3) m1) (fun r2 m2 => if r2 = 0 then some ((-1 : Int32), m2) else zBd (fX9_opens F v1 m2) (fun r4 m4 => if r4 = 0 then some ((-1 : Int32), m4) else zBd (fX3_timeOfNuns F v1 v2 m4) (fun r7 m7 => zBd (fX9_empties F m7) (fun r9 m9 => some (r7, m9))))))
set_option maxRecDepth 20000 in
set_option maxHeartbeats 4000000 in
theorem wX11_nuns {X : zX} {F : Nat} (hC : zCx X RX11 cX11_nuns 4 23) (hret : zRt X (some .int)) {v1 : Int32} {v2 : Int32} {μ : zMem} (hf : fX11_nuns F v1 v2 μ = some (zOut X)) : zAW X 0 [some (.ref 0), some (.int v1), some (.int v2), none] [] μ := by
  unfold fX11_nuns at hf
  refine zs_il hC dX11_nuns_0 rfl ?_
  refine zs_k hC dX11_nuns_1 ?_
  refine zs_k hC dX11_nuns_2 ?_
  refine zs_callS [.int v1, .int (nI 1), .int (nI 8)] hC cw_X11_isWithin cl_RX11_97 (by decide) rfl rfl (Nat.le_of_ble_eq_true rfl) dX11_nuns_4 (fun _ h => ctX11_isWithin h) (fun r1 m1 _ hf => ?_) hf
  show zAW X 7 _ (.int r1 :: _) m1
  refine zs_if_eq hC dX11_nuns_7 (fun _ hf => ?_) (fun _ hf => ?_) hf
  · refine zs_k hC dX11_nuns_30 ?_
    exact zs_iret hC hret dX11_nuns_31 hf
  · refine zs_il hC dX11_nuns_10 rfl ?_
    refine zs_k hC dX11_nuns_11 ?_
    refine zs_k hC dX11_nuns_12 ?_
    refine zs_callS [.int v2, .int (nI 2), .int (nI 3)] hC cw_X11_isWithin cl_RX11_97 (by decide) rfl rfl (Nat.le_of_ble_eq_true rfl) dX11_nuns_13 (fun _ h => ctX11_isWithin h) (fun r2 m2 _ hf => ?_) hf
    show zAW X 16 _ (.int r2 :: _) m2
    refine zs_if_eq hC dX11_nuns_16 (fun _ hf => ?_) (fun _ hf => ?_) hf
    · refine zs_k hC dX11_nuns_30 ?_
      exact zs_iret hC hret dX11_nuns_31 hf
    · refine zs_al hC dX11_nuns_19 rfl ?_
      refine zs_getR 1 hC fl_RX11_10 zL0 rfl dX11_nuns_20 ?_
      refine zs_il hC dX11_nuns_23 rfl ?_
      refine zs_callV [.int v1] hC cw_X9_opens cl_RX11_113 zL1 rfl (by decide) rfl rfl (Nat.le_of_ble_eq_true rfl) dX11_nuns_24 (fun _ h => ctX9_opens h) (fun r4 m4 _ hf => ?_) hf
      show zAW X 27 _ (.int r4 :: _) m4
      refine zs_if_ne hC dX11_nuns_27 (fun _ hf => ?_) (fun _ hf => ?_) hf
      · refine zs_k hC dX11_nuns_30 ?_
        exact zs_iret hC hret dX11_nuns_31 hf
      · refine zs_al hC dX11_nuns_32 rfl ?_
        refine zs_getR 56 hC fl_RX11_88 zL0 rfl dX11_nuns_33 ?_
        refine zs_al hC dX11_nuns_36 rfl ?_
        refine zs_getR 1 hC fl_RX11_10 zL0 rfl dX11_nuns_37 ?_
        refine zs_il hC dX11_nuns_40 rfl ?_
        refine zs_il hC dX11_nuns_41 rfl ?_
        refine zs_callV [.ref 1, .int v1, .int v2] hC cw_X3_timeOfNuns cl_RX11_297 zL56 rfl (by decide) rfl rfl (Nat.le_of_ble_eq_true rfl) dX11_nuns_42 (fun _ h => ctX3_timeOfNuns h) (fun r7 m7 _ hf => ?_) hf
        show zAW X 45 _ (.int r7 :: _) m7
        refine zs_is hC dX11_nuns_45 (by decide) rfl ?_
        refine zs_al hC dX11_nuns_46 rfl ?_
        refine zs_getR 1 hC fl_RX11_10 zL0 rfl dX11_nuns_47 ?_
        refine zs_callV [] hC cw_X9_empties cl_RX11_120 zL1 rfl (by decide) rfl rfl (Nat.le_of_ble_eq_true rfl) dX11_nuns_50 (fun _ h => ctX9_empties h) (fun r9 m9 _ hf => ?_) hf
        show zAW X 53 _ _ m9
        refine zs_il hC dX11_nuns_53 rfl ?_
        exact zs_iret hC hret dX11_nuns_54 hf
set_option maxRecDepth 20000 in
set_option maxHeartbeats 4000000 in
theorem ctX11_nuns {E : zEV} {F : Nat} {v1 : Int32} {v2 : Int32} {μ : zMem} {out : zR} (hf : fX11_nuns F v1 v2 μ = some out) : zCt E yX11_nuns cX11_nuns 4 (some .int) 23 [.ref 0, .int v1, .int v2] μ out :=
  zCt.of [some (.ref 0), some (.int v1), some (.int v2), none] (by decide +kernel) (Nat.le_of_ble_eq_true rfl) (zLw_s (zLw_s (zLw_s (zLw_e zLw_0)))) rfl (fun X hE ho hr hC => by
    subst hE; subst ho
    exact wX11_nuns hC hr hf)
/-! X11_space -/
def fX11_space_68 (F : Nat) (v4 : Int32) (μ : zMem) : Option zR :=
  zBd (fX9_empties F μ) (fun r2 m2 => some (v4, m2))
def fX11_space (F : Nat) (v1 : Int32) (v2 : Int32) (v3 : Int32) (μ : zMem) : Option zR :=
  zBd (fX11_isWithin F v1 (nI 1) (nI 10) μ) (fun r1 m1 => if r1 = 0 then some ((-1 : Int32), m1) else zBd (fX11_isWithin F v2 (nI 0) (nI 255) m1) (fun r2 m2 => if r2 = 0 then some ((-1 : Int32), m2) else zBd (fX11_isWithin F v3 (nI 0) (nI 1) m2) (fun r3 m3 => if r3 = 0 then some ((-1 : Int32), m3) else zBd (fX9_opens F ((nI 2) * v1) m3) (fun r5 m5 => if r5 = 0 then some ((-1 : Int32), m5) else zBd (fX3_noticesThatPayMost F v1 v2 m5) (fun r7 m7 => if v3 = (nI 1) then fX11_space_68 F r7 m7 else if r7 = (-3 : Int32) then fX11_space_68 F r7 m7 else zBd (fX3_paidFor F v1 r7 m7) (fun r9 m9 => zBd (fX9_empties F m9) (fun r11 m11 => some (r9, m11))))))))
set_option maxRecDepth 20000 in
set_option maxHeartbeats 4000000 in
theorem wX11_space_68 {X : zX} {F : Nat} (hC : zCx X RX11 cX11_space 6 4) (hret : zRt X (some .int)) {v4 : Int32} {μ : zMem} (hf : fX11_space_68 F v4 μ = some (zOut X)) : zAW X 68 [some (.ref 0), none, none, none, some (.int v4), none] [] μ := by
  unfold fX11_space_68 at hf
  refine zs_il hC dX11_space_68 rfl ?_
  refine zs_goto hC dX11_space_70 ?_
  refine zs_is hC dX11_space_83 (by decide) rfl ?_
  refine zs_al hC dX11_space_85 rfl ?_
  refine zs_getR 1 hC fl_RX11_10 zL0 rfl dX11_space_86 ?_
  refine zs_callV [] hC cw_X9_empties cl_RX11_120 zL1 rfl (by decide) rfl rfl (Nat.le_of_ble_eq_true rfl) dX11_space_89 (fun _ h => ctX9_empties h) (fun r2 m2 _ hf => ?_) hf
  show zAW X 92 _ _ m2
  refine zs_il hC dX11_space_92 rfl ?_
  exact zs_iret hC hret dX11_space_94 hf
set_option maxRecDepth 20000 in
set_option maxHeartbeats 4000000 in
theorem wX11_space {X : zX} {F : Nat} (hC : zCx X RX11 cX11_space 6 4) (hret : zRt X (some .int)) {v1 : Int32} {v2 : Int32} {v3 : Int32} {μ : zMem} (hf : fX11_space F v1 v2 v3 μ = some (zOut X)) : zAW X 0 [some (.ref 0), some (.int v1), some (.int v2), some (.int v3), none, none] [] μ := by
  unfold fX11_space at hf
  refine zs_il hC dX11_space_0 rfl ?_
  refine zs_k hC dX11_space_1 ?_
  refine zs_k hC dX11_space_2 ?_
  refine zs_callS [.int v1, .int (nI 1), .int (nI 10)] hC cw_X11_isWithin cl_RX11_97 (by decide) rfl rfl (Nat.le_of_ble_eq_true rfl) dX11_space_4 (fun _ h => ctX11_isWithin h) (fun r1 m1 _ hf => ?_) hf
  show zAW X 7 _ (.int r1 :: _) m1
  refine zs_if_eq hC dX11_space_7 (fun _ hf => ?_) (fun _ hf => ?_) hf
  · refine zs_k hC dX11_space_43 ?_
    exact zs_iret hC hret dX11_space_44 hf
  · refine zs_il hC dX11_space_10 rfl ?_
    refine zs_k hC dX11_space_11 ?_
    refine zs_k hC dX11_space_12 ?_
    refine zs_callS [.int v2, .int (nI 0), .int (nI 255)] hC cw_X11_isWithin cl_RX11_97 (by decide) rfl rfl (Nat.le_of_ble_eq_true rfl) dX11_space_15 (fun _ h => ctX11_isWithin h) (fun r2 m2 _ hf => ?_) hf
    show zAW X 18 _ (.int r2 :: _) m2
    refine zs_if_eq hC dX11_space_18 (fun _ hf => ?_) (fun _ hf => ?_) hf
    · refine zs_k hC dX11_space_43 ?_
      exact zs_iret hC hret dX11_space_44 hf
    · refine zs_il hC dX11_space_21 rfl ?_
      refine zs_k hC dX11_space_22 ?_
      refine zs_k hC dX11_space_23 ?_
      refine zs_callS [.int v3, .int (nI 0), .int (nI 1)] hC cw_X11_isWithin cl_RX11_97 (by decide) rfl rfl (Nat.le_of_ble_eq_true rfl) dX11_space_24 (fun _ h => ctX11_isWithin h) (fun r3 m3 _ hf => ?_) hf
      show zAW X 27 _ (.int r3 :: _) m3
      refine zs_if_eq hC dX11_space_27 (fun _ hf => ?_) (fun _ hf => ?_) hf
      · refine zs_k hC dX11_space_43 ?_
        exact zs_iret hC hret dX11_space_44 hf
      · refine zs_al hC dX11_space_30 rfl ?_
        refine zs_getR 1 hC fl_RX11_10 zL0 rfl dX11_space_31 ?_
        refine zs_k hC dX11_space_34 ?_
        refine zs_il hC dX11_space_35 rfl ?_
        refine zs_imul hC dX11_space_36 ?_
        refine zs_callV [.int ((nI 2) * v1)] hC cw_X9_opens cl_RX11_113 zL1 rfl (by decide) rfl rfl (Nat.le_of_ble_eq_true rfl) dX11_space_37 (fun _ h => ctX9_opens h) (fun r5 m5 _ hf => ?_) hf
        show zAW X 40 _ (.int r5 :: _) m5
        refine zs_if_ne hC dX11_space_40 (fun _ hf => ?_) (fun _ hf => ?_) hf
        · refine zs_k hC dX11_space_43 ?_
          exact zs_iret hC hret dX11_space_44 hf
        · refine zs_al hC dX11_space_45 rfl ?_
          refine zs_getR 1 hC fl_RX11_10 zL0 rfl dX11_space_46 ?_
          refine zs_il hC dX11_space_49 rfl ?_
          refine zs_il hC dX11_space_50 rfl ?_
          refine zs_callS [.ref 1, .int v1, .int v2] hC cw_X3_noticesThatPayMost cl_RX11_301 (by decide) rfl rfl (Nat.le_of_ble_eq_true rfl) dX11_space_51 (fun _ h => ctX3_noticesThatPayMost h) (fun r7 m7 _ hf => ?_) hf
          show zAW X 54 _ (.int r7 :: _) m7
          refine zs_is hC dX11_space_54 (by decide) rfl ?_
          refine zs_il hC dX11_space_56 rfl ?_
          refine zs_k hC dX11_space_57 ?_
          refine zs_ic_eq hC dX11_space_58 (fun _ hf => ?_) (fun _ hf => ?_) hf
          · exact zAW.weak (wX11_space_68 hC hret hf) (zLw_s (zLw_n (zLw_n (zLw_n (zLw_s (zLw_n zLw_0))))))
          · refine zs_il hC dX11_space_61 rfl ?_
            refine zs_k hC dX11_space_63 ?_
            refine zs_ic_ne hC dX11_space_65 (fun _ hf => ?_) (fun _ hf => ?_) hf
            · exact zAW.weak (wX11_space_68 hC hret hf) (zLw_s (zLw_n (zLw_n (zLw_n (zLw_s (zLw_n zLw_0))))))
            · refine zs_al hC dX11_space_73 rfl ?_
              refine zs_getR 1 hC fl_RX11_10 zL0 rfl dX11_space_74 ?_
              refine zs_il hC dX11_space_77 rfl ?_
              refine zs_il hC dX11_space_78 rfl ?_
              refine zs_callS [.ref 1, .int v1, .int r7] hC cw_X3_paidFor cl_RX11_304 (by decide) rfl rfl (Nat.le_of_ble_eq_true rfl) dX11_space_80 (fun _ h => ctX3_paidFor h) (fun r9 m9 _ hf => ?_) hf
              show zAW X 83 _ (.int r9 :: _) m9
              refine zs_is hC dX11_space_83 (by decide) rfl ?_
              refine zs_al hC dX11_space_85 rfl ?_
              refine zs_getR 1 hC fl_RX11_10 zL0 rfl dX11_space_86 ?_
              refine zs_callV [] hC cw_X9_empties cl_RX11_120 zL1 rfl (by decide) rfl rfl (Nat.le_of_ble_eq_true rfl) dX11_space_89 (fun _ h => ctX9_empties h) (fun r11 m11 _ hf => ?_) hf
              show zAW X 92 _ _ m11
              refine zs_il hC dX11_space_92 rfl ?_
              exact zs_iret hC hret dX11_space_94 hf
set_option maxRecDepth 20000 in
set_option maxHeartbeats 4000000 in
theorem ctX11_space {E : zEV} {F : Nat} {v1 : Int32} {v2 : Int32} {v3 : Int32} {μ : zMem} {out : zR} (hf : fX11_space F v1 v2 v3 μ = some out) : zCt E yX11_space cX11_space 6 (some .int) 4 [.ref 0, .int v1, .int v2, .int v3] μ out :=
  zCt.of [some (.ref 0), some (.int v1), some (.int v2), some (.int v3), none, none] (by decide +kernel) (Nat.le_of_ble_eq_true rfl) (zLw_s (zLw_s (zLw_s (zLw_s (zLw_e (zLw_e zLw_0)))))) rfl (fun X hE ho hr hC => by
    subst hE; subst ho
    exact wX11_space hC hr hf)
/-! X11_style -/
def fX11_style (F : Nat) (v1 : Int32) (v2 : Int32) (μ : zMem) : Option zR :=
  zBd (fX11_isWithin F v1 (nI 2) (nI 6) μ) (fun r1 m1 => if r1 = 0 then some ((-1 : Int32), m1) else zBd (fX11_isWithin F v2 (nI 0) (nI 1) m1) (fun r2 m2 => if r2 = 0 then some ((-1 : Int32), m2) else zBd (fX9_opens F (((nI 4) * v1) + (nI 4)) m2) (fun r4 m4 => if r4 = 0 then some ((-1 : Int32), m4) else zBd (fX3_nearestWriter F v1 m4) (fun r6 m6 => if v2 = 0 then zBd (fX9_empties F m6) (fun r8 m8 => some (r6, m8)) else zBd (fX3_differenceOf F v1 r6 m6) (fun r10 m10 => zBd (fX9_empties F m10) (fun r12 m12 => some (r10, m12)))))))
set_option maxRecDepth 20000 in
set_option maxHeartbeats 4000000 in
theorem wX11_style {X : zX} {F : Nat} (hC : zCx X RX11 cX11_style 5 3) (hret : zRt X (some .int)) {v1 : Int32} {v2 : Int32} {μ : zMem} (hf : fX11_style F v1 v2 μ = some (zOut X)) : zAW X 0 [some (.ref 0), some (.int v1), some (.int v2), none, none] [] μ := by
  unfold fX11_style at hf
  refine zs_il hC dX11_style_0 rfl ?_
  refine zs_k hC dX11_style_1 ?_
  refine zs_k hC dX11_style_2 ?_
  refine zs_callS [.int v1, .int (nI 2), .int (nI 6)] hC cw_X11_isWithin cl_RX11_97 (by decide) rfl rfl (Nat.le_of_ble_eq_true rfl) dX11_style_4 (fun _ h => ctX11_isWithin h) (fun r1 m1 _ hf => ?_) hf
  show zAW X 7 _ (.int r1 :: _) m1
  refine zs_if_eq hC dX11_style_7 (fun _ hf => ?_) (fun _ hf => ?_) hf
  · refine zs_k hC dX11_style_34 ?_
    exact zs_iret hC hret dX11_style_35 hf
  · refine zs_il hC dX11_style_10 rfl ?_
    refine zs_k hC dX11_style_11 ?_
    refine zs_k hC dX11_style_12 ?_
    refine zs_callS [.int v2, .int (nI 0), .int (nI 1)] hC cw_X11_isWithin cl_RX11_97 (by decide) rfl rfl (Nat.le_of_ble_eq_true rfl) dX11_style_13 (fun _ h => ctX11_isWithin h) (fun r2 m2 _ hf => ?_) hf
    show zAW X 16 _ (.int r2 :: _) m2
    refine zs_if_eq hC dX11_style_16 (fun _ hf => ?_) (fun _ hf => ?_) hf
    · refine zs_k hC dX11_style_34 ?_
      exact zs_iret hC hret dX11_style_35 hf
    · refine zs_al hC dX11_style_19 rfl ?_
      refine zs_getR 1 hC fl_RX11_10 zL0 rfl dX11_style_20 ?_
      refine zs_k hC dX11_style_23 ?_
      refine zs_il hC dX11_style_24 rfl ?_
      refine zs_imul hC dX11_style_25 ?_
      refine zs_k hC dX11_style_26 ?_
      refine zs_iadd hC dX11_style_27 ?_
      refine zs_callV [.int (((nI 4) * v1) + (nI 4))] hC cw_X9_opens cl_RX11_113 zL1 rfl (by decide) rfl rfl (Nat.le_of_ble_eq_true rfl) dX11_style_28 (fun _ h => ctX9_opens h) (fun r4 m4 _ hf => ?_) hf
      show zAW X 31 _ (.int r4 :: _) m4
      refine zs_if_ne hC dX11_style_31 (fun _ hf => ?_) (fun _ hf => ?_) hf
      · refine zs_k hC dX11_style_34 ?_
        exact zs_iret hC hret dX11_style_35 hf
      · refine zs_al hC dX11_style_36 rfl ?_
        refine zs_getR 1 hC fl_RX11_10 zL0 rfl dX11_style_37 ?_
        refine zs_il hC dX11_style_40 rfl ?_
        refine zs_callS [.ref 1, .int v1] hC cw_X3_nearestWriter cl_RX11_307 (by decide) rfl rfl (Nat.le_of_ble_eq_true rfl) dX11_style_41 (fun _ h => ctX3_nearestWriter h) (fun r6 m6 _ hf => ?_) hf
        show zAW X 44 _ (.int r6 :: _) m6
        refine zs_is hC dX11_style_44 (by decide) rfl ?_
        refine zs_il hC dX11_style_45 rfl ?_
        refine zs_if_ne hC dX11_style_46 (fun _ hf => ?_) (fun _ hf => ?_) hf
        · refine zs_il hC dX11_style_49 rfl ?_
          refine zs_goto hC dX11_style_50 ?_
          refine zs_is hC dX11_style_62 (by decide) rfl ?_
          refine zs_al hC dX11_style_64 rfl ?_
          refine zs_getR 1 hC fl_RX11_10 zL0 rfl dX11_style_65 ?_
          refine zs_callV [] hC cw_X9_empties cl_RX11_120 zL1 rfl (by decide) rfl rfl (Nat.le_of_ble_eq_true rfl) dX11_style_68 (fun _ h => ctX9_empties h) (fun r8 m8 _ hf => ?_) hf
          show zAW X 71 _ _ m8
          refine zs_il hC dX11_style_71 rfl ?_
          exact zs_iret hC hret dX11_style_73 hf
        · refine zs_al hC dX11_style_53 rfl ?_
          refine zs_getR 1 hC fl_RX11_10 zL0 rfl dX11_style_54 ?_
          refine zs_il hC dX11_style_57 rfl ?_
          refine zs_il hC dX11_style_58 rfl ?_
          refine zs_callS [.ref 1, .int v1, .int r6] hC cw_X3_differenceOf cl_RX11_311 (by decide) rfl rfl (Nat.le_of_ble_eq_true rfl) dX11_style_59 (fun _ h => ctX3_differenceOf h) (fun r10 m10 _ hf => ?_) hf
          show zAW X 62 _ (.int r10 :: _) m10
          refine zs_is hC dX11_style_62 (by decide) rfl ?_
          refine zs_al hC dX11_style_64 rfl ?_
          refine zs_getR 1 hC fl_RX11_10 zL0 rfl dX11_style_65 ?_
          refine zs_callV [] hC cw_X9_empties cl_RX11_120 zL1 rfl (by decide) rfl rfl (Nat.le_of_ble_eq_true rfl) dX11_style_68 (fun _ h => ctX9_empties h) (fun r12 m12 _ hf => ?_) hf
          show zAW X 71 _ _ m12
          refine zs_il hC dX11_style_71 rfl ?_
          exact zs_iret hC hret dX11_style_73 hf
set_option maxRecDepth 20000 in
set_option maxHeartbeats 4000000 in
theorem ctX11_style {E : zEV} {F : Nat} {v1 : Int32} {v2 : Int32} {μ : zMem} {out : zR} (hf : fX11_style F v1 v2 μ = some out) : zCt E yX11_style cX11_style 5 (some .int) 3 [.ref 0, .int v1, .int v2] μ out :=
  zCt.of [some (.ref 0), some (.int v1), some (.int v2), none, none] (by decide +kernel) (Nat.le_of_ble_eq_true rfl) (zLw_s (zLw_s (zLw_s (zLw_e (zLw_e zLw_0))))) rfl (fun X hE ho hr hC => by
    subst hE; subst ho
    exact wX11_style hC hr hf)
/-! X11_names -/
def fX11_names (F : Nat) (v1 : Int32) (v2 : Int32) (μ : zMem) : Option zR :=
  zBd (fX11_isWithin F v1 (nI 1) (nI 12) μ) (fun r1 m1 => if r1 = 0 then some ((-1 : Int32), m1) else zBd (fX11_isWithin F v2 (nI 1) (nI 12) m1) (fun r2 m2 => if r2 = 0 then some ((-1 : Int32), m2) else zBd (fX9_opens F (v1 + v2) m2) (fun r4 m4 => if r4 = 0 then some ((-1 : Int32), m4) else zBd (fX3_lettersApart F v1 v2 m4) (fun r7 m7 => zBd (fX9_empties F m7) (fun r9 m9 => some (r7, m9))))))
set_option maxRecDepth 20000 in
set_option maxHeartbeats 4000000 in
theorem wX11_names {X : zX} {F : Nat} (hC : zCx X RX11 cX11_names 4 3) (hret : zRt X (some .int)) {v1 : Int32} {v2 : Int32} {μ : zMem} (hf : fX11_names F v1 v2 μ = some (zOut X)) : zAW X 0 [some (.ref 0), some (.int v1), some (.int v2), none] [] μ := by
  unfold fX11_names at hf
  refine zs_il hC dX11_names_0 rfl ?_
  refine zs_k hC dX11_names_1 ?_
  refine zs_k hC dX11_names_2 ?_
  refine zs_callS [.int v1, .int (nI 1), .int (nI 12)] hC cw_X11_isWithin cl_RX11_97 (by decide) rfl rfl (Nat.le_of_ble_eq_true rfl) dX11_names_4 (fun _ h => ctX11_isWithin h) (fun r1 m1 _ hf => ?_) hf
  show zAW X 7 _ (.int r1 :: _) m1
  refine zs_if_eq hC dX11_names_7 (fun _ hf => ?_) (fun _ hf => ?_) hf
  · refine zs_k hC dX11_names_33 ?_
    exact zs_iret hC hret dX11_names_34 hf
  · refine zs_il hC dX11_names_10 rfl ?_
    refine zs_k hC dX11_names_11 ?_
    refine zs_k hC dX11_names_12 ?_
    refine zs_callS [.int v2, .int (nI 1), .int (nI 12)] hC cw_X11_isWithin cl_RX11_97 (by decide) rfl rfl (Nat.le_of_ble_eq_true rfl) dX11_names_14 (fun _ h => ctX11_isWithin h) (fun r2 m2 _ hf => ?_) hf
    show zAW X 17 _ (.int r2 :: _) m2
    refine zs_if_eq hC dX11_names_17 (fun _ hf => ?_) (fun _ hf => ?_) hf
    · refine zs_k hC dX11_names_33 ?_
      exact zs_iret hC hret dX11_names_34 hf
    · refine zs_al hC dX11_names_20 rfl ?_
      refine zs_getR 1 hC fl_RX11_10 zL0 rfl dX11_names_21 ?_
      refine zs_il hC dX11_names_24 rfl ?_
      refine zs_il hC dX11_names_25 rfl ?_
      refine zs_iadd hC dX11_names_26 ?_
      refine zs_callV [.int (v1 + v2)] hC cw_X9_opens cl_RX11_113 zL1 rfl (by decide) rfl rfl (Nat.le_of_ble_eq_true rfl) dX11_names_27 (fun _ h => ctX9_opens h) (fun r4 m4 _ hf => ?_) hf
      show zAW X 30 _ (.int r4 :: _) m4
      refine zs_if_ne hC dX11_names_30 (fun _ hf => ?_) (fun _ hf => ?_) hf
      · refine zs_k hC dX11_names_33 ?_
        exact zs_iret hC hret dX11_names_34 hf
      · refine zs_al hC dX11_names_35 rfl ?_
        refine zs_getR 56 hC fl_RX11_88 zL0 rfl dX11_names_36 ?_
        refine zs_al hC dX11_names_39 rfl ?_
        refine zs_getR 1 hC fl_RX11_10 zL0 rfl dX11_names_40 ?_
        refine zs_il hC dX11_names_43 rfl ?_
        refine zs_il hC dX11_names_44 rfl ?_
        refine zs_callV [.ref 1, .int v1, .int v2] hC cw_X3_lettersApart cl_RX11_314 zL56 rfl (by decide) rfl rfl (Nat.le_of_ble_eq_true rfl) dX11_names_45 (fun _ h => ctX3_lettersApart h) (fun r7 m7 _ hf => ?_) hf
        show zAW X 48 _ (.int r7 :: _) m7
        refine zs_is hC dX11_names_48 (by decide) rfl ?_
        refine zs_al hC dX11_names_49 rfl ?_
        refine zs_getR 1 hC fl_RX11_10 zL0 rfl dX11_names_50 ?_
        refine zs_callV [] hC cw_X9_empties cl_RX11_120 zL1 rfl (by decide) rfl rfl (Nat.le_of_ble_eq_true rfl) dX11_names_53 (fun _ h => ctX9_empties h) (fun r9 m9 _ hf => ?_) hf
        show zAW X 56 _ _ m9
        refine zs_il hC dX11_names_56 rfl ?_
        exact zs_iret hC hret dX11_names_57 hf
set_option maxRecDepth 20000 in
set_option maxHeartbeats 4000000 in
theorem ctX11_names {E : zEV} {F : Nat} {v1 : Int32} {v2 : Int32} {μ : zMem} {out : zR} (hf : fX11_names F v1 v2 μ = some out) : zCt E yX11_names cX11_names 4 (some .int) 3 [.ref 0, .int v1, .int v2] μ out :=
  zCt.of [some (.ref 0), some (.int v1), some (.int v2), none] (by decide +kernel) (Nat.le_of_ble_eq_true rfl) (zLw_s (zLw_s (zLw_s (zLw_e zLw_0)))) rfl (fun X hE ho hr hC => by
    subst hE; subst ho
    exact wX11_names hC hr hf)
/-! X11_duty -/
def fX11_duty (F : Nat) (v1 : Int32) (v2 : Int32) (μ : zMem) : Option zR :=
  zBd (fX8_isTold F 3 v1 μ) (fun r2 m2 => if r2 = 0 then some ((-1 : Int32), m2) else zBd (fX11_isWithin F v2 (nI 1) (nI 6) m2) (fun r3 m3 => if r3 = 0 then some ((-1 : Int32), m3) else zBd (fX9_opens F ((nI 2) * v2) m3) (fun r5 m5 => if r5 = 0 then some ((-1 : Int32), m5) else zG v1 16 (zBd (fX3_dutyOn F v2 (m5 5 v1.toNatClampNeg) m5) (fun r9 m9 => zBd (fX9_empties F m9) (fun r11 m11 => some (r9, m11)))))))
set_option maxRecDepth 20000 in
set_option maxHeartbeats 4000000 in
theorem wX11_duty {X : zX} {F : Nat} (hC : zCx X RX11 cX11_duty 4 3) (hret : zRt X (some .int)) {v1 : Int32} {v2 : Int32} {μ : zMem} (hf : fX11_duty F v1 v2 μ = some (zOut X)) : zAW X 0 [some (.ref 0), some (.int v1), some (.int v2), none] [] μ := by
  unfold fX11_duty at hf
  refine zs_al hC dX11_duty_0 rfl ?_
  refine zs_getR 3 hC fl_RX11_19 zL0 rfl dX11_duty_1 ?_
  refine zs_il hC dX11_duty_4 rfl ?_
  refine zs_callV [.int v1] hC cw_X8_isTold cl_RX11_156 zL3 rfl (by decide) rfl rfl (Nat.le_of_ble_eq_true rfl) dX11_duty_5 (fun _ h => ctX8_isTold (by decide) h) (fun r2 m2 _ hf => ?_) hf
  show zAW X 8 _ (.int r2 :: _) m2
  refine zs_if_eq hC dX11_duty_8 (fun _ hf => ?_) (fun _ hf => ?_) hf
  · refine zs_k hC dX11_duty_34 ?_
    exact zs_iret hC hret dX11_duty_35 hf
  · refine zs_il hC dX11_duty_11 rfl ?_
    refine zs_k hC dX11_duty_12 ?_
    refine zs_k hC dX11_duty_13 ?_
    refine zs_callS [.int v2, .int (nI 1), .int (nI 6)] hC cw_X11_isWithin cl_RX11_97 (by decide) rfl rfl (Nat.le_of_ble_eq_true rfl) dX11_duty_15 (fun _ h => ctX11_isWithin h) (fun r3 m3 _ hf => ?_) hf
    show zAW X 18 _ (.int r3 :: _) m3
    refine zs_if_eq hC dX11_duty_18 (fun _ hf => ?_) (fun _ hf => ?_) hf
    · refine zs_k hC dX11_duty_34 ?_
      exact zs_iret hC hret dX11_duty_35 hf
    · refine zs_al hC dX11_duty_21 rfl ?_
      refine zs_getR 1 hC fl_RX11_10 zL0 rfl dX11_duty_22 ?_
      refine zs_k hC dX11_duty_25 ?_
      refine zs_il hC dX11_duty_26 rfl ?_
      refine zs_imul hC dX11_duty_27 ?_
      refine zs_callV [.int ((nI 2) * v2)] hC cw_X9_opens cl_RX11_113 zL1 rfl (by decide) rfl rfl (Nat.le_of_ble_eq_true rfl) dX11_duty_28 (fun _ h => ctX9_opens h) (fun r5 m5 _ hf => ?_) hf
      show zAW X 31 _ (.int r5 :: _) m5
      refine zs_if_ne hC dX11_duty_31 (fun _ hf => ?_) (fun _ hf => ?_) hf
      · refine zs_k hC dX11_duty_34 ?_
        exact zs_iret hC hret dX11_duty_35 hf
      · refine zs_al hC dX11_duty_36 rfl ?_
        refine zs_getR 1 hC fl_RX11_10 zL0 rfl dX11_duty_37 ?_
        refine zs_il hC dX11_duty_40 rfl ?_
        refine zs_al hC dX11_duty_41 rfl ?_
        refine zs_getR 3 hC fl_RX11_19 zL0 rfl dX11_duty_42 ?_
        refine zs_getR 5 hC fl_RX11_188 zL3 rfl dX11_duty_45 ?_
        refine zs_il hC dX11_duty_48 rfl ?_
        refine zs_iald hC zL5 dX11_duty_49 (fun _ hf => ?_) hf
        refine zs_callS [.ref 1, .int v2, .int (m5 5 v1.toNatClampNeg)] hC cw_X3_dutyOn cl_RX11_317 (by decide) rfl rfl (Nat.le_of_ble_eq_true rfl) dX11_duty_50 (fun _ h => ctX3_dutyOn h) (fun r9 m9 _ hf => ?_) hf
        show zAW X 53 _ (.int r9 :: _) m9
        refine zs_is hC dX11_duty_53 (by decide) rfl ?_
        refine zs_al hC dX11_duty_54 rfl ?_
        refine zs_getR 1 hC fl_RX11_10 zL0 rfl dX11_duty_55 ?_
        refine zs_callV [] hC cw_X9_empties cl_RX11_120 zL1 rfl (by decide) rfl rfl (Nat.le_of_ble_eq_true rfl) dX11_duty_58 (fun _ h => ctX9_empties h) (fun r11 m11 _ hf => ?_) hf
        show zAW X 61 _ _ m11
        refine zs_il hC dX11_duty_61 rfl ?_
        exact zs_iret hC hret dX11_duty_62 hf
set_option maxRecDepth 20000 in
set_option maxHeartbeats 4000000 in
theorem ctX11_duty {E : zEV} {F : Nat} {v1 : Int32} {v2 : Int32} {μ : zMem} {out : zR} (hf : fX11_duty F v1 v2 μ = some out) : zCt E yX11_duty cX11_duty 4 (some .int) 3 [.ref 0, .int v1, .int v2] μ out :=
  zCt.of [some (.ref 0), some (.int v1), some (.int v2), none] (by decide +kernel) (Nat.le_of_ble_eq_true rfl) (zLw_s (zLw_s (zLw_s (zLw_e zLw_0)))) rfl (fun X hE ho hr hC => by
    subst hE; subst ho
    exact wX11_duty hC hr hf)
/-! X11_hands -/
def fX11_hands (F : Nat) (v1 : Int32) (v2 : Int32) (μ : zMem) : Option zR :=
  zBd (fX11_isWithin F v1 (nI 2) (nI 16) μ) (fun r1 m1 => if r1 = 0 then some ((-1 : Int32), m1) else zBd (fX11_isWithin F v2 (nI 0) (nI 1) m1) (fun r2 m2 => if r2 = 0 then some ((-1 : Int32), m2) else zBd (fX9_opens F ((nI 2) * v1) m2) (fun r4 m4 => if r4 = 0 then some ((-1 : Int32), m4) else zBd (fX3_lastToGetIt F v1 m4) (fun r7 m7 => zBd (fX9_empties F m7) (fun r9 m9 => if v2 = (nI 1) then some (r7, m9) else if r7 = (-2 : Int32) then some (r7, m9) else zG r7 16 (some ((m9 58 r7.toNatClampNeg), m9)))))))
set_option maxRecDepth 20000 in
set_option maxHeartbeats 4000000 in
theorem wX11_hands {X : zX} {F : Nat} (hC : zCx X RX11 cX11_hands 4 2) (hret : zRt X (some .int)) {v1 : Int32} {v2 : Int32} {μ : zMem} (hf : fX11_hands F v1 v2 μ = some (zOut X)) : zAW X 0 [some (.ref 0), some (.int v1), some (.int v2), none] [] μ := by
  unfold fX11_hands at hf
  refine zs_il hC dX11_hands_0 rfl ?_
  refine zs_k hC dX11_hands_1 ?_
  refine zs_k hC dX11_hands_2 ?_
  refine zs_callS [.int v1, .int (nI 2), .int (nI 16)] hC cw_X11_isWithin cl_RX11_97 (by decide) rfl rfl (Nat.le_of_ble_eq_true rfl) dX11_hands_4 (fun _ h => ctX11_isWithin h) (fun r1 m1 _ hf => ?_) hf
  show zAW X 7 _ (.int r1 :: _) m1
  refine zs_if_eq hC dX11_hands_7 (fun _ hf => ?_) (fun _ hf => ?_) hf
  · refine zs_k hC dX11_hands_32 ?_
    exact zs_iret hC hret dX11_hands_33 hf
  · refine zs_il hC dX11_hands_10 rfl ?_
    refine zs_k hC dX11_hands_11 ?_
    refine zs_k hC dX11_hands_12 ?_
    refine zs_callS [.int v2, .int (nI 0), .int (nI 1)] hC cw_X11_isWithin cl_RX11_97 (by decide) rfl rfl (Nat.le_of_ble_eq_true rfl) dX11_hands_13 (fun _ h => ctX11_isWithin h) (fun r2 m2 _ hf => ?_) hf
    show zAW X 16 _ (.int r2 :: _) m2
    refine zs_if_eq hC dX11_hands_16 (fun _ hf => ?_) (fun _ hf => ?_) hf
    · refine zs_k hC dX11_hands_32 ?_
      exact zs_iret hC hret dX11_hands_33 hf
    · refine zs_al hC dX11_hands_19 rfl ?_
      refine zs_getR 1 hC fl_RX11_10 zL0 rfl dX11_hands_20 ?_
      refine zs_k hC dX11_hands_23 ?_
      refine zs_il hC dX11_hands_24 rfl ?_
      refine zs_imul hC dX11_hands_25 ?_
      refine zs_callV [.int ((nI 2) * v1)] hC cw_X9_opens cl_RX11_113 zL1 rfl (by decide) rfl rfl (Nat.le_of_ble_eq_true rfl) dX11_hands_26 (fun _ h => ctX9_opens h) (fun r4 m4 _ hf => ?_) hf
      show zAW X 29 _ (.int r4 :: _) m4
      refine zs_if_ne hC dX11_hands_29 (fun _ hf => ?_) (fun _ hf => ?_) hf
      · refine zs_k hC dX11_hands_32 ?_
        exact zs_iret hC hret dX11_hands_33 hf
      · refine zs_al hC dX11_hands_34 rfl ?_
        refine zs_getR 56 hC fl_RX11_88 zL0 rfl dX11_hands_35 ?_
        refine zs_al hC dX11_hands_38 rfl ?_
        refine zs_getR 1 hC fl_RX11_10 zL0 rfl dX11_hands_39 ?_
        refine zs_il hC dX11_hands_42 rfl ?_
        refine zs_callV [.ref 1, .int v1] hC cw_X3_lastToGetIt cl_RX11_320 zL56 rfl (by decide) rfl rfl (Nat.le_of_ble_eq_true rfl) dX11_hands_43 (fun _ h => ctX3_lastToGetIt h) (fun r7 m7 _ hf => ?_) hf
        show zAW X 46 _ (.int r7 :: _) m7
        refine zs_is hC dX11_hands_46 (by decide) rfl ?_
        refine zs_al hC dX11_hands_47 rfl ?_
        refine zs_getR 1 hC fl_RX11_10 zL0 rfl dX11_hands_48 ?_
        refine zs_callV [] hC cw_X9_empties cl_RX11_120 zL1 rfl (by decide) rfl rfl (Nat.le_of_ble_eq_true rfl) dX11_hands_51 (fun _ h => ctX9_empties h) (fun r9 m9 _ hf => ?_) hf
        show zAW X 54 _ _ m9
        refine zs_il hC dX11_hands_54 rfl ?_
        refine zs_k hC dX11_hands_55 ?_
        refine zs_ic_eq hC dX11_hands_56 (fun _ hf => ?_) (fun _ hf => ?_) hf
        · refine zs_il hC dX11_hands_65 rfl ?_
          refine zs_goto hC dX11_hands_66 ?_
          exact zs_iret hC hret dX11_hands_78 hf
        · refine zs_il hC dX11_hands_59 rfl ?_
          refine zs_k hC dX11_hands_60 ?_
          refine zs_ic_ne hC dX11_hands_62 (fun _ hf => ?_) (fun _ hf => ?_) hf
          · refine zs_il hC dX11_hands_65 rfl ?_
            refine zs_goto hC dX11_hands_66 ?_
            exact zs_iret hC hret dX11_hands_78 hf
          · refine zs_al hC dX11_hands_69 rfl ?_
            refine zs_getR 56 hC fl_RX11_88 zL0 rfl dX11_hands_70 ?_
            refine zs_getR 58 hC fl_RX11_323 zL56 rfl dX11_hands_73 ?_
            refine zs_il hC dX11_hands_76 rfl ?_
            refine zs_iald hC zL58 dX11_hands_77 (fun _ hf => ?_) hf
            exact zs_iret hC hret dX11_hands_78 hf
set_option maxRecDepth 20000 in
set_option maxHeartbeats 4000000 in
theorem ctX11_hands {E : zEV} {F : Nat} {v1 : Int32} {v2 : Int32} {μ : zMem} {out : zR} (hf : fX11_hands F v1 v2 μ = some out) : zCt E yX11_hands cX11_hands 4 (some .int) 2 [.ref 0, .int v1, .int v2] μ out :=
  zCt.of [some (.ref 0), some (.int v1), some (.int v2), none] (by decide +kernel) (Nat.le_of_ble_eq_true rfl) (zLw_s (zLw_s (zLw_s (zLw_e zLw_0)))) rfl (fun X hE ho hr hC => by
    subst hE; subst ho
    exact wX11_hands hC hr hf)
/-! X11_seed -/
def fX11_seed (F : Nat) (v1 : Int32) (μ : zMem) : Option zR :=
  zBd (fX11_isWithin F v1 (nI 0) (nI 65535) μ) (fun r1 m1 => if r1 = 0 then some ((nI 0), m1) else zLt (zUp m1 3 7 v1) (fun m3 => some ((nI 1), m3)))
set_option maxRecDepth 20000 in
set_option maxHeartbeats 4000000 in
theorem wX11_seed {X : zX} {F : Nat} (hC : zCx X RX11 cX11_seed 2 1) (hret : zRt X (some .boolean)) {v1 : Int32} {μ : zMem} (hf : fX11_seed F v1 μ = some (zOut X)) : zAW X 0 [some (.ref 0), some (.int v1)] [] μ := by
  unfold fX11_seed at hf
  refine zs_il hC dX11_seed_0 rfl ?_
  refine zs_k hC dX11_seed_1 ?_
  refine zs_ldc hC kc_RX11_96 dX11_seed_2 ?_
  refine zs_callS [.int v1, .int (nI 0), .int (nI 65535)] hC cw_X11_isWithin cl_RX11_97 (by decide) rfl rfl (Nat.le_of_ble_eq_true rfl) dX11_seed_4 (fun _ h => ctX11_isWithin h) (fun r1 m1 _ hf => ?_) hf
  show zAW X 7 _ (.int r1 :: _) m1
  refine zs_if_ne hC dX11_seed_7 (fun _ hf => ?_) (fun _ hf => ?_) hf
  · refine zs_k hC dX11_seed_10 ?_
    exact zs_zretK hC hret dX11_seed_11 (by decide) hf
  · refine zs_al hC dX11_seed_12 rfl ?_
    refine zs_getR 3 hC fl_RX11_19 zL0 rfl dX11_seed_13 ?_
    refine zs_il hC dX11_seed_16 rfl ?_
    refine zs_putI hC fl_RX11_326 fp_8_7 zL3 rfl dX11_seed_17 ?_
    refine zs_let (fun m3 _ hf => ?_) hf
    refine zs_k hC dX11_seed_20 ?_
    exact zs_zretK hC hret dX11_seed_21 (by decide) hf
set_option maxRecDepth 20000 in
set_option maxHeartbeats 4000000 in
theorem ctX11_seed {E : zEV} {F : Nat} {v1 : Int32} {μ : zMem} {out : zR} (hf : fX11_seed F v1 μ = some out) : zCt E yX11_seed cX11_seed 2 (some .boolean) 1 [.ref 0, .int v1] μ out :=
  zCt.of [some (.ref 0), some (.int v1)] (by decide +kernel) (Nat.le_of_ble_eq_true rfl) (zLw_s (zLw_s zLw_0)) rfl (fun X hE ho hr hC => by
    subst hE; subst ho
    exact wX11_seed hC hr hf)
/-! X11_keep -/
def fX11_keep (F : Nat) (μ : zMem) : Option zR :=
  zBd (fX8_becomes F 8 3 μ) (fun r3 m3 => zLt (zUp m3 0 4 (nI 1)) (fun m4 => some ((m4 3 6), m4)))
set_option maxRecDepth 20000 in
set_option maxHeartbeats 4000000 in
theorem wX11_keep {X : zX} {F : Nat} (hC : zCx X RX11 cX11_keep 1 2) (hret : zRt X (some .int)) {μ : zMem} (hf : fX11_keep F μ = some (zOut X)) : zAW X 0 [some (.ref 0)] [] μ := by
  unfold fX11_keep at hf
  refine zs_al hC dX11_keep_0 rfl ?_
  refine zs_getR 8 hC fl_RX11_23 zL0 rfl dX11_keep_1 ?_
  refine zs_al hC dX11_keep_4 rfl ?_
  refine zs_getR 3 hC fl_RX11_19 zL0 rfl dX11_keep_5 ?_
  refine zs_callV [.ref 3] hC cw_X8_becomes cl_RX11_159 zL8 rfl (by decide) rfl rfl (Nat.le_of_ble_eq_true rfl) dX11_keep_8 (fun _ h => ctX8_becomes (by decide) (by decide) h) (fun r3 m3 _ hf => ?_) hf
  show zAW X 11 _ _ m3
  refine zs_al hC dX11_keep_11 rfl ?_
  refine zs_k hC dX11_keep_12 ?_
  refine zs_putZ hC fl_RX11_29 fp_11_4 zL0 rfl (by decide) dX11_keep_13 ?_
  refine zs_let (fun m4 _ hf => ?_) hf
  refine zs_al hC dX11_keep_16 rfl ?_
  refine zs_getR 3 hC fl_RX11_19 zL0 rfl dX11_keep_17 ?_
  refine zs_getI hC fl_RX11_329 zL3 rfl dX11_keep_20 ?_
  exact zs_iret hC hret dX11_keep_23 hf
set_option maxRecDepth 20000 in
set_option maxHeartbeats 4000000 in
theorem ctX11_keep {E : zEV} {F : Nat} {μ : zMem} {out : zR} (hf : fX11_keep F μ = some out) : zCt E yX11_keep cX11_keep 1 (some .int) 2 [.ref 0] μ out :=
  zCt.of [some (.ref 0)] (by decide +kernel) (Nat.le_of_ble_eq_true rfl) (zLw_s zLw_0) rfl (fun X hE ho hr hC => by
    subst hE; subst ho
    exact wX11_keep hC hr hf)
/-! X11_undo -/
def fX11_undo (F : Nat) (μ : zMem) : Option zR :=
  if (μ 0 4) = 0 then some ((nI 0), μ) else zBd (fX8_becomes F 3 8 μ) (fun r4 m4 => some ((nI 1), m4))
set_option maxRecDepth 20000 in
set_option maxHeartbeats 4000000 in
theorem wX11_undo {X : zX} {F : Nat} (hC : zCx X RX11 cX11_undo 1 2) (hret : zRt X (some .boolean)) {μ : zMem} (hf : fX11_undo F μ = some (zOut X)) : zAW X 0 [some (.ref 0)] [] μ := by
  unfold fX11_undo at hf
  refine zs_al hC dX11_undo_0 rfl ?_
  refine zs_getI hC fl_RX11_29 zL0 rfl dX11_undo_1 ?_
  refine zs_if_ne hC dX11_undo_4 (fun _ hf => ?_) (fun _ hf => ?_) hf
  · refine zs_k hC dX11_undo_7 ?_
    exact zs_zretK hC hret dX11_undo_8 (by decide) hf
  · refine zs_al hC dX11_undo_9 rfl ?_
    refine zs_getR 3 hC fl_RX11_19 zL0 rfl dX11_undo_10 ?_
    refine zs_al hC dX11_undo_13 rfl ?_
    refine zs_getR 8 hC fl_RX11_23 zL0 rfl dX11_undo_14 ?_
    refine zs_callV [.ref 8] hC cw_X8_becomes cl_RX11_159 zL3 rfl (by decide) rfl rfl (Nat.le_of_ble_eq_true rfl) dX11_undo_17 (fun _ h => ctX8_becomes (by decide) (by decide) h) (fun r4 m4 _ hf => ?_) hf
    show zAW X 20 _ _ m4
    refine zs_k hC dX11_undo_20 ?_
    exact zs_zretK hC hret dX11_undo_21 (by decide) hf
set_option maxRecDepth 20000 in
set_option maxHeartbeats 4000000 in
theorem ctX11_undo {E : zEV} {F : Nat} {μ : zMem} {out : zR} (hf : fX11_undo F μ = some out) : zCt E yX11_undo cX11_undo 1 (some .boolean) 2 [.ref 0] μ out :=
  zCt.of [some (.ref 0)] (by decide +kernel) (Nat.le_of_ble_eq_true rfl) (zLw_s zLw_0) rfl (fun X hE ho hr hC => by
    subst hE; subst ho
    exact wX11_undo hC hr hf)
/-! X11_check -/
def fX11_check_67 (F : Nat) (k28 : Int32 → Int32 → Int32 → zMem → Option zR) (v1 : Int32) (v2 : Int32) (v3 : Int32) (s0 : Int32) (μ : zMem) : Option zR :=
  zBd (fX9_byteAt F v3 μ) (fun r2 m2 => if r2 = s0 then k28 v1 v2 (v3 + (nI 1)) m2 else k28 v1 v3 (v3 + (nI 1)) m2)
def fX11_check_28 (F : Nat) : Nat → Int32 → Int32 → Int32 → zMem → Option zR
  | 0, _, _, _, _ => none
  | n + 1, v1, v2, v3, μ => if v1 ≤ v3 then zBd (fX9_empties F μ) (fun r2 m2 => some (v2, m2)) else if v2 = (-1 : Int32) then zBd (fX8_isTold F 3 v3 μ) (fun r4 m4 => if r4 = 0 then fX11_check_67 F (fX11_check_28 F n) v1 v2 v3 (nI 255) m4 else zG v3 16 (zBd (fJ6_bitCount_0f7a4 F (m4 4 v3.toNatClampNeg) m4) (fun r7 m7 => fX11_check_67 F (fX11_check_28 F n) v1 v2 v3 r7 m7))) else zBd (fX9_empties F μ) (fun r9 m9 => some (v2, m9))
def fX11_check (F : Nat) (v1 : Int32) (μ : zMem) : Option zR :=
  zBd (fX11_isWithin F v1 (nI 0) (nI 16) μ) (fun r1 m1 => if r1 = 0 then some ((-2 : Int32), m1) else zBd (fX9_opens F v1 m1) (fun r3 m3 => if r3 = 0 then some ((-2 : Int32), m3) else fX11_check_28 F F v1 (-1 : Int32) (nI 0) m3))
set_option maxRecDepth 20000 in
set_option maxHeartbeats 4000000 in
theorem wX11_check_67 {X : zX} {F : Nat} (hC : zCx X RX11 cX11_check 5 3) (hret : zRt X (some .int)) {k28 : Int32 → Int32 → Int32 → zMem → Option zR} (hk28 : ∀ v1 v2 v3 μ, k28 v1 v2 v3 μ = some (zOut X) → zAW X 28 [some (.ref 0), some (.int v1), some (.int v2), some (.int v3), none] [] μ) {v1 : Int32} {v2 : Int32} {v3 : Int32} {s0 : Int32} {μ : zMem} (hf : fX11_check_67 F k28 v1 v2 v3 s0 μ = some (zOut X)) : zAW X 67 [some (.ref 0), some (.int v1), some (.int v2), some (.int v3), none] [.int s0] μ := by
  unfold fX11_check_67 at hf
  refine zs_is hC dX11_check_67 (by decide) rfl ?_
  refine zs_al hC dX11_check_69 rfl ?_
  refine zs_getR 1 hC fl_RX11_10 zL0 rfl dX11_check_70 ?_
  refine zs_il hC dX11_check_73 rfl ?_
  refine zs_callV [.int v3] hC cw_X9_byteAt cl_RX11_331 zL1 rfl (by decide) rfl rfl (Nat.le_of_ble_eq_true rfl) dX11_check_74 (fun _ h => ctX9_byteAt h) (fun r2 m2 _ hf => ?_) hf
  show zAW X 77 _ (.int r2 :: _) m2
  refine zs_il hC dX11_check_77 rfl ?_
  refine zs_ic_eq hC dX11_check_79 (fun _ hf => ?_) (fun _ hf => ?_) hf
  · refine zs_iinc (nI 1) hC dX11_check_84 (by decide) rfl (by decide) rfl ?_
    refine zs_goto hC dX11_check_87 ?_
    exact zAW.weak (hk28 _ _ _ _ hf) (zLw_s (zLw_s (zLw_s (zLw_s (zLw_n zLw_0)))))
  · refine zs_il hC dX11_check_82 rfl ?_
    refine zs_is hC dX11_check_83 (by decide) rfl ?_
    refine zs_iinc (nI 1) hC dX11_check_84 (by decide) rfl (by decide) rfl ?_
    refine zs_goto hC dX11_check_87 ?_
    exact zAW.weak (hk28 _ _ _ _ hf) (zLw_s (zLw_s (zLw_s (zLw_s (zLw_n zLw_0)))))
set_option maxRecDepth 20000 in
set_option maxHeartbeats 4000000 in
theorem wX11_check_28 {X : zX} {F : Nat} (hC : zCx X RX11 cX11_check 5 3) (hret : zRt X (some .int)) : ∀ (n : Nat) (v1 : Int32) (v2 : Int32) (v3 : Int32) (μ : zMem), fX11_check_28 F n v1 v2 v3 μ = some (zOut X) → zAW X 28 [some (.ref 0), some (.int v1), some (.int v2), some (.int v3), none] [] μ := by
  intro n
  induction n with
  | zero =>
    intro v1 v2 v3 μ hf
    rw [fX11_check_28] at hf
    cases hf
  | succ n ih =>
    intro v1 v2 v3 μ hf
    rw [fX11_check_28] at hf
    refine zs_il hC dX11_check_28 rfl ?_
    refine zs_il hC dX11_check_29 rfl ?_
    refine zs_ic_ge hC dX11_check_30 (fun _ hf => ?_) (fun _ hf => ?_) hf
    · refine zs_al hC dX11_check_90 rfl ?_
      refine zs_getR 1 hC fl_RX11_10 zL0 rfl dX11_check_91 ?_
      refine zs_callV [] hC cw_X9_empties cl_RX11_120 zL1 rfl (by decide) rfl rfl (Nat.le_of_ble_eq_true rfl) dX11_check_94 (fun _ h => ctX9_empties h) (fun r2 m2 _ hf => ?_) hf
      show zAW X 97 _ _ m2
      refine zs_il hC dX11_check_97 rfl ?_
      exact zs_iret hC hret dX11_check_98 hf
    · refine zs_il hC dX11_check_33 rfl ?_
      refine zs_k hC dX11_check_34 ?_
      refine zs_ic_ne hC dX11_check_35 (fun _ hf => ?_) (fun _ hf => ?_) hf
      · refine zs_al hC dX11_check_38 rfl ?_
        refine zs_getR 3 hC fl_RX11_19 zL0 rfl dX11_check_39 ?_
        refine zs_il hC dX11_check_42 rfl ?_
        refine zs_callV [.int v3] hC cw_X8_isTold cl_RX11_156 zL3 rfl (by decide) rfl rfl (Nat.le_of_ble_eq_true rfl) dX11_check_43 (fun _ h => ctX8_isTold (by decide) h) (fun r4 m4 _ hf => ?_) hf
        show zAW X 46 _ (.int r4 :: _) m4
        refine zs_if_eq hC dX11_check_46 (fun _ hf => ?_) (fun _ hf => ?_) hf
        · refine zs_k hC dX11_check_64 ?_
          exact zAW.weak (wX11_check_67 hC hret (ih) hf) (zLw_s (zLw_s (zLw_s (zLw_s (zLw_n zLw_0)))))
        · refine zs_al hC dX11_check_49 rfl ?_
          refine zs_getR 3 hC fl_RX11_19 zL0 rfl dX11_check_50 ?_
          refine zs_getR 4 hC fl_RX11_176 zL3 rfl dX11_check_53 ?_
          refine zs_il hC dX11_check_56 rfl ?_
          refine zs_iald hC zL4 dX11_check_57 (fun _ hf => ?_) hf
          refine zs_callS [.int (m4 4 v3.toNatClampNeg)] hC cw_J6_bitCount_0f7a4 cl_RX11_180 (by decide) rfl rfl (Nat.le_of_ble_eq_true rfl) dX11_check_58 (fun _ h => ctJ6_bitCount_0f7a4 h) (fun r7 m7 _ hf => ?_) hf
          show zAW X 61 _ (.int r7 :: _) m7
          refine zs_goto hC dX11_check_61 ?_
          exact zAW.weak (wX11_check_67 hC hret (ih) hf) (zLw_s (zLw_s (zLw_s (zLw_s (zLw_n zLw_0)))))
      · refine zs_al hC dX11_check_90 rfl ?_
        refine zs_getR 1 hC fl_RX11_10 zL0 rfl dX11_check_91 ?_
        refine zs_callV [] hC cw_X9_empties cl_RX11_120 zL1 rfl (by decide) rfl rfl (Nat.le_of_ble_eq_true rfl) dX11_check_94 (fun _ h => ctX9_empties h) (fun r9 m9 _ hf => ?_) hf
        show zAW X 97 _ _ m9
        refine zs_il hC dX11_check_97 rfl ?_
        exact zs_iret hC hret dX11_check_98 hf
set_option maxRecDepth 20000 in
set_option maxHeartbeats 4000000 in
theorem wX11_check {X : zX} {F : Nat} (hC : zCx X RX11 cX11_check 5 3) (hret : zRt X (some .int)) {v1 : Int32} {μ : zMem} (hf : fX11_check F v1 μ = some (zOut X)) : zAW X 0 [some (.ref 0), some (.int v1), none, none, none] [] μ := by
  unfold fX11_check at hf
  refine zs_il hC dX11_check_0 rfl ?_
  refine zs_k hC dX11_check_1 ?_
  refine zs_k hC dX11_check_2 ?_
  refine zs_callS [.int v1, .int (nI 0), .int (nI 16)] hC cw_X11_isWithin cl_RX11_97 (by decide) rfl rfl (Nat.le_of_ble_eq_true rfl) dX11_check_4 (fun _ h => ctX11_isWithin h) (fun r1 m1 _ hf => ?_) hf
  show zAW X 7 _ (.int r1 :: _) m1
  refine zs_if_eq hC dX11_check_7 (fun _ hf => ?_) (fun _ hf => ?_) hf
  · refine zs_k hC dX11_check_21 ?_
    exact zs_iret hC hret dX11_check_23 hf
  · refine zs_al hC dX11_check_10 rfl ?_
    refine zs_getR 1 hC fl_RX11_10 zL0 rfl dX11_check_11 ?_
    refine zs_il hC dX11_check_14 rfl ?_
    refine zs_callV [.int v1] hC cw_X9_opens cl_RX11_113 zL1 rfl (by decide) rfl rfl (Nat.le_of_ble_eq_true rfl) dX11_check_15 (fun _ h => ctX9_opens h) (fun r3 m3 _ hf => ?_) hf
    show zAW X 18 _ (.int r3 :: _) m3
    refine zs_if_ne hC dX11_check_18 (fun _ hf => ?_) (fun _ hf => ?_) hf
    · refine zs_k hC dX11_check_21 ?_
      exact zs_iret hC hret dX11_check_23 hf
    · refine zs_k hC dX11_check_24 ?_
      refine zs_is hC dX11_check_25 (by decide) rfl ?_
      refine zs_k hC dX11_check_26 ?_
      refine zs_is hC dX11_check_27 (by decide) rfl ?_
      exact zAW.weak (wX11_check_28 hC hret F _ _ _ _ hf) (zLw_s (zLw_s (zLw_s (zLw_s (zLw_n zLw_0)))))
set_option maxRecDepth 20000 in
set_option maxHeartbeats 4000000 in
theorem ctX11_check {E : zEV} {F : Nat} {v1 : Int32} {μ : zMem} {out : zR} (hf : fX11_check F v1 μ = some out) : zCt E yX11_check cX11_check 5 (some .int) 3 [.ref 0, .int v1] μ out :=
  zCt.of [some (.ref 0), some (.int v1), none, none, none] (by decide +kernel) (Nat.le_of_ble_eq_true rfl) (zLw_s (zLw_s (zLw_e (zLw_e (zLw_e zLw_0))))) rfl (fun X hE ho hr hC => by
    subst hE; subst ho
    exact wX11_check hC hr hf)
/-! X11_count -/
def fX11_count (F : Nat) (v1 : Int32) (μ : zMem) : Option zR :=
  (if v1 = (nI 0) then some ((μ 3 6), μ) else if v1 = (nI 1) then some ((μ 3 4), μ) else if v1 = (nI 2) then some ((μ 3 5), μ) else if v1 = (nI 3) then zBd (fX8_issues F 3 μ) (fun r8 m8 => some (r8, m8)) else if v1 = (nI 4) then zGb (zIsCp ((μ 0 8).toNatClampNeg)) (some ((μ ((μ 0 8).toNatClampNeg) 2), μ)) else if v1 = (nI 5) then zGb (zIsLw ((μ 18 0).toNatClampNeg)) (some ((μ ((μ 18 0).toNatClampNeg) 7), μ)) else if v1 = (nI 6) then some ((μ 1 1), μ) else if v1 = (nI 7) then some ((μ 3 7), μ) else if v1 = (nI 8) then zBd (fX8_allBreath F 3 μ) (fun r19 m19 => some (r19, m19)) else some ((-1 : Int32), μ))
set_option maxRecDepth 20000 in
set_option maxHeartbeats 4000000 in
theorem wX11_count {X : zX} {F : Nat} (hC : zCx X RX11 cX11_count 2 2) (hret : zRt X (some .int)) {v1 : Int32} {μ : zMem} (hf : fX11_count F v1 μ = some (zOut X)) : zAW X 0 [some (.ref 0), some (.int v1)] [] μ := by
  unfold fX11_count at hf
  refine zs_il hC dX11_count_0 rfl ?_
  refine zs_case (nI 0) (fun hx hf => ?_) (fun e1_0 hf => ?_) hf
  · refine zs_tabI (off := 51) (tgt := 52) hC hx dX11_count_1 (by decide) (by decide) rfl (by decide) ?_
    refine zs_al hC dX11_count_52 rfl ?_
    refine zs_getR 3 hC fl_RX11_19 zL0 rfl dX11_count_53 ?_
    refine zs_getI hC fl_RX11_329 zL3 rfl dX11_count_56 ?_
    exact zs_iret hC hret dX11_count_59 hf
  refine zs_case (nI 1) (fun hx hf => ?_) (fun e1_1 hf => ?_) hf
  · refine zs_tabI (off := 59) (tgt := 60) hC hx dX11_count_1 (by decide) (by decide) rfl (by decide) ?_
    refine zs_al hC dX11_count_60 rfl ?_
    refine zs_getR 3 hC fl_RX11_19 zL0 rfl dX11_count_61 ?_
    refine zs_getI hC fl_RX11_135 zL3 rfl dX11_count_64 ?_
    exact zs_iret hC hret dX11_count_67 hf
  refine zs_case (nI 2) (fun hx hf => ?_) (fun e1_2 hf => ?_) hf
  · refine zs_tabI (off := 67) (tgt := 68) hC hx dX11_count_1 (by decide) (by decide) rfl (by decide) ?_
    refine zs_al hC dX11_count_68 rfl ?_
    refine zs_getR 3 hC fl_RX11_19 zL0 rfl dX11_count_69 ?_
    refine zs_getI hC fl_RX11_334 zL3 rfl dX11_count_72 ?_
    exact zs_iret hC hret dX11_count_75 hf
  refine zs_case (nI 3) (fun hx hf => ?_) (fun e1_3 hf => ?_) hf
  · refine zs_tabI (off := 75) (tgt := 76) hC hx dX11_count_1 (by decide) (by decide) rfl (by decide) ?_
    refine zs_al hC dX11_count_76 rfl ?_
    refine zs_getR 3 hC fl_RX11_19 zL0 rfl dX11_count_77 ?_
    refine zs_callV [] hC cw_X8_issues cl_RX11_214 zL3 rfl (by decide) rfl rfl (Nat.le_of_ble_eq_true rfl) dX11_count_80 (fun _ h => ctX8_issues (by decide) h) (fun r8 m8 _ hf => ?_) hf
    show zAW X 83 _ (.int r8 :: _) m8
    exact zs_iret hC hret dX11_count_83 hf
  refine zs_case (nI 4) (fun hx hf => ?_) (fun e1_4 hf => ?_) hf
  · refine zs_tabI (off := 83) (tgt := 84) hC hx dX11_count_1 (by decide) (by decide) rfl (by decide) ?_
    refine zs_al hC dX11_count_84 rfl ?_
    refine zs_getD hC fl_RX11_57 zL0 rfl dX11_count_85 ?_
    refine zs_gb (fun hd9 hf => ?_) hf
    refine zs_getI hC fl_RX11_149 (zCp0 hd9) rfl dX11_count_88 ?_
    exact zs_iret hC hret dX11_count_91 hf
  refine zs_case (nI 5) (fun hx hf => ?_) (fun e1_5 hf => ?_) hf
  · refine zs_tabI (off := 91) (tgt := 92) hC hx dX11_count_1 (by decide) (by decide) rfl (by decide) ?_
    refine zs_al hC dX11_count_92 rfl ?_
    refine zs_getR 18 hC fl_RX11_36 zL0 rfl dX11_count_93 ?_
    refine zs_getD hC fl_RX11_123 zL18 rfl dX11_count_96 ?_
    refine zs_gb (fun hd12 hf => ?_) hf
    refine zs_getI hC fl_RX11_127 (zLw0 hd12) rfl dX11_count_99 ?_
    exact zs_iret hC hret dX11_count_102 hf
  refine zs_case (nI 6) (fun hx hf => ?_) (fun e1_6 hf => ?_) hf
  · refine zs_tabI (off := 102) (tgt := 103) hC hx dX11_count_1 (by decide) (by decide) rfl (by decide) ?_
    refine zs_al hC dX11_count_103 rfl ?_
    refine zs_getR 1 hC fl_RX11_10 zL0 rfl dX11_count_104 ?_
    refine zs_getI hC fl_RX11_105 zL1 rfl dX11_count_107 ?_
    exact zs_iret hC hret dX11_count_110 hf
  refine zs_case (nI 7) (fun hx hf => ?_) (fun e1_7 hf => ?_) hf
  · refine zs_tabI (off := 110) (tgt := 111) hC hx dX11_count_1 (by decide) (by decide) rfl (by decide) ?_
    refine zs_al hC dX11_count_111 rfl ?_
    refine zs_getR 3 hC fl_RX11_19 zL0 rfl dX11_count_112 ?_
    refine zs_getI hC fl_RX11_326 zL3 rfl dX11_count_115 ?_
    exact zs_iret hC hret dX11_count_118 hf
  refine zs_case (nI 8) (fun hx hf => ?_) (fun e1_8 hf => ?_) hf
  · refine zs_tabI (off := 118) (tgt := 119) hC hx dX11_count_1 (by decide) (by decide) rfl (by decide) ?_
    refine zs_al hC dX11_count_119 rfl ?_
    refine zs_getR 3 hC fl_RX11_19 zL0 rfl dX11_count_120 ?_
    refine zs_callV [] hC cw_X8_allBreath cl_RX11_337 zL3 rfl (by decide) rfl rfl (Nat.le_of_ble_eq_true rfl) dX11_count_123 (fun _ h => ctX8_allBreath (by decide) h) (fun r19 m19 _ hf => ?_) hf
    show zAW X 126 _ (.int r19 :: _) m19
    exact zs_iret hC hret dX11_count_126 hf
  have e1_0 := lv_neT (a := 0) e1_0 (by decide)
  have e1_1 := lv_neT (a := 1) e1_1 (by decide)
  have e1_2 := lv_neT (a := 2) e1_2 (by decide)
  have e1_3 := lv_neT (a := 3) e1_3 (by decide)
  have e1_4 := lv_neT (a := 4) e1_4 (by decide)
  have e1_5 := lv_neT (a := 5) e1_5 (by decide)
  have e1_6 := lv_neT (a := 6) e1_6 (by decide)
  have e1_7 := lv_neT (a := 7) e1_7 (by decide)
  have e1_8 := lv_neT (a := 8) e1_8 (by decide)
  refine zs_tabO (tgt := 127) hC dX11_count_1 (by omega) (by decide) ?_
  refine zs_k hC dX11_count_127 ?_
  exact zs_iret hC hret dX11_count_128 hf
set_option maxRecDepth 20000 in
set_option maxHeartbeats 4000000 in
theorem ctX11_count {E : zEV} {F : Nat} {v1 : Int32} {μ : zMem} {out : zR} (hf : fX11_count F v1 μ = some out) : zCt E yX11_count cX11_count 2 (some .int) 2 [.ref 0, .int v1] μ out :=
  zCt.of [some (.ref 0), some (.int v1)] (by decide +kernel) (Nat.le_of_ble_eq_true rfl) (zLw_s (zLw_s zLw_0)) rfl (fun X hE ho hr hC => by
    subst hE; subst ho
    exact wX11_count hC hr hf)
/-! X12_in -/
def fX12_in (F : Nat) (v0 : Int32) (v1 : Int32) (v2 : Int32) (μ : zMem) : Option zR :=
  if v0 < v1 then some ((nI 0), μ) else if v2 < v0 then some ((nI 0), μ) else some ((nI 1), μ)
set_option maxRecDepth 20000 in
set_option maxHeartbeats 4000000 in
theorem wX12_in {X : zX} {F : Nat} (hC : zCx X RX12 cX12_in 3 0) (hret : zRt X (some .boolean)) {v0 : Int32} {v1 : Int32} {v2 : Int32} {μ : zMem} (hf : fX12_in F v0 v1 v2 μ = some (zOut X)) : zAW X 0 [some (.int v0), some (.int v1), some (.int v2)] [] μ := by
  unfold fX12_in at hf
  refine zs_il hC dX12_in_0 rfl ?_
  refine zs_il hC dX12_in_1 rfl ?_
  refine zs_ic_lt hC dX12_in_2 (fun _ hf => ?_) (fun _ hf => ?_) hf
  · refine zs_k hC dX12_in_14 ?_
    exact zs_zretK hC hret dX12_in_15 (by decide) hf
  · refine zs_il hC dX12_in_5 rfl ?_
    refine zs_il hC dX12_in_6 rfl ?_
    refine zs_ic_gt hC dX12_in_7 (fun _ hf => ?_) (fun _ hf => ?_) hf
    · refine zs_k hC dX12_in_14 ?_
      exact zs_zretK hC hret dX12_in_15 (by decide) hf
    · refine zs_k hC dX12_in_10 ?_
      refine zs_goto hC dX12_in_11 ?_
      exact zs_zretK hC hret dX12_in_15 (by decide) hf
set_option maxRecDepth 20000 in
set_option maxHeartbeats 4000000 in
theorem ctX12_in {E : zEV} {F : Nat} {v0 : Int32} {v1 : Int32} {v2 : Int32} {μ : zMem} {out : zR} (hf : fX12_in F v0 v1 v2 μ = some out) : zCt E yX12_in cX12_in 3 (some .boolean) 0 [.int v0, .int v1, .int v2] μ out :=
  zCt.of [some (.int v0), some (.int v1), some (.int v2)] (by decide +kernel) (Nat.le_of_ble_eq_true rfl) (zLw_s (zLw_s (zLw_s zLw_0))) rfl (fun X hE ho hr hC => by
    subst hE; subst ho
    exact wX12_in hC hr hf)
/-! X12_min -/
def fX12_min (F : Nat) (v0 : Int32) (v1 : Int32) (μ : zMem) : Option zR :=
  if v1 ≤ v0 then some (v1, μ) else some (v0, μ)
set_option maxRecDepth 20000 in
set_option maxHeartbeats 4000000 in
theorem wX12_min {X : zX} {F : Nat} (hC : zCx X RX12 cX12_min 2 0) (hret : zRt X (some .int)) {v0 : Int32} {v1 : Int32} {μ : zMem} (hf : fX12_min F v0 v1 μ = some (zOut X)) : zAW X 0 [some (.int v0), some (.int v1)] [] μ := by
  unfold fX12_min at hf
  refine zs_il hC dX12_min_0 rfl ?_
  refine zs_il hC dX12_min_1 rfl ?_
  refine zs_ic_ge hC dX12_min_2 (fun _ hf => ?_) (fun _ hf => ?_) hf
  · refine zs_il hC dX12_min_9 rfl ?_
    exact zs_iret hC hret dX12_min_10 hf
  · refine zs_il hC dX12_min_5 rfl ?_
    refine zs_goto hC dX12_min_6 ?_
    exact zs_iret hC hret dX12_min_10 hf
set_option maxRecDepth 20000 in
set_option maxHeartbeats 4000000 in
theorem ctX12_min {E : zEV} {F : Nat} {v0 : Int32} {v1 : Int32} {μ : zMem} {out : zR} (hf : fX12_min F v0 v1 μ = some out) : zCt E yX12_min cX12_min 2 (some .int) 0 [.int v0, .int v1] μ out :=
  zCt.of [some (.int v0), some (.int v1)] (by decide +kernel) (Nat.le_of_ble_eq_true rfl) (zLw_s (zLw_s zLw_0)) rfl (fun X hE ho hr hC => by
    subst hE; subst ho
    exact wX12_min hC hr hf)
/-! X12_max -/
def fX12_max (F : Nat) (v0 : Int32) (v1 : Int32) (μ : zMem) : Option zR :=
  if v0 ≤ v1 then some (v1, μ) else some (v0, μ)
set_option maxRecDepth 20000 in
set_option maxHeartbeats 4000000 in
theorem wX12_max {X : zX} {F : Nat} (hC : zCx X RX12 cX12_max 2 0) (hret : zRt X (some .int)) {v0 : Int32} {v1 : Int32} {μ : zMem} (hf : fX12_max F v0 v1 μ = some (zOut X)) : zAW X 0 [some (.int v0), some (.int v1)] [] μ := by
  unfold fX12_max at hf
  refine zs_il hC dX12_max_0 rfl ?_
  refine zs_il hC dX12_max_1 rfl ?_
  refine zs_ic_le hC dX12_max_2 (fun _ hf => ?_) (fun _ hf => ?_) hf
  · refine zs_il hC dX12_max_9 rfl ?_
    exact zs_iret hC hret dX12_max_10 hf
  · refine zs_il hC dX12_max_5 rfl ?_
    refine zs_goto hC dX12_max_6 ?_
    exact zs_iret hC hret dX12_max_10 hf
set_option maxRecDepth 20000 in
set_option maxHeartbeats 4000000 in
theorem ctX12_max {E : zEV} {F : Nat} {v0 : Int32} {v1 : Int32} {μ : zMem} {out : zR} (hf : fX12_max F v0 v1 μ = some out) : zCt E yX12_max cX12_max 2 (some .int) 0 [.int v0, .int v1] μ out :=
  zCt.of [some (.int v0), some (.int v1)] (by decide +kernel) (Nat.le_of_ble_eq_true rfl) (zLw_s (zLw_s zLw_0)) rfl (fun X hE ho hr hC => by
    subst hE; subst ho
    exact wX12_max hC hr hf)
/-! X12_size -/
def fX12_size (F : Nat) (v0 : Int32) (μ : zMem) : Option zR :=
  if 0 ≤ v0 then some (v0, μ) else some ((-v0), μ)
set_option maxRecDepth 20000 in
set_option maxHeartbeats 4000000 in
theorem wX12_size {X : zX} {F : Nat} (hC : zCx X RX12 cX12_size 1 0) (hret : zRt X (some .int)) {v0 : Int32} {μ : zMem} (hf : fX12_size F v0 μ = some (zOut X)) : zAW X 0 [some (.int v0)] [] μ := by
  unfold fX12_size at hf
  refine zs_il hC dX12_size_0 rfl ?_
  refine zs_if_ge hC dX12_size_1 (fun _ hf => ?_) (fun _ hf => ?_) hf
  · refine zs_il hC dX12_size_9 rfl ?_
    exact zs_iret hC hret dX12_size_10 hf
  · refine zs_il hC dX12_size_4 rfl ?_
    refine zs_ineg hC dX12_size_5 ?_
    refine zs_goto hC dX12_size_6 ?_
    exact zs_iret hC hret dX12_size_10 hf
set_option maxRecDepth 20000 in
set_option maxHeartbeats 4000000 in
theorem ctX12_size {E : zEV} {F : Nat} {v0 : Int32} {μ : zMem} {out : zR} (hf : fX12_size F v0 μ = some out) : zCt E yX12_size cX12_size 1 (some .int) 0 [.int v0] μ out :=
  zCt.of [some (.int v0)] (by decide +kernel) (Nat.le_of_ble_eq_true rfl) (zLw_s zLw_0) rfl (fun X hE ho hr hC => by
    subst hE; subst ho
    exact wX12_size hC hr hf)
/-! X12_has -/
def fX12_has (F : Nat) (v0 : Int32) (v1 : Int32) (μ : zMem) : Option zR :=
  if ((v0 >>> (v1 &&& 31)) &&& (nI 1)) = (nI 1) then some ((nI 1), μ) else some ((nI 0), μ)
set_option maxRecDepth 20000 in
set_option maxHeartbeats 4000000 in
theorem wX12_has {X : zX} {F : Nat} (hC : zCx X RX12 cX12_has 2 0) (hret : zRt X (some .boolean)) {v0 : Int32} {v1 : Int32} {μ : zMem} (hf : fX12_has F v0 v1 μ = some (zOut X)) : zAW X 0 [some (.int v0), some (.int v1)] [] μ := by
  unfold fX12_has at hf
  refine zs_il hC dX12_has_0 rfl ?_
  refine zs_il hC dX12_has_1 rfl ?_
  refine zs_ishr hC dX12_has_2 ?_
  refine zs_k hC dX12_has_3 ?_
  refine zs_iand hC dX12_has_4 ?_
  refine zs_k hC dX12_has_5 ?_
  refine zs_ic_ne hC dX12_has_6 (fun _ hf => ?_) (fun _ hf => ?_) hf
  · refine zs_k hC dX12_has_9 ?_
    refine zs_goto hC dX12_has_10 ?_
    exact zs_zretK hC hret dX12_has_14 (by decide) hf
  · refine zs_k hC dX12_has_13 ?_
    exact zs_zretK hC hret dX12_has_14 (by decide) hf
set_option maxRecDepth 20000 in
set_option maxHeartbeats 4000000 in
theorem ctX12_has {E : zEV} {F : Nat} {v0 : Int32} {v1 : Int32} {μ : zMem} {out : zR} (hf : fX12_has F v0 v1 μ = some out) : zCt E yX12_has cX12_has 2 (some .boolean) 0 [.int v0, .int v1] μ out :=
  zCt.of [some (.int v0), some (.int v1)] (by decide +kernel) (Nat.le_of_ble_eq_true rfl) (zLw_s (zLw_s zLw_0)) rfl (fun X hE ho hr hC => by
    subst hE; subst ho
    exact wX12_has hC hr hf)
/-! X12_bits -/
def fX12_bits_4 (F : Nat) : Nat → Int32 → Int32 → Int32 → zMem → Option zR
  | 0, _, _, _, _ => none
  | n + 1, v0, v1, v2, μ => if (nI 16) ≤ v2 then some (v1, μ) else fX12_bits_4 F n v0 (v1 + ((v0 >>> (v2 &&& 31)) &&& (nI 1))) (v2 + (nI 1)) μ
def fX12_bits (F : Nat) (v0 : Int32) (μ : zMem) : Option zR :=
  fX12_bits_4 F F v0 (nI 0) (nI 0) μ
set_option maxRecDepth 20000 in
set_option maxHeartbeats 4000000 in
theorem wX12_bits_4 {X : zX} {F : Nat} (hC : zCx X RX12 cX12_bits 3 0) (hret : zRt X (some .int)) : ∀ (n : Nat) (v0 : Int32) (v1 : Int32) (v2 : Int32) (μ : zMem), fX12_bits_4 F n v0 v1 v2 μ = some (zOut X) → zAW X 4 [some (.int v0), some (.int v1), some (.int v2)] [] μ := by
  intro n
  induction n with
  | zero =>
    intro v0 v1 v2 μ hf
    rw [fX12_bits_4] at hf
    cases hf
  | succ n ih =>
    intro v0 v1 v2 μ hf
    rw [fX12_bits_4] at hf
    refine zs_il hC dX12_bits_4 rfl ?_
    refine zs_k hC dX12_bits_5 ?_
    refine zs_ic_ge hC dX12_bits_7 (fun _ hf => ?_) (fun _ hf => ?_) hf
    · refine zs_il hC dX12_bits_24 rfl ?_
      exact zs_iret hC hret dX12_bits_25 hf
    · refine zs_il hC dX12_bits_10 rfl ?_
      refine zs_il hC dX12_bits_11 rfl ?_
      refine zs_il hC dX12_bits_12 rfl ?_
      refine zs_ishr hC dX12_bits_13 ?_
      refine zs_k hC dX12_bits_14 ?_
      refine zs_iand hC dX12_bits_15 ?_
      refine zs_iadd hC dX12_bits_16 ?_
      refine zs_is hC dX12_bits_17 (by decide) rfl ?_
      refine zs_iinc (nI 1) hC dX12_bits_18 (by decide) rfl (by decide) rfl ?_
      refine zs_goto hC dX12_bits_21 ?_
      exact zAW.weak (ih _ _ _ _ hf) (zLw_s (zLw_s (zLw_s zLw_0)))
set_option maxRecDepth 20000 in
set_option maxHeartbeats 4000000 in
theorem wX12_bits {X : zX} {F : Nat} (hC : zCx X RX12 cX12_bits 3 0) (hret : zRt X (some .int)) {v0 : Int32} {μ : zMem} (hf : fX12_bits F v0 μ = some (zOut X)) : zAW X 0 [some (.int v0), none, none] [] μ := by
  unfold fX12_bits at hf
  refine zs_k hC dX12_bits_0 ?_
  refine zs_is hC dX12_bits_1 (by decide) rfl ?_
  refine zs_k hC dX12_bits_2 ?_
  refine zs_is hC dX12_bits_3 (by decide) rfl ?_
  exact zAW.weak (wX12_bits_4 hC hret F _ _ _ _ hf) (zLw_s (zLw_s (zLw_s zLw_0)))
set_option maxRecDepth 20000 in
set_option maxHeartbeats 4000000 in
theorem ctX12_bits {E : zEV} {F : Nat} {v0 : Int32} {μ : zMem} {out : zR} (hf : fX12_bits F v0 μ = some out) : zCt E yX12_bits cX12_bits 3 (some .int) 0 [.int v0] μ out :=
  zCt.of [some (.int v0), none, none] (by decide +kernel) (Nat.le_of_ble_eq_true rfl) (zLw_s (zLw_e (zLw_e zLw_0))) rfl (fun X hE ho hr hC => by
    subst hE; subst ho
    exact wX12_bits hC hr hf)
/-! X12_copies -/
def fX12_copies_2 (F : Nat) (h0 : Nat) (h1 : Nat) : Nat → Int32 → zMem → Option zR
  | 0, _, _ => none
  | n + 1, v2, μ => if (nI 1047) ≤ v2 then some ((nI 0), μ) else zG v2 1047 (zG v2 1047 (zLt (zUp μ h1 v2.toNatClampNeg (μ h0 v2.toNatClampNeg)) (fun m1 => fX12_copies_2 F h0 h1 n (v2 + (nI 1)) m1)))
def fX12_copies (F : Nat) (h0 : Nat) (h1 : Nat) (μ : zMem) : Option zR :=
  fX12_copies_2 F h0 h1 F (nI 0) μ
set_option maxRecDepth 20000 in
set_option maxHeartbeats 4000000 in
theorem wX12_copies_2 {X : zX} {F h0 h1 : Nat} (hC : zCx X RX12 cX12_copies 3 0) (hh0 : zIsBg h0 = true) (hh1 : zIsBg h1 = true) (hret : zRt X none) : ∀ (n : Nat) (v2 : Int32) (μ : zMem), fX12_copies_2 F h0 h1 n v2 μ = some (zOut X) → zAW X 2 [some (.ref h0), some (.ref h1), some (.int v2)] [] μ := by
  intro n
  induction n with
  | zero =>
    intro v2 μ hf
    rw [fX12_copies_2] at hf
    cases hf
  | succ n ih =>
    intro v2 μ hf
    rw [fX12_copies_2] at hf
    refine zs_il hC dX12_copies_2 rfl ?_
    refine zs_k hC dX12_copies_3 ?_
    refine zs_ic_ge hC dX12_copies_6 (fun _ hf => ?_) (fun _ hf => ?_) hf
    · exact zs_vret hC hret dX12_copies_21 hf
    · refine zs_al hC dX12_copies_9 rfl ?_
      refine zs_il hC dX12_copies_10 rfl ?_
      refine zs_al hC dX12_copies_11 rfl ?_
      refine zs_il hC dX12_copies_12 rfl ?_
      refine zs_iald hC (zBg hh0) dX12_copies_13 (fun _ hf => ?_) hf
      refine zs_iast hC (zBg hh1) dX12_copies_14 (fun _ hf => ?_) hf
      refine zs_let (fun m1 _ hf => ?_) hf
      refine zs_iinc (nI 1) hC dX12_copies_15 (by decide) rfl (by decide) rfl ?_
      refine zs_goto hC dX12_copies_18 ?_
      exact zAW.weak (ih _ _ hf) (zLw_s (zLw_s (zLw_s zLw_0)))
set_option maxRecDepth 20000 in
set_option maxHeartbeats 4000000 in
theorem wX12_copies {X : zX} {F h0 h1 : Nat} (hC : zCx X RX12 cX12_copies 3 0) (hh0 : zIsBg h0 = true) (hh1 : zIsBg h1 = true) (hret : zRt X none) {μ : zMem} (hf : fX12_copies F h0 h1 μ = some (zOut X)) : zAW X 0 [some (.ref h0), some (.ref h1), none] [] μ := by
  unfold fX12_copies at hf
  refine zs_k hC dX12_copies_0 ?_
  refine zs_is hC dX12_copies_1 (by decide) rfl ?_
  exact zAW.weak (wX12_copies_2 hC hh0 hh1 hret F _ _ hf) (zLw_s (zLw_s (zLw_s zLw_0)))
set_option maxRecDepth 20000 in
set_option maxHeartbeats 4000000 in
theorem ctX12_copies {E : zEV} {F : Nat} {h0 : Nat} {h1 : Nat} {μ : zMem} {out : zR} (hh0 : zIsBg h0 = true) (hh1 : zIsBg h1 = true) (hf : fX12_copies F h0 h1 μ = some out) : zCt E yX12_copies cX12_copies 3 none 0 [.ref h0, .ref h1] μ out :=
  zCt.of [some (.ref h0), some (.ref h1), none] (by decide +kernel) (Nat.le_of_ble_eq_true rfl) (zLw_s (zLw_s (zLw_e zLw_0))) rfl (fun X hE ho hr hC => by
    subst hE; subst ho
    exact wX12_copies hC hh0 hh1 hr hf)
/-! X12_isTold -/
def fX12_isTold (F : Nat) (v1 : Int32) (μ : zMem) : Option zR :=
  zBd (fX12_in F v1 (nI 0) (nI 15) μ) (fun r1 m1 => if r1 = 0 then some ((nI 0), m1) else zG ((nI 0) + v1) 1047 (if (m1 61 ((nI 0) + v1).toNatClampNeg) = (nI 1) then some ((nI 1), m1) else some ((nI 0), m1)))
set_option maxRecDepth 20000 in
set_option maxHeartbeats 4000000 in
theorem wX12_isTold {X : zX} {F : Nat} (hC : zCx X RX12 cX12_isTold 2 1) (hret : zRt X (some .boolean)) {v1 : Int32} {μ : zMem} (hf : fX12_isTold F v1 μ = some (zOut X)) : zAW X 0 [some (.ref 60), some (.int v1)] [] μ := by
  unfold fX12_isTold at hf
  refine zs_il hC dX12_isTold_0 rfl ?_
  refine zs_k hC dX12_isTold_1 ?_
  refine zs_k hC dX12_isTold_2 ?_
  refine zs_callS [.int v1, .int (nI 0), .int (nI 15)] hC cw_X12_in cl_RX12_96 (by decide) rfl rfl (Nat.le_of_ble_eq_true rfl) dX12_isTold_4 (fun _ h => ctX12_in h) (fun r1 m1 _ hf => ?_) hf
  show zAW X 7 _ (.int r1 :: _) m1
  refine zs_if_eq hC dX12_isTold_7 (fun _ hf => ?_) (fun _ hf => ?_) hf
  · refine zs_k hC dX12_isTold_26 ?_
    exact zs_zretK hC hret dX12_isTold_27 (by decide) hf
  · refine zs_al hC dX12_isTold_10 rfl ?_
    refine zs_getR 61 hC fl_RX12_7 zL60 rfl dX12_isTold_11 ?_
    refine zs_k hC dX12_isTold_14 ?_
    refine zs_il hC dX12_isTold_15 rfl ?_
    refine zs_iadd hC dX12_isTold_16 ?_
    refine zs_iald hC zL61 dX12_isTold_17 (fun _ hf => ?_) hf
    refine zs_k hC dX12_isTold_18 ?_
    refine zs_ic_ne hC dX12_isTold_19 (fun _ hf => ?_) (fun _ hf => ?_) hf
    · refine zs_k hC dX12_isTold_22 ?_
      refine zs_goto hC dX12_isTold_23 ?_
      exact zs_zretK hC hret dX12_isTold_27 (by decide) hf
    · refine zs_k hC dX12_isTold_26 ?_
      exact zs_zretK hC hret dX12_isTold_27 (by decide) hf
set_option maxRecDepth 20000 in
set_option maxHeartbeats 4000000 in
theorem ctX12_isTold {E : zEV} {F : Nat} {v1 : Int32} {μ : zMem} {out : zR} (hf : fX12_isTold F v1 μ = some out) : zCt E yX12_isTold cX12_isTold 2 (some .boolean) 1 [.ref 60, .int v1] μ out :=
  zCt.of [some (.ref 60), some (.int v1)] (by decide +kernel) (Nat.le_of_ble_eq_true rfl) (zLw_s (zLw_s zLw_0)) rfl (fun X hE ho hr hC => by
    subst hE; subst ho
    exact wX12_isTold hC hr hf)
/-! X12_toldSet -/
def fX12_toldSet_4 (F : Nat) : Nat → Int32 → Int32 → zMem → Option zR
  | 0, _, _, _ => none
  | n + 1, v1, v2, μ => if (nI 16) ≤ v2 then some (v1, μ) else zBd (fX12_isTold F v2 μ) (fun r1 m1 => if r1 = 0 then fX12_toldSet_4 F n v1 (v2 + (nI 1)) m1 else fX12_toldSet_4 F n (v1 ||| ((nI 1) <<< (v2 &&& 31))) (v2 + (nI 1)) m1)
def fX12_toldSet (F : Nat) (μ : zMem) : Option zR :=
  fX12_toldSet_4 F F (nI 0) (nI 0) μ
set_option maxRecDepth 20000 in
set_option maxHeartbeats 4000000 in
theorem wX12_toldSet_4 {X : zX} {F : Nat} (hC : zCx X RX12 cX12_toldSet 3 2) (hret : zRt X (some .int)) : ∀ (n : Nat) (v1 : Int32) (v2 : Int32) (μ : zMem), fX12_toldSet_4 F n v1 v2 μ = some (zOut X) → zAW X 4 [some (.ref 60), some (.int v1), some (.int v2)] [] μ := by
  intro n
  induction n with
  | zero =>
    intro v1 v2 μ hf
    rw [fX12_toldSet_4] at hf
    cases hf
  | succ n ih =>
    intro v1 v2 μ hf
    rw [fX12_toldSet_4] at hf
    refine zs_il hC dX12_toldSet_4 rfl ?_
    refine zs_k hC dX12_toldSet_5 ?_
    refine zs_ic_ge hC dX12_toldSet_7 (fun _ hf => ?_) (fun _ hf => ?_) hf
    · refine zs_il hC dX12_toldSet_30 rfl ?_
      exact zs_iret hC hret dX12_toldSet_31 hf
    · refine zs_al hC dX12_toldSet_10 rfl ?_
      refine zs_il hC dX12_toldSet_11 rfl ?_
      refine zs_callV [.int v2] hC cw_X12_isTold cl_RX12_100 zL60 rfl (by decide) rfl rfl (Nat.le_of_ble_eq_true rfl) dX12_toldSet_12 (fun _ h => ctX12_isTold h) (fun r1 m1 _ hf => ?_) hf
      show zAW X 15 _ (.int r1 :: _) m1
      refine zs_if_eq hC dX12_toldSet_15 (fun _ hf => ?_) (fun _ hf => ?_) hf
      · refine zs_iinc (nI 1) hC dX12_toldSet_24 (by decide) rfl (by decide) rfl ?_
        refine zs_goto hC dX12_toldSet_27 ?_
        exact zAW.weak (ih _ _ _ hf) (zLw_s (zLw_s (zLw_s zLw_0)))
      · refine zs_il hC dX12_toldSet_18 rfl ?_
        refine zs_k hC dX12_toldSet_19 ?_
        refine zs_il hC dX12_toldSet_20 rfl ?_
        refine zs_ishl hC dX12_toldSet_21 ?_
        refine zs_ior hC dX12_toldSet_22 ?_
        refine zs_is hC dX12_toldSet_23 (by decide) rfl ?_
        refine zs_iinc (nI 1) hC dX12_toldSet_24 (by decide) rfl (by decide) rfl ?_
        refine zs_goto hC dX12_toldSet_27 ?_
        exact zAW.weak (ih _ _ _ hf) (zLw_s (zLw_s (zLw_s zLw_0)))
set_option maxRecDepth 20000 in
set_option maxHeartbeats 4000000 in
theorem wX12_toldSet {X : zX} {F : Nat} (hC : zCx X RX12 cX12_toldSet 3 2) (hret : zRt X (some .int)) {μ : zMem} (hf : fX12_toldSet F μ = some (zOut X)) : zAW X 0 [some (.ref 60), none, none] [] μ := by
  unfold fX12_toldSet at hf
  refine zs_k hC dX12_toldSet_0 ?_
  refine zs_is hC dX12_toldSet_1 (by decide) rfl ?_
  refine zs_k hC dX12_toldSet_2 ?_
  refine zs_is hC dX12_toldSet_3 (by decide) rfl ?_
  exact zAW.weak (wX12_toldSet_4 hC hret F _ _ _ hf) (zLw_s (zLw_s (zLw_s zLw_0)))
set_option maxRecDepth 20000 in
set_option maxHeartbeats 4000000 in
theorem ctX12_toldSet {E : zEV} {F : Nat} {μ : zMem} {out : zR} (hf : fX12_toldSet F μ = some out) : zCt E yX12_toldSet cX12_toldSet 3 (some .int) 2 [.ref 60] μ out :=
  zCt.of [some (.ref 60), none, none] (by decide +kernel) (Nat.le_of_ble_eq_true rfl) (zLw_s (zLw_e (zLw_e zLw_0))) rfl (fun X hE ho hr hC => by
    subst hE; subst ho
    exact wX12_toldSet hC hr hf)
/-! X12_person -/
def fX12_person_58 (F : Nat) (v1 : Int32) (s0 : Int32) (s1 : Int32) (μ : zMem) : Option zR :=
  zG s1 1047 (zLt (zUp μ 61 s1.toNatClampNeg s0) (fun m1 => zG ((nI 48) + v1) 1047 (zLt (zUp m1 61 ((nI 48) + v1).toNatClampNeg (nI 0)) (fun m3 => some ((nI 1), m3)))))
def fX12_person (F : Nat) (v1 : Int32) (v2 : Int32) (v3 : Int32) (μ : zMem) : Option zR :=
  zBd (fX12_in F v1 (nI 0) (nI 15) μ) (fun r1 m1 => if r1 = 0 then some ((nI 0), m1) else zBd (fX12_in F v2 (nI 0) (nI 65535) m1) (fun r2 m2 => if r2 = 0 then some ((nI 0), m2) else zG ((nI 0) + v1) 1047 (zLt (zUp m2 61 ((nI 0) + v1).toNatClampNeg (nI 1)) (fun m4 => zG ((nI 16) + v1) 1047 (zLt (zUp m4 61 ((nI 16) + v1).toNatClampNeg v2) (fun m6 => if v3 = 0 then fX12_person_58 F v1 (nI 0) ((nI 32) + v1) m6 else fX12_person_58 F v1 (nI 1) ((nI 32) + v1) m6))))))
set_option maxRecDepth 20000 in
set_option maxHeartbeats 4000000 in
theorem wX12_person_58 {X : zX} {F : Nat} (hC : zCx X RX12 cX12_person 4 1) (hret : zRt X (some .boolean)) {v1 : Int32} {s0 : Int32} {s1 : Int32} {μ : zMem} (hf : fX12_person_58 F v1 s0 s1 μ = some (zOut X)) : zAW X 58 [some (.ref 60), some (.int v1), none, none] [.int s0, .int s1, .ref 61] μ := by
  unfold fX12_person_58 at hf
  refine zs_iast hC zL61 dX12_person_58 (fun _ hf => ?_) hf
  refine zs_let (fun m1 _ hf => ?_) hf
  refine zs_al hC dX12_person_59 rfl ?_
  refine zs_getR 61 hC fl_RX12_7 zL60 rfl dX12_person_60 ?_
  refine zs_k hC dX12_person_63 ?_
  refine zs_il hC dX12_person_65 rfl ?_
  refine zs_iadd hC dX12_person_66 ?_
  refine zs_k hC dX12_person_67 ?_
  refine zs_iast hC zL61 dX12_person_68 (fun _ hf => ?_) hf
  refine zs_let (fun m3 _ hf => ?_) hf
  refine zs_k hC dX12_person_69 ?_
  exact zs_zretK hC hret dX12_person_70 (by decide) hf
set_option maxRecDepth 20000 in
set_option maxHeartbeats 4000000 in
theorem wX12_person {X : zX} {F : Nat} (hC : zCx X RX12 cX12_person 4 1) (hret : zRt X (some .boolean)) {v1 : Int32} {v2 : Int32} {v3 : Int32} {μ : zMem} (hf : fX12_person F v1 v2 v3 μ = some (zOut X)) : zAW X 0 [some (.ref 60), some (.int v1), some (.int v2), some (.int v3)] [] μ := by
  unfold fX12_person at hf
  refine zs_il hC dX12_person_0 rfl ?_
  refine zs_k hC dX12_person_1 ?_
  refine zs_k hC dX12_person_2 ?_
  refine zs_callS [.int v1, .int (nI 0), .int (nI 15)] hC cw_X12_in cl_RX12_96 (by decide) rfl rfl (Nat.le_of_ble_eq_true rfl) dX12_person_4 (fun _ h => ctX12_in h) (fun r1 m1 _ hf => ?_) hf
  show zAW X 7 _ (.int r1 :: _) m1
  refine zs_if_eq hC dX12_person_7 (fun _ hf => ?_) (fun _ hf => ?_) hf
  · refine zs_k hC dX12_person_20 ?_
    exact zs_zretK hC hret dX12_person_21 (by decide) hf
  · refine zs_il hC dX12_person_10 rfl ?_
    refine zs_k hC dX12_person_11 ?_
    refine zs_ldc hC kc_RX12_104 dX12_person_12 ?_
    refine zs_callS [.int v2, .int (nI 0), .int (nI 65535)] hC cw_X12_in cl_RX12_96 (by decide) rfl rfl (Nat.le_of_ble_eq_true rfl) dX12_person_14 (fun _ h => ctX12_in h) (fun r2 m2 _ hf => ?_) hf
    show zAW X 17 _ (.int r2 :: _) m2
    refine zs_if_ne hC dX12_person_17 (fun _ hf => ?_) (fun _ hf => ?_) hf
    · refine zs_k hC dX12_person_20 ?_
      exact zs_zretK hC hret dX12_person_21 (by decide) hf
    · refine zs_al hC dX12_person_22 rfl ?_
      refine zs_getR 61 hC fl_RX12_7 zL60 rfl dX12_person_23 ?_
      refine zs_k hC dX12_person_26 ?_
      refine zs_il hC dX12_person_27 rfl ?_
      refine zs_iadd hC dX12_person_28 ?_
      refine zs_k hC dX12_person_29 ?_
      refine zs_iast hC zL61 dX12_person_30 (fun _ hf => ?_) hf
      refine zs_let (fun m4 _ hf => ?_) hf
      refine zs_al hC dX12_person_31 rfl ?_
      refine zs_getR 61 hC fl_RX12_7 zL60 rfl dX12_person_32 ?_
      refine zs_k hC dX12_person_35 ?_
      refine zs_il hC dX12_person_37 rfl ?_
      refine zs_iadd hC dX12_person_38 ?_
      refine zs_il hC dX12_person_39 rfl ?_
      refine zs_iast hC zL61 dX12_person_40 (fun _ hf => ?_) hf
      refine zs_let (fun m6 _ hf => ?_) hf
      refine zs_al hC dX12_person_41 rfl ?_
      refine zs_getR 61 hC fl_RX12_7 zL60 rfl dX12_person_42 ?_
      refine zs_k hC dX12_person_45 ?_
      refine zs_il hC dX12_person_47 rfl ?_
      refine zs_iadd hC dX12_person_48 ?_
      refine zs_il hC dX12_person_49 rfl ?_
      refine zs_if_eq hC dX12_person_50 (fun _ hf => ?_) (fun _ hf => ?_) hf
      · refine zs_k hC dX12_person_57 ?_
        exact zAW.weak (wX12_person_58 hC hret hf) (zLw_s (zLw_s (zLw_n (zLw_n zLw_0))))
      · refine zs_k hC dX12_person_53 ?_
        refine zs_goto hC dX12_person_54 ?_
        exact zAW.weak (wX12_person_58 hC hret hf) (zLw_s (zLw_s (zLw_n (zLw_n zLw_0))))
set_option maxRecDepth 20000 in
set_option maxHeartbeats 4000000 in
theorem ctX12_person {E : zEV} {F : Nat} {v1 : Int32} {v2 : Int32} {v3 : Int32} {μ : zMem} {out : zR} (hf : fX12_person F v1 v2 v3 μ = some out) : zCt E yX12_person cX12_person 4 (some .boolean) 1 [.ref 60, .int v1, .int v2, .int v3] μ out :=
  zCt.of [some (.ref 60), some (.int v1), some (.int v2), some (.int v3)] (by decide +kernel) (Nat.le_of_ble_eq_true rfl) (zLw_s (zLw_s (zLw_s (zLw_s zLw_0)))) rfl (fun X hE ho hr hC => by
    subst hE; subst ho
    exact wX12_person hC hr hf)
/-! X12_types -/
def fX12_types_2 (F : Nat) : Nat → Int32 → Int32 → zMem → Option zR
  | 0, _, _, _ => none
  | n + 1, v1, v2, μ => if v2 < 0 then some ((nI 0), μ) else zG (μ 60 9) 260 (zLt (zUp μ 68 (μ 60 9).toNatClampNeg (((v1 >>> (((nI 8) * v2) &&& 31)).toInt8.toInt32).toInt8.toInt32)) (fun m3 => zLt (zUp m3 60 9 ((m3 60 9) + (nI 1))) (fun m5 => fX12_types_2 F n v1 (v2 + (-1 : Int32)) m5)))
def fX12_types (F : Nat) (v1 : Int32) (μ : zMem) : Option zR :=
  fX12_types_2 F F v1 (nI 3) μ
set_option maxRecDepth 20000 in
set_option maxHeartbeats 4000000 in
theorem wX12_types_2 {X : zX} {F : Nat} (hC : zCx X RX12 cX12_types 3 0) (hret : zRt X none) : ∀ (n : Nat) (v1 : Int32) (v2 : Int32) (μ : zMem), fX12_types_2 F n v1 v2 μ = some (zOut X) → zAW X 2 [some (.ref 60), some (.int v1), some (.int v2)] [] μ := by
  intro n
  induction n with
  | zero =>
    intro v1 v2 μ hf
    rw [fX12_types_2] at hf
    cases hf
  | succ n ih =>
    intro v1 v2 μ hf
    rw [fX12_types_2] at hf
    refine zs_il hC dX12_types_2 rfl ?_
    refine zs_if_lt hC dX12_types_3 (fun _ hf => ?_) (fun _ hf => ?_) hf
    · exact zs_vret hC hret dX12_types_38 hf
    · refine zs_al hC dX12_types_6 rfl ?_
      refine zs_getR 68 hC fl_RX12_31 zL60 rfl dX12_types_7 ?_
      refine zs_al hC dX12_types_10 rfl ?_
      refine zs_getI hC fl_RX12_105 zL60 rfl dX12_types_11 ?_
      refine zs_il hC dX12_types_14 rfl ?_
      refine zs_k hC dX12_types_15 ?_
      refine zs_il hC dX12_types_17 rfl ?_
      refine zs_imul hC dX12_types_18 ?_
      refine zs_ishr hC dX12_types_19 ?_
      refine zs_i2b hC dX12_types_20 ?_
      refine zs_bast hC zL68 dX12_types_21 (fun _ hf => ?_) hf
      refine zs_let (fun m3 _ hf => ?_) hf
      refine zs_al hC dX12_types_22 rfl ?_
      refine zs_al hC dX12_types_23 rfl ?_
      refine zs_getI hC fl_RX12_105 zL60 rfl dX12_types_24 ?_
      refine zs_k hC dX12_types_27 ?_
      refine zs_iadd hC dX12_types_28 ?_
      refine zs_putI hC fl_RX12_105 fp_12_9 zL60 rfl dX12_types_29 ?_
      refine zs_let (fun m5 _ hf => ?_) hf
      refine zs_iinc (-1 : Int32) hC dX12_types_32 (by decide) rfl (by decide) rfl ?_
      refine zs_goto hC dX12_types_35 ?_
      exact zAW.weak (ih _ _ _ hf) (zLw_s (zLw_s (zLw_s zLw_0)))
set_option maxRecDepth 20000 in
set_option maxHeartbeats 4000000 in
theorem wX12_types {X : zX} {F : Nat} (hC : zCx X RX12 cX12_types 3 0) (hret : zRt X none) {v1 : Int32} {μ : zMem} (hf : fX12_types F v1 μ = some (zOut X)) : zAW X 0 [some (.ref 60), some (.int v1), none] [] μ := by
  unfold fX12_types at hf
  refine zs_k hC dX12_types_0 ?_
  refine zs_is hC dX12_types_1 (by decide) rfl ?_
  exact zAW.weak (wX12_types_2 hC hret F _ _ _ hf) (zLw_s (zLw_s (zLw_s zLw_0)))
set_option maxRecDepth 20000 in
set_option maxHeartbeats 4000000 in
theorem ctX12_types {E : zEV} {F : Nat} {v1 : Int32} {μ : zMem} {out : zR} (hf : fX12_types F v1 μ = some out) : zCt E yX12_types cX12_types 3 none 0 [.ref 60, .int v1] μ out :=
  zCt.of [some (.ref 60), some (.int v1), none] (by decide +kernel) (Nat.le_of_ble_eq_true rfl) (zLw_s (zLw_s (zLw_e zLw_0))) rfl (fun X hE ho hr hC => by
    subst hE; subst ho
    exact wX12_types hC hr hf)
/-! X12_feed -/
def fX12_feed (F : Nat) (v1 : Int32) (v2 : Int32) (v3 : Int32) (v4 : Int32) (v5 : Int32) (μ : zMem) : Option zR :=
  if ((μ 60 9) + (nI 20)) ≤ (nI 260) then zBd (fX12_types F v1 μ) (fun r2 m2 => zBd (fX12_types F v2 m2) (fun r3 m3 => zBd (fX12_types F v3 m3) (fun r4 m4 => zBd (fX12_types F v4 m4) (fun r5 m5 => zBd (fX12_types F v5 m5) (fun r6 m6 => some ((m6 60 9), m6)))))) else some ((-1 : Int32), μ)
set_option maxRecDepth 20000 in
set_option maxHeartbeats 4000000 in
theorem wX12_feed {X : zX} {F : Nat} (hC : zCx X RX12 cX12_feed 6 1) (hret : zRt X (some .int)) {v1 : Int32} {v2 : Int32} {v3 : Int32} {v4 : Int32} {v5 : Int32} {μ : zMem} (hf : fX12_feed F v1 v2 v3 v4 v5 μ = some (zOut X)) : zAW X 0 [some (.ref 60), some (.int v1), some (.int v2), some (.int v3), some (.int v4), some (.int v5)] [] μ := by
  unfold fX12_feed at hf
  refine zs_al hC dX12_feed_0 rfl ?_
  refine zs_getI hC fl_RX12_105 zL60 rfl dX12_feed_1 ?_
  refine zs_k hC dX12_feed_4 ?_
  refine zs_iadd hC dX12_feed_6 ?_
  refine zs_k hC dX12_feed_7 ?_
  refine zs_ic_le hC dX12_feed_10 (fun _ hf => ?_) (fun _ hf => ?_) hf
  · refine zs_al hC dX12_feed_15 rfl ?_
    refine zs_il hC dX12_feed_16 rfl ?_
    refine zs_callV [.int v1] hC cw_X12_types cl_RX12_109 zL60 rfl (by decide) rfl rfl (Nat.le_of_ble_eq_true rfl) dX12_feed_17 (fun _ h => ctX12_types h) (fun r2 m2 _ hf => ?_) hf
    show zAW X 20 _ _ m2
    refine zs_al hC dX12_feed_20 rfl ?_
    refine zs_il hC dX12_feed_21 rfl ?_
    refine zs_callV [.int v2] hC cw_X12_types cl_RX12_109 zL60 rfl (by decide) rfl rfl (Nat.le_of_ble_eq_true rfl) dX12_feed_22 (fun _ h => ctX12_types h) (fun r3 m3 _ hf => ?_) hf
    show zAW X 25 _ _ m3
    refine zs_al hC dX12_feed_25 rfl ?_
    refine zs_il hC dX12_feed_26 rfl ?_
    refine zs_callV [.int v3] hC cw_X12_types cl_RX12_109 zL60 rfl (by decide) rfl rfl (Nat.le_of_ble_eq_true rfl) dX12_feed_27 (fun _ h => ctX12_types h) (fun r4 m4 _ hf => ?_) hf
    show zAW X 30 _ _ m4
    refine zs_al hC dX12_feed_30 rfl ?_
    refine zs_il hC dX12_feed_31 rfl ?_
    refine zs_callV [.int v4] hC cw_X12_types cl_RX12_109 zL60 rfl (by decide) rfl rfl (Nat.le_of_ble_eq_true rfl) dX12_feed_33 (fun _ h => ctX12_types h) (fun r5 m5 _ hf => ?_) hf
    show zAW X 36 _ _ m5
    refine zs_al hC dX12_feed_36 rfl ?_
    refine zs_il hC dX12_feed_37 rfl ?_
    refine zs_callV [.int v5] hC cw_X12_types cl_RX12_109 zL60 rfl (by decide) rfl rfl (Nat.le_of_ble_eq_true rfl) dX12_feed_39 (fun _ h => ctX12_types h) (fun r6 m6 _ hf => ?_) hf
    show zAW X 42 _ _ m6
    refine zs_al hC dX12_feed_42 rfl ?_
    refine zs_getI hC fl_RX12_105 zL60 rfl dX12_feed_43 ?_
    exact zs_iret hC hret dX12_feed_46 hf
  · refine zs_k hC dX12_feed_13 ?_
    exact zs_iret hC hret dX12_feed_14 hf
set_option maxRecDepth 20000 in
set_option maxHeartbeats 4000000 in
theorem ctX12_feed {E : zEV} {F : Nat} {v1 : Int32} {v2 : Int32} {v3 : Int32} {v4 : Int32} {v5 : Int32} {μ : zMem} {out : zR} (hf : fX12_feed F v1 v2 v3 v4 v5 μ = some out) : zCt E yX12_feed cX12_feed 6 (some .int) 1 [.ref 60, .int v1, .int v2, .int v3, .int v4, .int v5] μ out :=
  zCt.of [some (.ref 60), some (.int v1), some (.int v2), some (.int v3), some (.int v4), some (.int v5)] (by decide +kernel) (Nat.le_of_ble_eq_true rfl) (zLw_s (zLw_s (zLw_s (zLw_s (zLw_s (zLw_s zLw_0)))))) rfl (fun X hE ho hr hC => by
    subst hE; subst ho
    exact wX12_feed hC hr hf)
