/-! X12_bought -/
def fX12_bought_17 (F : Nat) : Nat → Int32 → Int32 → Int32 → zMem → Option zR
  | 0, _, _, _, _ => none
  | n + 1, v1, v2, v3, μ => if (nI 26) ≤ v3 then some (v2, μ) else zG v3 26 (zBd (fX12_max F (nI 0) ((μ 65 v3.toNatClampNeg) - v1) μ) (fun r2 m2 => fX12_bought_17 F n v1 (v2 + r2) (v3 + (nI 1)) m2))
def fX12_bought (F : Nat) (v1 : Int32) (μ : zMem) : Option zR :=
  zBd (fX12_in F v1 (nI 0) (nI 255) μ) (fun r1 m1 => if r1 = 0 then some ((-1 : Int32), m1) else fX12_bought_17 F F v1 (nI 0) (nI 0) m1)
set_option maxRecDepth 20000 in
set_option maxHeartbeats 4000000 in
theorem wX12_bought_17 {X : zX} {F : Nat} (hC : zCx X RX12 cX12_bought 4 1) (hret : zRt X (some .int)) : ∀ (n : Nat) (v1 : Int32) (v2 : Int32) (v3 : Int32) (μ : zMem), fX12_bought_17 F n v1 v2 v3 μ = some (zOut X) → zAW X 17 [some (.ref 60), some (.int v1), some (.int v2), some (.int v3)] [] μ := by
  intro n
  induction n with
  | zero =>
    intro v1 v2 v3 μ hf
    rw [fX12_bought_17] at hf
    cases hf
  | succ n ih =>
    intro v1 v2 v3 μ hf
    rw [fX12_bought_17] at hf
    refine zs_il hC dX12_bought_17 rfl ?_
    refine zs_k hC dX12_bought_18 ?_
    refine zs_ic_ge hC dX12_bought_20 (fun _ hf => ?_) (fun _ hf => ?_) hf
    · refine zs_il hC dX12_bought_44 rfl ?_
      exact zs_iret hC hret dX12_bought_45 hf
    · refine zs_il hC dX12_bought_23 rfl ?_
      refine zs_k hC dX12_bought_24 ?_
      refine zs_al hC dX12_bought_25 rfl ?_
      refine zs_getR 65 hC fl_RX12_22 zL60 rfl dX12_bought_26 ?_
      refine zs_il hC dX12_bought_29 rfl ?_
      refine zs_iald hC zL65 dX12_bought_30 (fun _ hf => ?_) hf
      refine zs_il hC dX12_bought_31 rfl ?_
      refine zs_isub hC dX12_bought_32 ?_
      refine zs_callS [.int (nI 0), .int ((μ 65 v3.toNatClampNeg) - v1)] hC cw_X12_max cl_RX12_305 (by decide) rfl rfl (Nat.le_of_ble_eq_true rfl) dX12_bought_33 (fun _ h => ctX12_max h) (fun r2 m2 _ hf => ?_) hf
      show zAW X 36 _ (.int r2 :: _) m2
      refine zs_iadd hC dX12_bought_36 ?_
      refine zs_is hC dX12_bought_37 (by decide) rfl ?_
      refine zs_iinc (nI 1) hC dX12_bought_38 (by decide) rfl (by decide) rfl ?_
      refine zs_goto hC dX12_bought_41 ?_
      exact zAW.weak (ih _ _ _ _ hf) (zLw_s (zLw_s (zLw_s (zLw_s zLw_0))))
set_option maxRecDepth 20000 in
set_option maxHeartbeats 4000000 in
theorem wX12_bought {X : zX} {F : Nat} (hC : zCx X RX12 cX12_bought 4 1) (hret : zRt X (some .int)) {v1 : Int32} {μ : zMem} (hf : fX12_bought F v1 μ = some (zOut X)) : zAW X 0 [some (.ref 60), some (.int v1), none, none] [] μ := by
  unfold fX12_bought at hf
  refine zs_il hC dX12_bought_0 rfl ?_
  refine zs_k hC dX12_bought_1 ?_
  refine zs_k hC dX12_bought_2 ?_
  refine zs_callS [.int v1, .int (nI 0), .int (nI 255)] hC cw_X12_in cl_RX12_96 (by decide) rfl rfl (Nat.le_of_ble_eq_true rfl) dX12_bought_5 (fun _ h => ctX12_in h) (fun r1 m1 _ hf => ?_) hf
  show zAW X 8 _ (.int r1 :: _) m1
  refine zs_if_ne hC dX12_bought_8 (fun _ hf => ?_) (fun _ hf => ?_) hf
  · refine zs_k hC dX12_bought_11 ?_
    exact zs_iret hC hret dX12_bought_12 hf
  · refine zs_k hC dX12_bought_13 ?_
    refine zs_is hC dX12_bought_14 (by decide) rfl ?_
    refine zs_k hC dX12_bought_15 ?_
    refine zs_is hC dX12_bought_16 (by decide) rfl ?_
    exact zAW.weak (wX12_bought_17 hC hret F _ _ _ _ hf) (zLw_s (zLw_s (zLw_s (zLw_s zLw_0))))
set_option maxRecDepth 20000 in
set_option maxHeartbeats 4000000 in
theorem ctX12_bought {E : zEV} {F : Nat} {v1 : Int32} {μ : zMem} {out : zR} (hf : fX12_bought F v1 μ = some out) : zCt E yX12_bought cX12_bought 4 (some .int) 1 [.ref 60, .int v1] μ out :=
  zCt.of [some (.ref 60), some (.int v1), none, none] (by decide +kernel) (Nat.le_of_ble_eq_true rfl) (zLw_s (zLw_s (zLw_e (zLw_e zLw_0)))) rfl (fun X hE ho hr hC => by
    subst hE; subst ho
    exact wX12_bought hC hr hf)
/-! X12_nuns -/
def fX12_nuns_128 (F : Nat) (k63 : Int32 → Int32 → Int32 → Int32 → Int32 → zMem → Option zR) (k85 : Int32 → Int32 → Int32 → Int32 → Int32 → Int32 → Int32 → Int32 → Int32 → Int32 → zMem → Option zR) (v1 : Int32) (v2 : Int32) (v3 : Int32) (v4 : Int32) (v5 : Int32) (v6 : Int32) (v7 : Int32) (v8 : Int32) (v9 : Int32) (v10 : Int32) (μ : zMem) : Option zR :=
  zGz v2 (if (v6 % v2) = (nI 2) then zBd (fX12_octet F v10 μ) (fun r1 m1 => zGz v2 (k85 v1 v2 v3 v4 v5 (v6 / v2) v7 v8 (v9 + r1) (v10 + (nI 1)) m1)) else zGz v2 (k85 v1 v2 v3 v4 v5 (v6 / v2) v7 v8 v9 (v10 + (nI 1)) μ))
def fX12_nuns_109 (F : Nat) (k63 : Int32 → Int32 → Int32 → Int32 → Int32 → zMem → Option zR) (k85 : Int32 → Int32 → Int32 → Int32 → Int32 → Int32 → Int32 → Int32 → Int32 → Int32 → zMem → Option zR) (v1 : Int32) (v2 : Int32) (v3 : Int32) (v4 : Int32) (v5 : Int32) (v6 : Int32) (v7 : Int32) (v8 : Int32) (v9 : Int32) (v10 : Int32) (μ : zMem) : Option zR :=
  zGz v2 (if (v6 % v2) = (nI 1) then zBd (fX12_octet F v10 μ) (fun r1 m1 => fX12_nuns_128 F k63 k85 v1 v2 v3 v4 v5 v6 v7 (v8 + r1) v9 v10 m1) else fX12_nuns_128 F k63 k85 v1 v2 v3 v4 v5 v6 v7 v8 v9 v10 μ)
def fX12_nuns_85 (F : Nat) (k63 : Int32 → Int32 → Int32 → Int32 → Int32 → zMem → Option zR) : Nat → Int32 → Int32 → Int32 → Int32 → Int32 → Int32 → Int32 → Int32 → Int32 → Int32 → zMem → Option zR
  | 0, _, _, _, _, _, _, _, _, _, _, _ => none
  | n + 1, v1, v2, v3, v4, v5, v6, v7, v8, v9, v10, μ => if v1 ≤ v10 then zBd (fX12_max F v8 v9 μ) (fun r1 m1 => zBd (fX12_max F v7 r1 m1) (fun r2 m2 => zBd (fX12_min F v4 r2 m2) (fun r3 m3 => k63 v1 v2 v3 r3 (v5 + (nI 1)) m3))) else zGz v2 (if (v6 % v2) = 0 then zBd (fX12_octet F v10 μ) (fun r4 m4 => fX12_nuns_109 F k63 (fX12_nuns_85 F k63 n) v1 v2 v3 v4 v5 v6 (v7 + r4) v8 v9 v10 m4) else fX12_nuns_109 F k63 (fX12_nuns_85 F k63 n) v1 v2 v3 v4 v5 v6 v7 v8 v9 v10 μ)
def fX12_nuns_63 (F : Nat) : Nat → Int32 → Int32 → Int32 → Int32 → Int32 → zMem → Option zR
  | 0, _, _, _, _, _, _ => none
  | n + 1, v1, v2, v3, v4, v5, μ => if v3 ≤ v5 then some (v4, μ) else fX12_nuns_85 F (fX12_nuns_63 F n) F v1 v2 v3 v4 v5 v5 (nI 0) (nI 0) (nI 0) (nI 0) μ
def fX12_nuns_39 (F : Nat) : Nat → Int32 → Int32 → Int32 → Int32 → zMem → Option zR
  | 0, _, _, _, _, _ => none
  | n + 1, v1, v2, v3, v4, μ => if v1 ≤ v4 then fX12_nuns_63 F F v1 v2 v3 (nI 1000000) (nI 0) μ else fX12_nuns_39 F n v1 v2 (v3 * v2) (v4 + (nI 1)) μ
def fX12_nuns (F : Nat) (v1 : Int32) (v2 : Int32) (μ : zMem) : Option zR :=
  zBd (fX12_in F v1 (nI 1) (nI 8) μ) (fun r1 m1 => if r1 = 0 then some ((-1 : Int32), m1) else zBd (fX12_in F v2 (nI 2) (nI 3) m1) (fun r2 m2 => if r2 = 0 then some ((-1 : Int32), m2) else if v1 ≤ (m2 60 9) then zLt (zUp m2 60 9 (nI 0)) (fun m4 => fX12_nuns_39 F F v1 v2 (nI 1) (nI 0) m4) else some ((-1 : Int32), m2)))
set_option maxRecDepth 20000 in
set_option maxHeartbeats 4000000 in
theorem wX12_nuns_128 {X : zX} {F : Nat} (hC : zCx X RX12 cX12_nuns 11 1) (hret : zRt X (some .int)) {k63 : Int32 → Int32 → Int32 → Int32 → Int32 → zMem → Option zR} (hk63 : ∀ v1 v2 v3 v4 v5 μ, k63 v1 v2 v3 v4 v5 μ = some (zOut X) → zAW X 63 [some (.ref 60), some (.int v1), some (.int v2), some (.int v3), some (.int v4), some (.int v5), none, none, none, none, none] [] μ) {k85 : Int32 → Int32 → Int32 → Int32 → Int32 → Int32 → Int32 → Int32 → Int32 → Int32 → zMem → Option zR} (hk85 : ∀ v1 v2 v3 v4 v5 v6 v7 v8 v9 v10 μ, k85 v1 v2 v3 v4 v5 v6 v7 v8 v9 v10 μ = some (zOut X) → zAW X 85 [some (.ref 60), some (.int v1), some (.int v2), some (.int v3), some (.int v4), some (.int v5), some (.int v6), some (.int v7), some (.int v8), some (.int v9), some (.int v10)] [] μ) {v1 : Int32} {v2 : Int32} {v3 : Int32} {v4 : Int32} {v5 : Int32} {v6 : Int32} {v7 : Int32} {v8 : Int32} {v9 : Int32} {v10 : Int32} {μ : zMem} (hf : fX12_nuns_128 F k63 k85 v1 v2 v3 v4 v5 v6 v7 v8 v9 v10 μ = some (zOut X)) : zAW X 128 [some (.ref 60), some (.int v1), some (.int v2), some (.int v3), some (.int v4), some (.int v5), some (.int v6), some (.int v7), some (.int v8), some (.int v9), some (.int v10)] [] μ := by
  unfold fX12_nuns_128 at hf
  refine zs_il hC dX12_nuns_128 rfl ?_
  refine zs_il hC dX12_nuns_130 rfl ?_
  refine zs_irem hC dX12_nuns_131 (fun _ hf => ?_) hf
  refine zs_k hC dX12_nuns_132 ?_
  refine zs_ic_ne hC dX12_nuns_133 (fun _ hf => ?_) (fun _ hf => ?_) hf
  · refine zs_il hC dX12_nuns_136 rfl ?_
    refine zs_al hC dX12_nuns_138 rfl ?_
    refine zs_il hC dX12_nuns_139 rfl ?_
    refine zs_callV [.int v10] hC cw_X12_octet cl_RX12_339 zL60 rfl (by decide) rfl rfl (Nat.le_of_ble_eq_true rfl) dX12_nuns_141 (fun _ h => ctX12_octet h) (fun r1 m1 _ hf => ?_) hf
    show zAW X 144 _ (.int r1 :: _) m1
    refine zs_iadd hC dX12_nuns_144 ?_
    refine zs_is hC dX12_nuns_145 (by decide) rfl ?_
    refine zs_il hC dX12_nuns_147 rfl ?_
    refine zs_il hC dX12_nuns_149 rfl ?_
    refine zs_idiv hC dX12_nuns_150 (fun _ hf => ?_) hf
    refine zs_is hC dX12_nuns_151 (by decide) rfl ?_
    refine zs_iinc (nI 1) hC dX12_nuns_153 (by decide) rfl (by decide) rfl ?_
    refine zs_goto hC dX12_nuns_156 ?_
    exact zAW.weak (hk85 _ _ _ _ _ _ _ _ _ _ _ hf) (zLw_s (zLw_s (zLw_s (zLw_s (zLw_s (zLw_s (zLw_s (zLw_s (zLw_s (zLw_s (zLw_s zLw_0)))))))))))
  · refine zs_il hC dX12_nuns_147 rfl ?_
    refine zs_il hC dX12_nuns_149 rfl ?_
    refine zs_idiv hC dX12_nuns_150 (fun _ hf => ?_) hf
    refine zs_is hC dX12_nuns_151 (by decide) rfl ?_
    refine zs_iinc (nI 1) hC dX12_nuns_153 (by decide) rfl (by decide) rfl ?_
    refine zs_goto hC dX12_nuns_156 ?_
    exact zAW.weak (hk85 _ _ _ _ _ _ _ _ _ _ _ hf) (zLw_s (zLw_s (zLw_s (zLw_s (zLw_s (zLw_s (zLw_s (zLw_s (zLw_s (zLw_s (zLw_s zLw_0)))))))))))
set_option maxRecDepth 20000 in
set_option maxHeartbeats 4000000 in
theorem wX12_nuns_109 {X : zX} {F : Nat} (hC : zCx X RX12 cX12_nuns 11 1) (hret : zRt X (some .int)) {k63 : Int32 → Int32 → Int32 → Int32 → Int32 → zMem → Option zR} (hk63 : ∀ v1 v2 v3 v4 v5 μ, k63 v1 v2 v3 v4 v5 μ = some (zOut X) → zAW X 63 [some (.ref 60), some (.int v1), some (.int v2), some (.int v3), some (.int v4), some (.int v5), none, none, none, none, none] [] μ) {k85 : Int32 → Int32 → Int32 → Int32 → Int32 → Int32 → Int32 → Int32 → Int32 → Int32 → zMem → Option zR} (hk85 : ∀ v1 v2 v3 v4 v5 v6 v7 v8 v9 v10 μ, k85 v1 v2 v3 v4 v5 v6 v7 v8 v9 v10 μ = some (zOut X) → zAW X 85 [some (.ref 60), some (.int v1), some (.int v2), some (.int v3), some (.int v4), some (.int v5), some (.int v6), some (.int v7), some (.int v8), some (.int v9), some (.int v10)] [] μ) {v1 : Int32} {v2 : Int32} {v3 : Int32} {v4 : Int32} {v5 : Int32} {v6 : Int32} {v7 : Int32} {v8 : Int32} {v9 : Int32} {v10 : Int32} {μ : zMem} (hf : fX12_nuns_109 F k63 k85 v1 v2 v3 v4 v5 v6 v7 v8 v9 v10 μ = some (zOut X)) : zAW X 109 [some (.ref 60), some (.int v1), some (.int v2), some (.int v3), some (.int v4), some (.int v5), some (.int v6), some (.int v7), some (.int v8), some (.int v9), some (.int v10)] [] μ := by
  unfold fX12_nuns_109 at hf
  refine zs_il hC dX12_nuns_109 rfl ?_
  refine zs_il hC dX12_nuns_111 rfl ?_
  refine zs_irem hC dX12_nuns_112 (fun _ hf => ?_) hf
  refine zs_k hC dX12_nuns_113 ?_
  refine zs_ic_ne hC dX12_nuns_114 (fun _ hf => ?_) (fun _ hf => ?_) hf
  · refine zs_il hC dX12_nuns_117 rfl ?_
    refine zs_al hC dX12_nuns_119 rfl ?_
    refine zs_il hC dX12_nuns_120 rfl ?_
    refine zs_callV [.int v10] hC cw_X12_octet cl_RX12_339 zL60 rfl (by decide) rfl rfl (Nat.le_of_ble_eq_true rfl) dX12_nuns_122 (fun _ h => ctX12_octet h) (fun r1 m1 _ hf => ?_) hf
    show zAW X 125 _ (.int r1 :: _) m1
    refine zs_iadd hC dX12_nuns_125 ?_
    refine zs_is hC dX12_nuns_126 (by decide) rfl ?_
    exact zAW.weak (wX12_nuns_128 hC hret hk63 hk85 hf) (zLw_s (zLw_s (zLw_s (zLw_s (zLw_s (zLw_s (zLw_s (zLw_s (zLw_s (zLw_s (zLw_s zLw_0)))))))))))
  · exact zAW.weak (wX12_nuns_128 hC hret hk63 hk85 hf) (zLw_s (zLw_s (zLw_s (zLw_s (zLw_s (zLw_s (zLw_s (zLw_s (zLw_s (zLw_s (zLw_s zLw_0)))))))))))
set_option maxRecDepth 20000 in
set_option maxHeartbeats 4000000 in
theorem wX12_nuns_85 {X : zX} {F : Nat} (hC : zCx X RX12 cX12_nuns 11 1) (hret : zRt X (some .int)) {k63 : Int32 → Int32 → Int32 → Int32 → Int32 → zMem → Option zR} (hk63 : ∀ v1 v2 v3 v4 v5 μ, k63 v1 v2 v3 v4 v5 μ = some (zOut X) → zAW X 63 [some (.ref 60), some (.int v1), some (.int v2), some (.int v3), some (.int v4), some (.int v5), none, none, none, none, none] [] μ) : ∀ (n : Nat) (v1 : Int32) (v2 : Int32) (v3 : Int32) (v4 : Int32) (v5 : Int32) (v6 : Int32) (v7 : Int32) (v8 : Int32) (v9 : Int32) (v10 : Int32) (μ : zMem), fX12_nuns_85 F k63 n v1 v2 v3 v4 v5 v6 v7 v8 v9 v10 μ = some (zOut X) → zAW X 85 [some (.ref 60), some (.int v1), some (.int v2), some (.int v3), some (.int v4), some (.int v5), some (.int v6), some (.int v7), some (.int v8), some (.int v9), some (.int v10)] [] μ := by
  intro n
  induction n with
  | zero =>
    intro v1 v2 v3 v4 v5 v6 v7 v8 v9 v10 μ hf
    rw [fX12_nuns_85] at hf
    cases hf
  | succ n ih =>
    intro v1 v2 v3 v4 v5 v6 v7 v8 v9 v10 μ hf
    rw [fX12_nuns_85] at hf
    refine zs_il hC dX12_nuns_85 rfl ?_
    refine zs_il hC dX12_nuns_87 rfl ?_
    refine zs_ic_ge hC dX12_nuns_88 (fun _ hf => ?_) (fun _ hf => ?_) hf
    · refine zs_il hC dX12_nuns_159 rfl ?_
      refine zs_il hC dX12_nuns_161 rfl ?_
      refine zs_il hC dX12_nuns_163 rfl ?_
      refine zs_il hC dX12_nuns_165 rfl ?_
      refine zs_callS [.int v8, .int v9] hC cw_X12_max cl_RX12_305 (by decide) rfl rfl (Nat.le_of_ble_eq_true rfl) dX12_nuns_167 (fun _ h => ctX12_max h) (fun r1 m1 _ hf => ?_) hf
      show zAW X 170 _ (.int r1 :: _) m1
      refine zs_callS [.int v7, .int r1] hC cw_X12_max cl_RX12_305 (by decide) rfl rfl (Nat.le_of_ble_eq_true rfl) dX12_nuns_170 (fun _ h => ctX12_max h) (fun r2 m2 _ hf => ?_) hf
      show zAW X 173 _ (.int r2 :: _) m2
      refine zs_callS [.int v4, .int r2] hC cw_X12_min cl_RX12_271 (by decide) rfl rfl (Nat.le_of_ble_eq_true rfl) dX12_nuns_173 (fun _ h => ctX12_min h) (fun r3 m3 _ hf => ?_) hf
      show zAW X 176 _ (.int r3 :: _) m3
      refine zs_is hC dX12_nuns_176 (by decide) rfl ?_
      refine zs_iinc (nI 1) hC dX12_nuns_178 (by decide) rfl (by decide) rfl ?_
      refine zs_goto hC dX12_nuns_181 ?_
      exact zAW.weak (hk63 _ _ _ _ _ _ hf) (zLw_s (zLw_s (zLw_s (zLw_s (zLw_s (zLw_s (zLw_n (zLw_n (zLw_n (zLw_n (zLw_n zLw_0)))))))))))
    · refine zs_il hC dX12_nuns_91 rfl ?_
      refine zs_il hC dX12_nuns_93 rfl ?_
      refine zs_irem hC dX12_nuns_94 (fun _ hf => ?_) hf
      refine zs_if_ne hC dX12_nuns_95 (fun _ hf => ?_) (fun _ hf => ?_) hf
      · refine zs_il hC dX12_nuns_98 rfl ?_
        refine zs_al hC dX12_nuns_100 rfl ?_
        refine zs_il hC dX12_nuns_101 rfl ?_
        refine zs_callV [.int v10] hC cw_X12_octet cl_RX12_339 zL60 rfl (by decide) rfl rfl (Nat.le_of_ble_eq_true rfl) dX12_nuns_103 (fun _ h => ctX12_octet h) (fun r4 m4 _ hf => ?_) hf
        show zAW X 106 _ (.int r4 :: _) m4
        refine zs_iadd hC dX12_nuns_106 ?_
        refine zs_is hC dX12_nuns_107 (by decide) rfl ?_
        exact zAW.weak (wX12_nuns_109 hC hret hk63 (ih) hf) (zLw_s (zLw_s (zLw_s (zLw_s (zLw_s (zLw_s (zLw_s (zLw_s (zLw_s (zLw_s (zLw_s zLw_0)))))))))))
      · exact zAW.weak (wX12_nuns_109 hC hret hk63 (ih) hf) (zLw_s (zLw_s (zLw_s (zLw_s (zLw_s (zLw_s (zLw_s (zLw_s (zLw_s (zLw_s (zLw_s zLw_0)))))))))))
set_option maxRecDepth 20000 in
set_option maxHeartbeats 4000000 in
theorem wX12_nuns_63 {X : zX} {F : Nat} (hC : zCx X RX12 cX12_nuns 11 1) (hret : zRt X (some .int)) : ∀ (n : Nat) (v1 : Int32) (v2 : Int32) (v3 : Int32) (v4 : Int32) (v5 : Int32) (μ : zMem), fX12_nuns_63 F n v1 v2 v3 v4 v5 μ = some (zOut X) → zAW X 63 [some (.ref 60), some (.int v1), some (.int v2), some (.int v3), some (.int v4), some (.int v5), none, none, none, none, none] [] μ := by
  intro n
  induction n with
  | zero =>
    intro v1 v2 v3 v4 v5 μ hf
    rw [fX12_nuns_63] at hf
    cases hf
  | succ n ih =>
    intro v1 v2 v3 v4 v5 μ hf
    rw [fX12_nuns_63] at hf
    refine zs_il hC dX12_nuns_63 rfl ?_
    refine zs_il hC dX12_nuns_65 rfl ?_
    refine zs_ic_ge hC dX12_nuns_66 (fun _ hf => ?_) (fun _ hf => ?_) hf
    · refine zs_il hC dX12_nuns_184 rfl ?_
      exact zs_iret hC hret dX12_nuns_186 hf
    · refine zs_il hC dX12_nuns_69 rfl ?_
      refine zs_is hC dX12_nuns_71 (by decide) rfl ?_
      refine zs_k hC dX12_nuns_73 ?_
      refine zs_is hC dX12_nuns_74 (by decide) rfl ?_
      refine zs_k hC dX12_nuns_76 ?_
      refine zs_is hC dX12_nuns_77 (by decide) rfl ?_
      refine zs_k hC dX12_nuns_79 ?_
      refine zs_is hC dX12_nuns_80 (by decide) rfl ?_
      refine zs_k hC dX12_nuns_82 ?_
      refine zs_is hC dX12_nuns_83 (by decide) rfl ?_
      exact zAW.weak (wX12_nuns_85 hC hret (ih) F _ _ _ _ _ _ _ _ _ _ _ hf) (zLw_s (zLw_s (zLw_s (zLw_s (zLw_s (zLw_s (zLw_s (zLw_s (zLw_s (zLw_s (zLw_s zLw_0)))))))))))
set_option maxRecDepth 20000 in
set_option maxHeartbeats 4000000 in
theorem wX12_nuns_39 {X : zX} {F : Nat} (hC : zCx X RX12 cX12_nuns 11 1) (hret : zRt X (some .int)) : ∀ (n : Nat) (v1 : Int32) (v2 : Int32) (v3 : Int32) (v4 : Int32) (μ : zMem), fX12_nuns_39 F n v1 v2 v3 v4 μ = some (zOut X) → zAW X 39 [some (.ref 60), some (.int v1), some (.int v2), some (.int v3), some (.int v4), none, none, none, none, none, none] [] μ := by
  intro n
  induction n with
  | zero =>
    intro v1 v2 v3 v4 μ hf
    rw [fX12_nuns_39] at hf
    cases hf
  | succ n ih =>
    intro v1 v2 v3 v4 μ hf
    rw [fX12_nuns_39] at hf
    refine zs_il hC dX12_nuns_39 rfl ?_
    refine zs_il hC dX12_nuns_41 rfl ?_
    refine zs_ic_ge hC dX12_nuns_42 (fun _ hf => ?_) (fun _ hf => ?_) hf
    · refine zs_ldcw hC kc_RX12_335 dX12_nuns_55 ?_
      refine zs_is hC dX12_nuns_58 (by decide) rfl ?_
      refine zs_k hC dX12_nuns_60 ?_
      refine zs_is hC dX12_nuns_61 (by decide) rfl ?_
      exact zAW.weak (wX12_nuns_63 hC hret F _ _ _ _ _ _ hf) (zLw_s (zLw_s (zLw_s (zLw_s (zLw_s (zLw_s (zLw_n (zLw_n (zLw_n (zLw_n (zLw_n zLw_0)))))))))))
    · refine zs_il hC dX12_nuns_45 rfl ?_
      refine zs_il hC dX12_nuns_46 rfl ?_
      refine zs_imul hC dX12_nuns_47 ?_
      refine zs_is hC dX12_nuns_48 (by decide) rfl ?_
      refine zs_iinc (nI 1) hC dX12_nuns_49 (by decide) rfl (by decide) rfl ?_
      refine zs_goto hC dX12_nuns_52 ?_
      exact zAW.weak (ih _ _ _ _ _ hf) (zLw_s (zLw_s (zLw_s (zLw_s (zLw_s (zLw_n (zLw_n (zLw_n (zLw_n (zLw_n (zLw_n zLw_0)))))))))))
set_option maxRecDepth 20000 in
set_option maxHeartbeats 4000000 in
theorem wX12_nuns {X : zX} {F : Nat} (hC : zCx X RX12 cX12_nuns 11 1) (hret : zRt X (some .int)) {v1 : Int32} {v2 : Int32} {μ : zMem} (hf : fX12_nuns F v1 v2 μ = some (zOut X)) : zAW X 0 [some (.ref 60), some (.int v1), some (.int v2), none, none, none, none, none, none, none, none] [] μ := by
  unfold fX12_nuns at hf
  refine zs_il hC dX12_nuns_0 rfl ?_
  refine zs_k hC dX12_nuns_1 ?_
  refine zs_k hC dX12_nuns_2 ?_
  refine zs_callS [.int v1, .int (nI 1), .int (nI 8)] hC cw_X12_in cl_RX12_96 (by decide) rfl rfl (Nat.le_of_ble_eq_true rfl) dX12_nuns_4 (fun _ h => ctX12_in h) (fun r1 m1 _ hf => ?_) hf
  show zAW X 7 _ (.int r1 :: _) m1
  refine zs_if_eq hC dX12_nuns_7 (fun _ hf => ?_) (fun _ hf => ?_) hf
  · refine zs_k hC dX12_nuns_27 ?_
    exact zs_iret hC hret dX12_nuns_28 hf
  · refine zs_il hC dX12_nuns_10 rfl ?_
    refine zs_k hC dX12_nuns_11 ?_
    refine zs_k hC dX12_nuns_12 ?_
    refine zs_callS [.int v2, .int (nI 2), .int (nI 3)] hC cw_X12_in cl_RX12_96 (by decide) rfl rfl (Nat.le_of_ble_eq_true rfl) dX12_nuns_13 (fun _ h => ctX12_in h) (fun r2 m2 _ hf => ?_) hf
    show zAW X 16 _ (.int r2 :: _) m2
    refine zs_if_eq hC dX12_nuns_16 (fun _ hf => ?_) (fun _ hf => ?_) hf
    · refine zs_k hC dX12_nuns_27 ?_
      exact zs_iret hC hret dX12_nuns_28 hf
    · refine zs_il hC dX12_nuns_19 rfl ?_
      refine zs_al hC dX12_nuns_20 rfl ?_
      refine zs_getI hC fl_RX12_105 zL60 rfl dX12_nuns_21 ?_
      refine zs_ic_le hC dX12_nuns_24 (fun _ hf => ?_) (fun _ hf => ?_) hf
      · refine zs_al hC dX12_nuns_29 rfl ?_
        refine zs_k hC dX12_nuns_30 ?_
        refine zs_putI hC fl_RX12_105 fp_12_9 zL60 rfl dX12_nuns_31 ?_
        refine zs_let (fun m4 _ hf => ?_) hf
        refine zs_k hC dX12_nuns_34 ?_
        refine zs_is hC dX12_nuns_35 (by decide) rfl ?_
        refine zs_k hC dX12_nuns_36 ?_
        refine zs_is hC dX12_nuns_37 (by decide) rfl ?_
        exact zAW.weak (wX12_nuns_39 hC hret F _ _ _ _ _ hf) (zLw_s (zLw_s (zLw_s (zLw_s (zLw_s (zLw_n (zLw_n (zLw_n (zLw_n (zLw_n (zLw_n zLw_0)))))))))))
      · refine zs_k hC dX12_nuns_27 ?_
        exact zs_iret hC hret dX12_nuns_28 hf
set_option maxRecDepth 20000 in
set_option maxHeartbeats 4000000 in
theorem ctX12_nuns {E : zEV} {F : Nat} {v1 : Int32} {v2 : Int32} {μ : zMem} {out : zR} (hf : fX12_nuns F v1 v2 μ = some out) : zCt E yX12_nuns cX12_nuns 11 (some .int) 1 [.ref 60, .int v1, .int v2] μ out :=
  zCt.of [some (.ref 60), some (.int v1), some (.int v2), none, none, none, none, none, none, none, none] (by decide +kernel) (Nat.le_of_ble_eq_true rfl) (zLw_s (zLw_s (zLw_s (zLw_e (zLw_e (zLw_e (zLw_e (zLw_e (zLw_e (zLw_e (zLw_e zLw_0))))))))))) rfl (fun X hE ho hr hC => by
    subst hE; subst ho
    exact wX12_nuns hC hr hf)
/-! X12_space -/
def fX12_space_108 (F : Nat) (k91 : Int32 → Int32 → Int32 → Int32 → Int32 → Int32 → zMem → Option zR) : Nat → Int32 → Int32 → Int32 → Int32 → Int32 → Int32 → Int32 → Int32 → Int32 → zMem → Option zR
  | 0, _, _, _, _, _, _, _, _, _, _ => none
  | n + 1, v1, v2, v3, v4, v5, v6, v7, v8, v9, μ => if v1 ≤ v9 then if v2 < v7 then k91 v1 v2 v3 v4 v5 (v6 + (nI 1)) μ else if v5 < v8 then k91 v1 v2 v3 v6 v8 (v6 + (nI 1)) μ else k91 v1 v2 v3 v4 v5 (v6 + (nI 1)) μ else zBd (fX12_has F v6 v9 μ) (fun r1 m1 => if r1 = 0 then fX12_space_108 F k91 n v1 v2 v3 v4 v5 v6 v7 v8 (v9 + (nI 1)) m1 else zBd (fX12_octet F ((nI 2) * v9) m1) (fun r2 m2 => zBd (fX12_octet F (((nI 2) * v9) + (nI 1)) m2) (fun r3 m3 => fX12_space_108 F k91 n v1 v2 v3 v4 v5 v6 (v7 + r2) (v8 + r3) (v9 + (nI 1)) m3)))
def fX12_space_91 (F : Nat) : Nat → Int32 → Int32 → Int32 → Int32 → Int32 → Int32 → zMem → Option zR
  | 0, _, _, _, _, _, _, _ => none
  | n + 1, v1, v2, v3, v4, v5, v6, μ => if ((nI 1) <<< (v1 &&& 31)) ≤ v6 then if v3 = 0 then some (v5, μ) else some (v4, μ) else fX12_space_108 F (fX12_space_91 F n) F v1 v2 v3 v4 v5 v6 (nI 0) (nI 0) (nI 0) μ
def fX12_space_50 (F : Nat) : Nat → Int32 → Int32 → Int32 → Int32 → zMem → Option zR
  | 0, _, _, _, _, _ => none
  | n + 1, v1, v2, v3, v4, μ => if v1 ≤ v4 then fX12_space_91 F F v1 v2 v3 (nI 0) (nI 0) (nI 0) μ else zBd (fX12_octet F ((nI 2) * v4) μ) (fun r1 m1 => zBd (fX12_in F r1 (nI 1) (nI 60) m1) (fun r2 m2 => if r2 = 0 then some ((-3 : Int32), m2) else fX12_space_50 F n v1 v2 v3 (v4 + (nI 1)) m2))
def fX12_space (F : Nat) (v1 : Int32) (v2 : Int32) (v3 : Int32) (μ : zMem) : Option zR :=
  zBd (fX12_in F v1 (nI 1) (nI 10) μ) (fun r1 m1 => if r1 = 0 then some ((-1 : Int32), m1) else zBd (fX12_in F v2 (nI 0) (nI 255) m1) (fun r2 m2 => if r2 = 0 then some ((-1 : Int32), m2) else zBd (fX12_in F v3 (nI 0) (nI 1) m2) (fun r3 m3 => if r3 = 0 then some ((-1 : Int32), m3) else if ((nI 2) * v1) ≤ (m3 60 9) then zLt (zUp m3 60 9 (nI 0)) (fun m5 => fX12_space_50 F F v1 v2 v3 (nI 0) m5) else some ((-1 : Int32), m3))))
set_option maxRecDepth 20000 in
set_option maxHeartbeats 4000000 in
theorem wX12_space_108 {X : zX} {F : Nat} (hC : zCx X RX12 cX12_space 10 1) (hret : zRt X (some .int)) {k91 : Int32 → Int32 → Int32 → Int32 → Int32 → Int32 → zMem → Option zR} (hk91 : ∀ v1 v2 v3 v4 v5 v6 μ, k91 v1 v2 v3 v4 v5 v6 μ = some (zOut X) → zAW X 91 [some (.ref 60), some (.int v1), some (.int v2), some (.int v3), some (.int v4), some (.int v5), some (.int v6), none, none, none] [] μ) : ∀ (n : Nat) (v1 : Int32) (v2 : Int32) (v3 : Int32) (v4 : Int32) (v5 : Int32) (v6 : Int32) (v7 : Int32) (v8 : Int32) (v9 : Int32) (μ : zMem), fX12_space_108 F k91 n v1 v2 v3 v4 v5 v6 v7 v8 v9 μ = some (zOut X) → zAW X 108 [some (.ref 60), some (.int v1), some (.int v2), some (.int v3), some (.int v4), some (.int v5), some (.int v6), some (.int v7), some (.int v8), some (.int v9)] [] μ := by
  intro n
  induction n with
  | zero =>
    intro v1 v2 v3 v4 v5 v6 v7 v8 v9 μ hf
    rw [fX12_space_108] at hf
    cases hf
  | succ n ih =>
    intro v1 v2 v3 v4 v5 v6 v7 v8 v9 μ hf
    rw [fX12_space_108] at hf
    refine zs_il hC dX12_space_108 rfl ?_
    refine zs_il hC dX12_space_110 rfl ?_
    refine zs_ic_ge hC dX12_space_111 (fun _ hf => ?_) (fun _ hf => ?_) hf
    · refine zs_il hC dX12_space_161 rfl ?_
      refine zs_il hC dX12_space_163 rfl ?_
      refine zs_ic_gt hC dX12_space_164 (fun _ hf => ?_) (fun _ hf => ?_) hf
      · refine zs_iinc (nI 1) hC dX12_space_185 (by decide) rfl (by decide) rfl ?_
        refine zs_goto hC dX12_space_188 ?_
        exact zAW.weak (hk91 _ _ _ _ _ _ _ hf) (zLw_s (zLw_s (zLw_s (zLw_s (zLw_s (zLw_s (zLw_s (zLw_n (zLw_n (zLw_n zLw_0))))))))))
      · refine zs_il hC dX12_space_167 rfl ?_
        refine zs_il hC dX12_space_169 rfl ?_
        refine zs_ic_gt hC dX12_space_171 (fun _ hf => ?_) (fun _ hf => ?_) hf
        · refine zs_il hC dX12_space_177 rfl ?_
          refine zs_is hC dX12_space_179 (by decide) rfl ?_
          refine zs_il hC dX12_space_181 rfl ?_
          refine zs_is hC dX12_space_183 (by decide) rfl ?_
          refine zs_iinc (nI 1) hC dX12_space_185 (by decide) rfl (by decide) rfl ?_
          refine zs_goto hC dX12_space_188 ?_
          exact zAW.weak (hk91 _ _ _ _ _ _ _ hf) (zLw_s (zLw_s (zLw_s (zLw_s (zLw_s (zLw_s (zLw_s (zLw_n (zLw_n (zLw_n zLw_0))))))))))
        · refine zs_goto hC dX12_space_174 ?_
          refine zs_iinc (nI 1) hC dX12_space_185 (by decide) rfl (by decide) rfl ?_
          refine zs_goto hC dX12_space_188 ?_
          exact zAW.weak (hk91 _ _ _ _ _ _ _ hf) (zLw_s (zLw_s (zLw_s (zLw_s (zLw_s (zLw_s (zLw_s (zLw_n (zLw_n (zLw_n zLw_0))))))))))
    · refine zs_il hC dX12_space_114 rfl ?_
      refine zs_il hC dX12_space_116 rfl ?_
      refine zs_callS [.int v6, .int v9] hC cw_X12_has cl_RX12_268 (by decide) rfl rfl (Nat.le_of_ble_eq_true rfl) dX12_space_118 (fun _ h => ctX12_has h) (fun r1 m1 _ hf => ?_) hf
      show zAW X 121 _ (.int r1 :: _) m1
      refine zs_if_ne hC dX12_space_121 (fun _ hf => ?_) (fun _ hf => ?_) hf
      · refine zs_goto hC dX12_space_124 ?_
        refine zs_iinc (nI 1) hC dX12_space_155 (by decide) rfl (by decide) rfl ?_
        refine zs_goto hC dX12_space_158 ?_
        exact zAW.weak (ih _ _ _ _ _ _ _ _ _ _ hf) (zLw_s (zLw_s (zLw_s (zLw_s (zLw_s (zLw_s (zLw_s (zLw_s (zLw_s (zLw_s zLw_0))))))))))
      · refine zs_il hC dX12_space_127 rfl ?_
        refine zs_al hC dX12_space_129 rfl ?_
        refine zs_k hC dX12_space_130 ?_
        refine zs_il hC dX12_space_131 rfl ?_
        refine zs_imul hC dX12_space_133 ?_
        refine zs_callV [.int ((nI 2) * v9)] hC cw_X12_octet cl_RX12_339 zL60 rfl (by decide) rfl rfl (Nat.le_of_ble_eq_true rfl) dX12_space_134 (fun _ h => ctX12_octet h) (fun r2 m2 _ hf => ?_) hf
        show zAW X 137 _ (.int r2 :: _) m2
        refine zs_iadd hC dX12_space_137 ?_
        refine zs_is hC dX12_space_138 (by decide) rfl ?_
        refine zs_il hC dX12_space_140 rfl ?_
        refine zs_al hC dX12_space_142 rfl ?_
        refine zs_k hC dX12_space_143 ?_
        refine zs_il hC dX12_space_144 rfl ?_
        refine zs_imul hC dX12_space_146 ?_
        refine zs_k hC dX12_space_147 ?_
        refine zs_iadd hC dX12_space_148 ?_
        refine zs_callV [.int (((nI 2) * v9) + (nI 1))] hC cw_X12_octet cl_RX12_339 zL60 rfl (by decide) rfl rfl (Nat.le_of_ble_eq_true rfl) dX12_space_149 (fun _ h => ctX12_octet h) (fun r3 m3 _ hf => ?_) hf
        show zAW X 152 _ (.int r3 :: _) m3
        refine zs_iadd hC dX12_space_152 ?_
        refine zs_is hC dX12_space_153 (by decide) rfl ?_
        refine zs_iinc (nI 1) hC dX12_space_155 (by decide) rfl (by decide) rfl ?_
        refine zs_goto hC dX12_space_158 ?_
        exact zAW.weak (ih _ _ _ _ _ _ _ _ _ _ hf) (zLw_s (zLw_s (zLw_s (zLw_s (zLw_s (zLw_s (zLw_s (zLw_s (zLw_s (zLw_s zLw_0))))))))))
set_option maxRecDepth 20000 in
set_option maxHeartbeats 4000000 in
theorem wX12_space_91 {X : zX} {F : Nat} (hC : zCx X RX12 cX12_space 10 1) (hret : zRt X (some .int)) : ∀ (n : Nat) (v1 : Int32) (v2 : Int32) (v3 : Int32) (v4 : Int32) (v5 : Int32) (v6 : Int32) (μ : zMem), fX12_space_91 F n v1 v2 v3 v4 v5 v6 μ = some (zOut X) → zAW X 91 [some (.ref 60), some (.int v1), some (.int v2), some (.int v3), some (.int v4), some (.int v5), some (.int v6), none, none, none] [] μ := by
  intro n
  induction n with
  | zero =>
    intro v1 v2 v3 v4 v5 v6 μ hf
    rw [fX12_space_91] at hf
    cases hf
  | succ n ih =>
    intro v1 v2 v3 v4 v5 v6 μ hf
    rw [fX12_space_91] at hf
    refine zs_il hC dX12_space_91 rfl ?_
    refine zs_k hC dX12_space_93 ?_
    refine zs_il hC dX12_space_94 rfl ?_
    refine zs_ishl hC dX12_space_95 ?_
    refine zs_ic_ge hC dX12_space_96 (fun _ hf => ?_) (fun _ hf => ?_) hf
    · refine zs_il hC dX12_space_191 rfl ?_
      refine zs_if_ne hC dX12_space_192 (fun _ hf => ?_) (fun _ hf => ?_) hf
      · refine zs_il hC dX12_space_195 rfl ?_
        refine zs_goto hC dX12_space_197 ?_
        exact zs_iret hC hret dX12_space_202 hf
      · refine zs_il hC dX12_space_200 rfl ?_
        exact zs_iret hC hret dX12_space_202 hf
    · refine zs_k hC dX12_space_99 ?_
      refine zs_is hC dX12_space_100 (by decide) rfl ?_
      refine zs_k hC dX12_space_102 ?_
      refine zs_is hC dX12_space_103 (by decide) rfl ?_
      refine zs_k hC dX12_space_105 ?_
      refine zs_is hC dX12_space_106 (by decide) rfl ?_
      exact zAW.weak (wX12_space_108 hC hret (ih) F _ _ _ _ _ _ _ _ _ _ hf) (zLw_s (zLw_s (zLw_s (zLw_s (zLw_s (zLw_s (zLw_s (zLw_s (zLw_s (zLw_s zLw_0))))))))))
set_option maxRecDepth 20000 in
set_option maxHeartbeats 4000000 in
theorem wX12_space_50 {X : zX} {F : Nat} (hC : zCx X RX12 cX12_space 10 1) (hret : zRt X (some .int)) : ∀ (n : Nat) (v1 : Int32) (v2 : Int32) (v3 : Int32) (v4 : Int32) (μ : zMem), fX12_space_50 F n v1 v2 v3 v4 μ = some (zOut X) → zAW X 50 [some (.ref 60), some (.int v1), some (.int v2), some (.int v3), some (.int v4), none, none, none, none, none] [] μ := by
  intro n
  induction n with
  | zero =>
    intro v1 v2 v3 v4 μ hf
    rw [fX12_space_50] at hf
    cases hf
  | succ n ih =>
    intro v1 v2 v3 v4 μ hf
    rw [fX12_space_50] at hf
    refine zs_il hC dX12_space_50 rfl ?_
    refine zs_il hC dX12_space_52 rfl ?_
    refine zs_ic_ge hC dX12_space_53 (fun _ hf => ?_) (fun _ hf => ?_) hf
    · refine zs_k hC dX12_space_82 ?_
      refine zs_is hC dX12_space_83 (by decide) rfl ?_
      refine zs_k hC dX12_space_85 ?_
      refine zs_is hC dX12_space_86 (by decide) rfl ?_
      refine zs_k hC dX12_space_88 ?_
      refine zs_is hC dX12_space_89 (by decide) rfl ?_
      exact zAW.weak (wX12_space_91 hC hret F _ _ _ _ _ _ _ hf) (zLw_s (zLw_s (zLw_s (zLw_s (zLw_s (zLw_s (zLw_s (zLw_n (zLw_n (zLw_n zLw_0))))))))))
    · refine zs_al hC dX12_space_56 rfl ?_
      refine zs_k hC dX12_space_57 ?_
      refine zs_il hC dX12_space_58 rfl ?_
      refine zs_imul hC dX12_space_60 ?_
      refine zs_callV [.int ((nI 2) * v4)] hC cw_X12_octet cl_RX12_339 zL60 rfl (by decide) rfl rfl (Nat.le_of_ble_eq_true rfl) dX12_space_61 (fun _ h => ctX12_octet h) (fun r1 m1 _ hf => ?_) hf
      show zAW X 64 _ (.int r1 :: _) m1
      refine zs_k hC dX12_space_64 ?_
      refine zs_k hC dX12_space_65 ?_
      refine zs_callS [.int r1, .int (nI 1), .int (nI 60)] hC cw_X12_in cl_RX12_96 (by decide) rfl rfl (Nat.le_of_ble_eq_true rfl) dX12_space_67 (fun _ h => ctX12_in h) (fun r2 m2 _ hf => ?_) hf
      show zAW X 70 _ (.int r2 :: _) m2
      refine zs_if_ne hC dX12_space_70 (fun _ hf => ?_) (fun _ hf => ?_) hf
      · refine zs_k hC dX12_space_73 ?_
        exact zs_iret hC hret dX12_space_75 hf
      · refine zs_iinc (nI 1) hC dX12_space_76 (by decide) rfl (by decide) rfl ?_
        refine zs_goto hC dX12_space_79 ?_
        exact zAW.weak (ih _ _ _ _ _ hf) (zLw_s (zLw_s (zLw_s (zLw_s (zLw_s (zLw_n (zLw_n (zLw_n (zLw_n (zLw_n zLw_0))))))))))
set_option maxRecDepth 20000 in
set_option maxHeartbeats 4000000 in
theorem wX12_space {X : zX} {F : Nat} (hC : zCx X RX12 cX12_space 10 1) (hret : zRt X (some .int)) {v1 : Int32} {v2 : Int32} {v3 : Int32} {μ : zMem} (hf : fX12_space F v1 v2 v3 μ = some (zOut X)) : zAW X 0 [some (.ref 60), some (.int v1), some (.int v2), some (.int v3), none, none, none, none, none, none] [] μ := by
  unfold fX12_space at hf
  refine zs_il hC dX12_space_0 rfl ?_
  refine zs_k hC dX12_space_1 ?_
  refine zs_k hC dX12_space_2 ?_
  refine zs_callS [.int v1, .int (nI 1), .int (nI 10)] hC cw_X12_in cl_RX12_96 (by decide) rfl rfl (Nat.le_of_ble_eq_true rfl) dX12_space_4 (fun _ h => ctX12_in h) (fun r1 m1 _ hf => ?_) hf
  show zAW X 7 _ (.int r1 :: _) m1
  refine zs_if_eq hC dX12_space_7 (fun _ hf => ?_) (fun _ hf => ?_) hf
  · refine zs_k hC dX12_space_40 ?_
    exact zs_iret hC hret dX12_space_41 hf
  · refine zs_il hC dX12_space_10 rfl ?_
    refine zs_k hC dX12_space_11 ?_
    refine zs_k hC dX12_space_12 ?_
    refine zs_callS [.int v2, .int (nI 0), .int (nI 255)] hC cw_X12_in cl_RX12_96 (by decide) rfl rfl (Nat.le_of_ble_eq_true rfl) dX12_space_15 (fun _ h => ctX12_in h) (fun r2 m2 _ hf => ?_) hf
    show zAW X 18 _ (.int r2 :: _) m2
    refine zs_if_eq hC dX12_space_18 (fun _ hf => ?_) (fun _ hf => ?_) hf
    · refine zs_k hC dX12_space_40 ?_
      exact zs_iret hC hret dX12_space_41 hf
    · refine zs_il hC dX12_space_21 rfl ?_
      refine zs_k hC dX12_space_22 ?_
      refine zs_k hC dX12_space_23 ?_
      refine zs_callS [.int v3, .int (nI 0), .int (nI 1)] hC cw_X12_in cl_RX12_96 (by decide) rfl rfl (Nat.le_of_ble_eq_true rfl) dX12_space_24 (fun _ h => ctX12_in h) (fun r3 m3 _ hf => ?_) hf
      show zAW X 27 _ (.int r3 :: _) m3
      refine zs_if_eq hC dX12_space_27 (fun _ hf => ?_) (fun _ hf => ?_) hf
      · refine zs_k hC dX12_space_40 ?_
        exact zs_iret hC hret dX12_space_41 hf
      · refine zs_k hC dX12_space_30 ?_
        refine zs_il hC dX12_space_31 rfl ?_
        refine zs_imul hC dX12_space_32 ?_
        refine zs_al hC dX12_space_33 rfl ?_
        refine zs_getI hC fl_RX12_105 zL60 rfl dX12_space_34 ?_
        refine zs_ic_le hC dX12_space_37 (fun _ hf => ?_) (fun _ hf => ?_) hf
        · refine zs_al hC dX12_space_42 rfl ?_
          refine zs_k hC dX12_space_43 ?_
          refine zs_putI hC fl_RX12_105 fp_12_9 zL60 rfl dX12_space_44 ?_
          refine zs_let (fun m5 _ hf => ?_) hf
          refine zs_k hC dX12_space_47 ?_
          refine zs_is hC dX12_space_48 (by decide) rfl ?_
          exact zAW.weak (wX12_space_50 hC hret F _ _ _ _ _ hf) (zLw_s (zLw_s (zLw_s (zLw_s (zLw_s (zLw_n (zLw_n (zLw_n (zLw_n (zLw_n zLw_0))))))))))
        · refine zs_k hC dX12_space_40 ?_
          exact zs_iret hC hret dX12_space_41 hf
set_option maxRecDepth 20000 in
set_option maxHeartbeats 4000000 in
theorem ctX12_space {E : zEV} {F : Nat} {v1 : Int32} {v2 : Int32} {v3 : Int32} {μ : zMem} {out : zR} (hf : fX12_space F v1 v2 v3 μ = some out) : zCt E yX12_space cX12_space 10 (some .int) 1 [.ref 60, .int v1, .int v2, .int v3] μ out :=
  zCt.of [some (.ref 60), some (.int v1), some (.int v2), some (.int v3), none, none, none, none, none, none] (by decide +kernel) (Nat.le_of_ble_eq_true rfl) (zLw_s (zLw_s (zLw_s (zLw_s (zLw_e (zLw_e (zLw_e (zLw_e (zLw_e (zLw_e zLw_0)))))))))) rfl (fun X hE ho hr hC => by
    subst hE; subst ho
    exact wX12_space hC hr hf)
/-! X12_style -/
def fX12_style_60 (F : Nat) (k48 : Int32 → Int32 → Int32 → Int32 → Int32 → zMem → Option zR) : Nat → Int32 → Int32 → Int32 → Int32 → Int32 → Int32 → Int32 → zMem → Option zR
  | 0, _, _, _, _, _, _, _, _ => none
  | n + 1, v1, v2, v3, v4, v5, v6, v7, μ => if (nI 4) ≤ v7 then if v6 < v4 then k48 v1 v2 v5 v6 (v5 + (nI 1)) μ else k48 v1 v2 v3 v4 (v5 + (nI 1)) μ else zBd (fX12_octet F (((nI 4) * v5) + v7) μ) (fun r1 m1 => zBd (fX12_octet F (((nI 4) * v1) + v7) m1) (fun r2 m2 => zBd (fX12_size F (r1 - r2) m2) (fun r3 m3 => fX12_style_60 F k48 n v1 v2 v3 v4 v5 (v6 + r3) (v7 + (nI 1)) m3)))
def fX12_style_48 (F : Nat) : Nat → Int32 → Int32 → Int32 → Int32 → Int32 → zMem → Option zR
  | 0, _, _, _, _, _, _ => none
  | n + 1, v1, v2, v3, v4, v5, μ => if v1 ≤ v5 then if v2 = 0 then some (v3, μ) else some (v4, μ) else fX12_style_60 F (fX12_style_48 F n) F v1 v2 v3 v4 v5 (nI 0) (nI 0) μ
def fX12_style (F : Nat) (v1 : Int32) (v2 : Int32) (μ : zMem) : Option zR :=
  zBd (fX12_in F v1 (nI 2) (nI 6) μ) (fun r1 m1 => if r1 = 0 then some ((-1 : Int32), m1) else zBd (fX12_in F v2 (nI 0) (nI 1) m1) (fun r2 m2 => if r2 = 0 then some ((-1 : Int32), m2) else if (((nI 4) * v1) + (nI 4)) ≤ (m2 60 9) then zLt (zUp m2 60 9 (nI 0)) (fun m4 => fX12_style_48 F F v1 v2 (nI 0) (nI 1000000) (nI 0) m4) else some ((-1 : Int32), m2)))
set_option maxRecDepth 20000 in
set_option maxHeartbeats 4000000 in
theorem wX12_style_60 {X : zX} {F : Nat} (hC : zCx X RX12 cX12_style 8 1) (hret : zRt X (some .int)) {k48 : Int32 → Int32 → Int32 → Int32 → Int32 → zMem → Option zR} (hk48 : ∀ v1 v2 v3 v4 v5 μ, k48 v1 v2 v3 v4 v5 μ = some (zOut X) → zAW X 48 [some (.ref 60), some (.int v1), some (.int v2), some (.int v3), some (.int v4), some (.int v5), none, none] [] μ) : ∀ (n : Nat) (v1 : Int32) (v2 : Int32) (v3 : Int32) (v4 : Int32) (v5 : Int32) (v6 : Int32) (v7 : Int32) (μ : zMem), fX12_style_60 F k48 n v1 v2 v3 v4 v5 v6 v7 μ = some (zOut X) → zAW X 60 [some (.ref 60), some (.int v1), some (.int v2), some (.int v3), some (.int v4), some (.int v5), some (.int v6), some (.int v7)] [] μ := by
  intro n
  induction n with
  | zero =>
    intro v1 v2 v3 v4 v5 v6 v7 μ hf
    rw [fX12_style_60] at hf
    cases hf
  | succ n ih =>
    intro v1 v2 v3 v4 v5 v6 v7 μ hf
    rw [fX12_style_60] at hf
    refine zs_il hC dX12_style_60 rfl ?_
    refine zs_k hC dX12_style_62 ?_
    refine zs_ic_ge hC dX12_style_63 (fun _ hf => ?_) (fun _ hf => ?_) hf
    · refine zs_il hC dX12_style_102 rfl ?_
      refine zs_il hC dX12_style_104 rfl ?_
      refine zs_ic_lt hC dX12_style_106 (fun _ hf => ?_) (fun _ hf => ?_) hf
      · refine zs_il hC dX12_style_112 rfl ?_
        refine zs_is hC dX12_style_114 (by decide) rfl ?_
        refine zs_il hC dX12_style_116 rfl ?_
        refine zs_is hC dX12_style_118 (by decide) rfl ?_
        refine zs_iinc (nI 1) hC dX12_style_119 (by decide) rfl (by decide) rfl ?_
        refine zs_goto hC dX12_style_122 ?_
        exact zAW.weak (hk48 _ _ _ _ _ _ hf) (zLw_s (zLw_s (zLw_s (zLw_s (zLw_s (zLw_s (zLw_n (zLw_n zLw_0))))))))
      · refine zs_goto hC dX12_style_109 ?_
        refine zs_iinc (nI 1) hC dX12_style_119 (by decide) rfl (by decide) rfl ?_
        refine zs_goto hC dX12_style_122 ?_
        exact zAW.weak (hk48 _ _ _ _ _ _ hf) (zLw_s (zLw_s (zLw_s (zLw_s (zLw_s (zLw_s (zLw_n (zLw_n zLw_0))))))))
    · refine zs_il hC dX12_style_66 rfl ?_
      refine zs_al hC dX12_style_68 rfl ?_
      refine zs_k hC dX12_style_69 ?_
      refine zs_il hC dX12_style_70 rfl ?_
      refine zs_imul hC dX12_style_72 ?_
      refine zs_il hC dX12_style_73 rfl ?_
      refine zs_iadd hC dX12_style_75 ?_
      refine zs_callV [.int (((nI 4) * v5) + v7)] hC cw_X12_octet cl_RX12_339 zL60 rfl (by decide) rfl rfl (Nat.le_of_ble_eq_true rfl) dX12_style_76 (fun _ h => ctX12_octet h) (fun r1 m1 _ hf => ?_) hf
      show zAW X 79 _ (.int r1 :: _) m1
      refine zs_al hC dX12_style_79 rfl ?_
      refine zs_k hC dX12_style_80 ?_
      refine zs_il hC dX12_style_81 rfl ?_
      refine zs_imul hC dX12_style_82 ?_
      refine zs_il hC dX12_style_83 rfl ?_
      refine zs_iadd hC dX12_style_85 ?_
      refine zs_callV [.int (((nI 4) * v1) + v7)] hC cw_X12_octet cl_RX12_339 zL60 rfl (by decide) rfl rfl (Nat.le_of_ble_eq_true rfl) dX12_style_86 (fun _ h => ctX12_octet h) (fun r2 m2 _ hf => ?_) hf
      show zAW X 89 _ (.int r2 :: _) m2
      refine zs_isub hC dX12_style_89 ?_
      refine zs_callS [.int (r1 - r2)] hC cw_X12_size cl_RX12_342 (by decide) rfl rfl (Nat.le_of_ble_eq_true rfl) dX12_style_90 (fun _ h => ctX12_size h) (fun r3 m3 _ hf => ?_) hf
      show zAW X 93 _ (.int r3 :: _) m3
      refine zs_iadd hC dX12_style_93 ?_
      refine zs_is hC dX12_style_94 (by decide) rfl ?_
      refine zs_iinc (nI 1) hC dX12_style_96 (by decide) rfl (by decide) rfl ?_
      refine zs_goto hC dX12_style_99 ?_
      exact zAW.weak (ih _ _ _ _ _ _ _ _ hf) (zLw_s (zLw_s (zLw_s (zLw_s (zLw_s (zLw_s (zLw_s (zLw_s zLw_0))))))))
set_option maxRecDepth 20000 in
set_option maxHeartbeats 4000000 in
theorem wX12_style_48 {X : zX} {F : Nat} (hC : zCx X RX12 cX12_style 8 1) (hret : zRt X (some .int)) : ∀ (n : Nat) (v1 : Int32) (v2 : Int32) (v3 : Int32) (v4 : Int32) (v5 : Int32) (μ : zMem), fX12_style_48 F n v1 v2 v3 v4 v5 μ = some (zOut X) → zAW X 48 [some (.ref 60), some (.int v1), some (.int v2), some (.int v3), some (.int v4), some (.int v5), none, none] [] μ := by
  intro n
  induction n with
  | zero =>
    intro v1 v2 v3 v4 v5 μ hf
    rw [fX12_style_48] at hf
    cases hf
  | succ n ih =>
    intro v1 v2 v3 v4 v5 μ hf
    rw [fX12_style_48] at hf
    refine zs_il hC dX12_style_48 rfl ?_
    refine zs_il hC dX12_style_50 rfl ?_
    refine zs_ic_ge hC dX12_style_51 (fun _ hf => ?_) (fun _ hf => ?_) hf
    · refine zs_il hC dX12_style_125 rfl ?_
      refine zs_if_ne hC dX12_style_126 (fun _ hf => ?_) (fun _ hf => ?_) hf
      · refine zs_il hC dX12_style_129 rfl ?_
        refine zs_goto hC dX12_style_130 ?_
        exact zs_iret hC hret dX12_style_135 hf
      · refine zs_il hC dX12_style_133 rfl ?_
        exact zs_iret hC hret dX12_style_135 hf
    · refine zs_k hC dX12_style_54 ?_
      refine zs_is hC dX12_style_55 (by decide) rfl ?_
      refine zs_k hC dX12_style_57 ?_
      refine zs_is hC dX12_style_58 (by decide) rfl ?_
      exact zAW.weak (wX12_style_60 hC hret (ih) F _ _ _ _ _ _ _ _ hf) (zLw_s (zLw_s (zLw_s (zLw_s (zLw_s (zLw_s (zLw_s (zLw_s zLw_0))))))))
set_option maxRecDepth 20000 in
set_option maxHeartbeats 4000000 in
theorem wX12_style {X : zX} {F : Nat} (hC : zCx X RX12 cX12_style 8 1) (hret : zRt X (some .int)) {v1 : Int32} {v2 : Int32} {μ : zMem} (hf : fX12_style F v1 v2 μ = some (zOut X)) : zAW X 0 [some (.ref 60), some (.int v1), some (.int v2), none, none, none, none, none] [] μ := by
  unfold fX12_style at hf
  refine zs_il hC dX12_style_0 rfl ?_
  refine zs_k hC dX12_style_1 ?_
  refine zs_k hC dX12_style_2 ?_
  refine zs_callS [.int v1, .int (nI 2), .int (nI 6)] hC cw_X12_in cl_RX12_96 (by decide) rfl rfl (Nat.le_of_ble_eq_true rfl) dX12_style_4 (fun _ h => ctX12_in h) (fun r1 m1 _ hf => ?_) hf
  show zAW X 7 _ (.int r1 :: _) m1
  refine zs_if_eq hC dX12_style_7 (fun _ hf => ?_) (fun _ hf => ?_) hf
  · refine zs_k hC dX12_style_31 ?_
    exact zs_iret hC hret dX12_style_32 hf
  · refine zs_il hC dX12_style_10 rfl ?_
    refine zs_k hC dX12_style_11 ?_
    refine zs_k hC dX12_style_12 ?_
    refine zs_callS [.int v2, .int (nI 0), .int (nI 1)] hC cw_X12_in cl_RX12_96 (by decide) rfl rfl (Nat.le_of_ble_eq_true rfl) dX12_style_13 (fun _ h => ctX12_in h) (fun r2 m2 _ hf => ?_) hf
    show zAW X 16 _ (.int r2 :: _) m2
    refine zs_if_eq hC dX12_style_16 (fun _ hf => ?_) (fun _ hf => ?_) hf
    · refine zs_k hC dX12_style_31 ?_
      exact zs_iret hC hret dX12_style_32 hf
    · refine zs_k hC dX12_style_19 ?_
      refine zs_il hC dX12_style_20 rfl ?_
      refine zs_imul hC dX12_style_21 ?_
      refine zs_k hC dX12_style_22 ?_
      refine zs_iadd hC dX12_style_23 ?_
      refine zs_al hC dX12_style_24 rfl ?_
      refine zs_getI hC fl_RX12_105 zL60 rfl dX12_style_25 ?_
      refine zs_ic_le hC dX12_style_28 (fun _ hf => ?_) (fun _ hf => ?_) hf
      · refine zs_al hC dX12_style_33 rfl ?_
        refine zs_k hC dX12_style_34 ?_
        refine zs_putI hC fl_RX12_105 fp_12_9 zL60 rfl dX12_style_35 ?_
        refine zs_let (fun m4 _ hf => ?_) hf
        refine zs_k hC dX12_style_38 ?_
        refine zs_is hC dX12_style_39 (by decide) rfl ?_
        refine zs_ldcw hC kc_RX12_335 dX12_style_40 ?_
        refine zs_is hC dX12_style_43 (by decide) rfl ?_
        refine zs_k hC dX12_style_45 ?_
        refine zs_is hC dX12_style_46 (by decide) rfl ?_
        exact zAW.weak (wX12_style_48 hC hret F _ _ _ _ _ _ hf) (zLw_s (zLw_s (zLw_s (zLw_s (zLw_s (zLw_s (zLw_n (zLw_n zLw_0))))))))
      · refine zs_k hC dX12_style_31 ?_
        exact zs_iret hC hret dX12_style_32 hf
set_option maxRecDepth 20000 in
set_option maxHeartbeats 4000000 in
theorem ctX12_style {E : zEV} {F : Nat} {v1 : Int32} {v2 : Int32} {μ : zMem} {out : zR} (hf : fX12_style F v1 v2 μ = some out) : zCt E yX12_style cX12_style 8 (some .int) 1 [.ref 60, .int v1, .int v2] μ out :=
  zCt.of [some (.ref 60), some (.int v1), some (.int v2), none, none, none, none, none] (by decide +kernel) (Nat.le_of_ble_eq_true rfl) (zLw_s (zLw_s (zLw_s (zLw_e (zLw_e (zLw_e (zLw_e (zLw_e zLw_0)))))))) rfl (fun X hE ho hr hC => by
    subst hE; subst ho
    exact wX12_style hC hr hf)
/-! X12_names -/
def fX12_names_265 (F : Nat) (k39 : Int32 → Int32 → Int32 → zMem → Option zR) (k47 : Int32 → Int32 → Int32 → Int32 → zMem → Option zR) (v1 : Int32) (v2 : Int32) (v3 : Int32) (v4 : Int32) (v5 : Int32) (μ : zMem) : Option zR :=
  zG (((nI 13) * v3) + v4) 169 (zLt (zUp μ 87 (((nI 13) * v3) + v4).toNatClampNeg v5) (fun m2 => k47 v1 v2 v3 (v4 + (nI 1)) m2))
def fX12_names_233 (F : Nat) (k39 : Int32 → Int32 → Int32 → zMem → Option zR) (k47 : Int32 → Int32 → Int32 → Int32 → zMem → Option zR) (v1 : Int32) (v2 : Int32) (v3 : Int32) (v4 : Int32) (v5 : Int32) (s0 : Int32) (μ : zMem) : Option zR :=
  if s0 = 0 then fX12_names_265 F k39 k47 v1 v2 v3 v4 v5 μ else zG ((((nI 13) * (v3 - (nI 2))) + v4) - (nI 2)) 169 (zBd (fX12_min F v5 ((μ 87 ((((nI 13) * (v3 - (nI 2))) + v4) - (nI 2)).toNatClampNeg) + (nI 1)) μ) (fun r2 m2 => fX12_names_265 F k39 k47 v1 v2 v3 v4 r2 m2))
def fX12_names_232 (F : Nat) (k39 : Int32 → Int32 → Int32 → zMem → Option zR) (k47 : Int32 → Int32 → Int32 → Int32 → zMem → Option zR) (v1 : Int32) (v2 : Int32) (v3 : Int32) (v4 : Int32) (v5 : Int32) (μ : zMem) : Option zR :=
  fX12_names_233 F k39 k47 v1 v2 v3 v4 v5 (nI 0) μ
def fX12_names_138 (F : Nat) (k39 : Int32 → Int32 → Int32 → zMem → Option zR) (k47 : Int32 → Int32 → Int32 → Int32 → zMem → Option zR) (v1 : Int32) (v2 : Int32) (v3 : Int32) (v4 : Int32) (s0 : Int32) (s1 : Int32) (μ : zMem) : Option zR :=
  zG (((nI 13) * (v3 - (nI 1))) + v4) 169 (zG ((((nI 13) * v3) + v4) - (nI 1)) 169 (zBd (fX12_min F (μ 87 (((nI 13) * (v3 - (nI 1))) + v4).toNatClampNeg) (μ 87 ((((nI 13) * v3) + v4) - (nI 1)).toNatClampNeg) μ) (fun r3 m3 => zBd (fX12_min F (s1 + s0) ((nI 1) + r3) m3) (fun r4 m4 => if v3 ≤ (nI 1) then fX12_names_232 F k39 k47 v1 v2 v3 v4 r4 m4 else if v4 ≤ (nI 1) then fX12_names_232 F k39 k47 v1 v2 v3 v4 r4 m4 else zBd (fX12_octet F (v3 - (nI 1)) m4) (fun r5 m5 => zBd (fX12_octet F ((v1 + v4) - (nI 2)) m5) (fun r6 m6 => if r5 = r6 then zBd (fX12_octet F (v3 - (nI 2)) m6) (fun r7 m7 => zBd (fX12_octet F ((v1 + v4) - (nI 1)) m7) (fun r8 m8 => if r7 = r8 then fX12_names_233 F k39 k47 v1 v2 v3 v4 r4 (nI 1) m8 else fX12_names_232 F k39 k47 v1 v2 v3 v4 r4 m8)) else fX12_names_232 F k39 k47 v1 v2 v3 v4 r4 m6))))))
def fX12_names_110 (F : Nat) (k39 : Int32 → Int32 → Int32 → zMem → Option zR) (k47 : Int32 → Int32 → Int32 → Int32 → zMem → Option zR) (v1 : Int32) (v2 : Int32) (v3 : Int32) (v4 : Int32) (s0 : Int32) (μ : zMem) : Option zR :=
  zG ((((nI 13) * (v3 - (nI 1))) + v4) - (nI 1)) 169 (if s0 = 0 then fX12_names_138 F k39 k47 v1 v2 v3 v4 (nI 1) (μ 87 ((((nI 13) * (v3 - (nI 1))) + v4) - (nI 1)).toNatClampNeg) μ else fX12_names_138 F k39 k47 v1 v2 v3 v4 (nI 0) (μ 87 ((((nI 13) * (v3 - (nI 1))) + v4) - (nI 1)).toNatClampNeg) μ)
def fX12_names_74 (F : Nat) (k39 : Int32 → Int32 → Int32 → zMem → Option zR) (k47 : Int32 → Int32 → Int32 → Int32 → zMem → Option zR) (v1 : Int32) (v2 : Int32) (v3 : Int32) (v4 : Int32) (s0 : Int32) (μ : zMem) : Option zR :=
  if v3 ≤ 0 then fX12_names_265 F k39 k47 v1 v2 v3 v4 s0 μ else if v4 ≤ 0 then fX12_names_265 F k39 k47 v1 v2 v3 v4 s0 μ else zBd (fX12_octet F (v3 - (nI 1)) μ) (fun r1 m1 => zBd (fX12_octet F ((v1 + v4) - (nI 1)) m1) (fun r2 m2 => if r1 = r2 then fX12_names_110 F k39 k47 v1 v2 v3 v4 (nI 1) m2 else fX12_names_110 F k39 k47 v1 v2 v3 v4 (nI 0) m2))
def fX12_names_47 (F : Nat) (k39 : Int32 → Int32 → Int32 → zMem → Option zR) : Nat → Int32 → Int32 → Int32 → Int32 → zMem → Option zR
  | 0, _, _, _, _, _ => none
  | n + 1, v1, v2, v3, v4, μ => if v2 < v4 then k39 v1 v2 (v3 + (nI 1)) μ else if v3 = 0 then fX12_names_74 F k39 (fX12_names_47 F k39 n) v1 v2 v3 v4 v4 μ else if v4 = 0 then fX12_names_74 F k39 (fX12_names_47 F k39 n) v1 v2 v3 v4 v3 μ else fX12_names_74 F k39 (fX12_names_47 F k39 n) v1 v2 v3 v4 (nI 1000000) μ
def fX12_names_39 (F : Nat) : Nat → Int32 → Int32 → Int32 → zMem → Option zR
  | 0, _, _, _, _ => none
  | n + 1, v1, v2, v3, μ => if v1 < v3 then zG (((nI 13) * v1) + v2) 169 (some ((μ 87 (((nI 13) * v1) + v2).toNatClampNeg), μ)) else fX12_names_47 F (fX12_names_39 F n) F v1 v2 v3 (nI 0) μ
def fX12_names (F : Nat) (v1 : Int32) (v2 : Int32) (μ : zMem) : Option zR :=
  zBd (fX12_in F v1 (nI 1) (nI 12) μ) (fun r1 m1 => if r1 = 0 then some ((-1 : Int32), m1) else zBd (fX12_in F v2 (nI 1) (nI 12) m1) (fun r2 m2 => if r2 = 0 then some ((-1 : Int32), m2) else if (v1 + v2) ≤ (m2 60 9) then zLt (zUp m2 60 9 (nI 0)) (fun m4 => fX12_names_39 F F v1 v2 (nI 0) m4) else some ((-1 : Int32), m2)))
set_option maxRecDepth 20000 in
set_option maxHeartbeats 4000000 in
theorem wX12_names_265 {X : zX} {F : Nat} (hC : zCx X RX12 cX12_names 8 1) (hret : zRt X (some .int)) {k39 : Int32 → Int32 → Int32 → zMem → Option zR} (hk39 : ∀ v1 v2 v3 μ, k39 v1 v2 v3 μ = some (zOut X) → zAW X 39 [some (.ref 60), some (.int v1), some (.int v2), some (.int v3), none, none, none, none] [] μ) {k47 : Int32 → Int32 → Int32 → Int32 → zMem → Option zR} (hk47 : ∀ v1 v2 v3 v4 μ, k47 v1 v2 v3 v4 μ = some (zOut X) → zAW X 47 [some (.ref 60), some (.int v1), some (.int v2), some (.int v3), some (.int v4), none, none, none] [] μ) {v1 : Int32} {v2 : Int32} {v3 : Int32} {v4 : Int32} {v5 : Int32} {μ : zMem} (hf : fX12_names_265 F k39 k47 v1 v2 v3 v4 v5 μ = some (zOut X)) : zAW X 265 [some (.ref 60), some (.int v1), some (.int v2), some (.int v3), some (.int v4), some (.int v5), none, none] [] μ := by
  unfold fX12_names_265 at hf
  refine zs_al hC dX12_names_265 rfl ?_
  refine zs_getR 87 hC fl_RX12_90 zL60 rfl dX12_names_266 ?_
  refine zs_k hC dX12_names_269 ?_
  refine zs_il hC dX12_names_271 rfl ?_
  refine zs_imul hC dX12_names_272 ?_
  refine zs_il hC dX12_names_273 rfl ?_
  refine zs_iadd hC dX12_names_275 ?_
  refine zs_il hC dX12_names_276 rfl ?_
  refine zs_iast hC zL87 dX12_names_278 (fun _ hf => ?_) hf
  refine zs_let (fun m2 _ hf => ?_) hf
  refine zs_iinc (nI 1) hC dX12_names_279 (by decide) rfl (by decide) rfl ?_
  refine zs_goto hC dX12_names_282 ?_
  exact zAW.weak (hk47 _ _ _ _ _ hf) (zLw_s (zLw_s (zLw_s (zLw_s (zLw_s (zLw_n (zLw_n (zLw_n zLw_0))))))))
set_option maxRecDepth 20000 in
set_option maxHeartbeats 4000000 in
theorem wX12_names_233 {X : zX} {F : Nat} (hC : zCx X RX12 cX12_names 8 1) (hret : zRt X (some .int)) {k39 : Int32 → Int32 → Int32 → zMem → Option zR} (hk39 : ∀ v1 v2 v3 μ, k39 v1 v2 v3 μ = some (zOut X) → zAW X 39 [some (.ref 60), some (.int v1), some (.int v2), some (.int v3), none, none, none, none] [] μ) {k47 : Int32 → Int32 → Int32 → Int32 → zMem → Option zR} (hk47 : ∀ v1 v2 v3 v4 μ, k47 v1 v2 v3 v4 μ = some (zOut X) → zAW X 47 [some (.ref 60), some (.int v1), some (.int v2), some (.int v3), some (.int v4), none, none, none] [] μ) {v1 : Int32} {v2 : Int32} {v3 : Int32} {v4 : Int32} {v5 : Int32} {s0 : Int32} {μ : zMem} (hf : fX12_names_233 F k39 k47 v1 v2 v3 v4 v5 s0 μ = some (zOut X)) : zAW X 233 [some (.ref 60), some (.int v1), some (.int v2), some (.int v3), some (.int v4), some (.int v5), none, none] [.int s0] μ := by
  unfold fX12_names_233 at hf
  refine zs_is hC dX12_names_233 (by decide) rfl ?_
  refine zs_il hC dX12_names_235 rfl ?_
  refine zs_if_eq hC dX12_names_237 (fun _ hf => ?_) (fun _ hf => ?_) hf
  · exact zAW.weak (wX12_names_265 hC hret hk39 hk47 hf) (zLw_s (zLw_s (zLw_s (zLw_s (zLw_s (zLw_s (zLw_n (zLw_n zLw_0))))))))
  · refine zs_il hC dX12_names_240 rfl ?_
    refine zs_al hC dX12_names_242 rfl ?_
    refine zs_getR 87 hC fl_RX12_90 zL60 rfl dX12_names_243 ?_
    refine zs_k hC dX12_names_246 ?_
    refine zs_il hC dX12_names_248 rfl ?_
    refine zs_k hC dX12_names_249 ?_
    refine zs_isub hC dX12_names_250 ?_
    refine zs_imul hC dX12_names_251 ?_
    refine zs_il hC dX12_names_252 rfl ?_
    refine zs_iadd hC dX12_names_254 ?_
    refine zs_k hC dX12_names_255 ?_
    refine zs_isub hC dX12_names_256 ?_
    refine zs_iald hC zL87 dX12_names_257 (fun _ hf => ?_) hf
    refine zs_k hC dX12_names_258 ?_
    refine zs_iadd hC dX12_names_259 ?_
    refine zs_callS [.int v5, .int ((μ 87 ((((nI 13) * (v3 - (nI 2))) + v4) - (nI 2)).toNatClampNeg) + (nI 1))] hC cw_X12_min cl_RX12_271 (by decide) rfl rfl (Nat.le_of_ble_eq_true rfl) dX12_names_260 (fun _ h => ctX12_min h) (fun r2 m2 _ hf => ?_) hf
    show zAW X 263 _ (.int r2 :: _) m2
    refine zs_is hC dX12_names_263 (by decide) rfl ?_
    exact zAW.weak (wX12_names_265 hC hret hk39 hk47 hf) (zLw_s (zLw_s (zLw_s (zLw_s (zLw_s (zLw_s (zLw_n (zLw_n zLw_0))))))))
set_option maxRecDepth 20000 in
set_option maxHeartbeats 4000000 in
theorem wX12_names_232 {X : zX} {F : Nat} (hC : zCx X RX12 cX12_names 8 1) (hret : zRt X (some .int)) {k39 : Int32 → Int32 → Int32 → zMem → Option zR} (hk39 : ∀ v1 v2 v3 μ, k39 v1 v2 v3 μ = some (zOut X) → zAW X 39 [some (.ref 60), some (.int v1), some (.int v2), some (.int v3), none, none, none, none] [] μ) {k47 : Int32 → Int32 → Int32 → Int32 → zMem → Option zR} (hk47 : ∀ v1 v2 v3 v4 μ, k47 v1 v2 v3 v4 μ = some (zOut X) → zAW X 47 [some (.ref 60), some (.int v1), some (.int v2), some (.int v3), some (.int v4), none, none, none] [] μ) {v1 : Int32} {v2 : Int32} {v3 : Int32} {v4 : Int32} {v5 : Int32} {μ : zMem} (hf : fX12_names_232 F k39 k47 v1 v2 v3 v4 v5 μ = some (zOut X)) : zAW X 232 [some (.ref 60), some (.int v1), some (.int v2), some (.int v3), some (.int v4), some (.int v5), none, none] [] μ := by
  unfold fX12_names_232 at hf
  refine zs_k hC dX12_names_232 ?_
  exact zAW.weak (wX12_names_233 hC hret hk39 hk47 hf) (zLw_s (zLw_s (zLw_s (zLw_s (zLw_s (zLw_s (zLw_n (zLw_n zLw_0))))))))
set_option maxRecDepth 20000 in
set_option maxHeartbeats 4000000 in
theorem wX12_names_138 {X : zX} {F : Nat} (hC : zCx X RX12 cX12_names 8 1) (hret : zRt X (some .int)) {k39 : Int32 → Int32 → Int32 → zMem → Option zR} (hk39 : ∀ v1 v2 v3 μ, k39 v1 v2 v3 μ = some (zOut X) → zAW X 39 [some (.ref 60), some (.int v1), some (.int v2), some (.int v3), none, none, none, none] [] μ) {k47 : Int32 → Int32 → Int32 → Int32 → zMem → Option zR} (hk47 : ∀ v1 v2 v3 v4 μ, k47 v1 v2 v3 v4 μ = some (zOut X) → zAW X 47 [some (.ref 60), some (.int v1), some (.int v2), some (.int v3), some (.int v4), none, none, none] [] μ) {v1 : Int32} {v2 : Int32} {v3 : Int32} {v4 : Int32} {s0 : Int32} {s1 : Int32} {μ : zMem} (hf : fX12_names_138 F k39 k47 v1 v2 v3 v4 s0 s1 μ = some (zOut X)) : zAW X 138 [some (.ref 60), some (.int v1), some (.int v2), some (.int v3), some (.int v4), none, none, none] [.int s0, .int s1] μ := by
  unfold fX12_names_138 at hf
  refine zs_iadd hC dX12_names_138 ?_
  refine zs_k hC dX12_names_139 ?_
  refine zs_al hC dX12_names_140 rfl ?_
  refine zs_getR 87 hC fl_RX12_90 zL60 rfl dX12_names_141 ?_
  refine zs_k hC dX12_names_144 ?_
  refine zs_il hC dX12_names_146 rfl ?_
  refine zs_k hC dX12_names_147 ?_
  refine zs_isub hC dX12_names_148 ?_
  refine zs_imul hC dX12_names_149 ?_
  refine zs_il hC dX12_names_150 rfl ?_
  refine zs_iadd hC dX12_names_152 ?_
  refine zs_iald hC zL87 dX12_names_153 (fun _ hf => ?_) hf
  refine zs_al hC dX12_names_154 rfl ?_
  refine zs_getR 87 hC fl_RX12_90 zL60 rfl dX12_names_155 ?_
  refine zs_k hC dX12_names_158 ?_
  refine zs_il hC dX12_names_160 rfl ?_
  refine zs_imul hC dX12_names_161 ?_
  refine zs_il hC dX12_names_162 rfl ?_
  refine zs_iadd hC dX12_names_164 ?_
  refine zs_k hC dX12_names_165 ?_
  refine zs_isub hC dX12_names_166 ?_
  refine zs_iald hC zL87 dX12_names_167 (fun _ hf => ?_) hf
  refine zs_callS [.int (μ 87 (((nI 13) * (v3 - (nI 1))) + v4).toNatClampNeg), .int (μ 87 ((((nI 13) * v3) + v4) - (nI 1)).toNatClampNeg)] hC cw_X12_min cl_RX12_271 (by decide) rfl rfl (Nat.le_of_ble_eq_true rfl) dX12_names_168 (fun _ h => ctX12_min h) (fun r3 m3 _ hf => ?_) hf
  show zAW X 171 _ (.int r3 :: _) m3
  refine zs_iadd hC dX12_names_171 ?_
  refine zs_callS [.int (s1 + s0), .int ((nI 1) + r3)] hC cw_X12_min cl_RX12_271 (by decide) rfl rfl (Nat.le_of_ble_eq_true rfl) dX12_names_172 (fun _ h => ctX12_min h) (fun r4 m4 _ hf => ?_) hf
  show zAW X 175 _ (.int r4 :: _) m4
  refine zs_is hC dX12_names_175 (by decide) rfl ?_
  refine zs_il hC dX12_names_177 rfl ?_
  refine zs_k hC dX12_names_178 ?_
  refine zs_ic_le hC dX12_names_179 (fun _ hf => ?_) (fun _ hf => ?_) hf
  · exact zAW.weak (wX12_names_232 hC hret hk39 hk47 hf) (zLw_s (zLw_s (zLw_s (zLw_s (zLw_s (zLw_s (zLw_n (zLw_n zLw_0))))))))
  · refine zs_il hC dX12_names_182 rfl ?_
    refine zs_k hC dX12_names_184 ?_
    refine zs_ic_le hC dX12_names_185 (fun _ hf => ?_) (fun _ hf => ?_) hf
    · exact zAW.weak (wX12_names_232 hC hret hk39 hk47 hf) (zLw_s (zLw_s (zLw_s (zLw_s (zLw_s (zLw_s (zLw_n (zLw_n zLw_0))))))))
    · refine zs_al hC dX12_names_188 rfl ?_
      refine zs_il hC dX12_names_189 rfl ?_
      refine zs_k hC dX12_names_190 ?_
      refine zs_isub hC dX12_names_191 ?_
      refine zs_callV [.int (v3 - (nI 1))] hC cw_X12_octet cl_RX12_339 zL60 rfl (by decide) rfl rfl (Nat.le_of_ble_eq_true rfl) dX12_names_192 (fun _ h => ctX12_octet h) (fun r5 m5 _ hf => ?_) hf
      show zAW X 195 _ (.int r5 :: _) m5
      refine zs_al hC dX12_names_195 rfl ?_
      refine zs_il hC dX12_names_196 rfl ?_
      refine zs_il hC dX12_names_197 rfl ?_
      refine zs_iadd hC dX12_names_199 ?_
      refine zs_k hC dX12_names_200 ?_
      refine zs_isub hC dX12_names_201 ?_
      refine zs_callV [.int ((v1 + v4) - (nI 2))] hC cw_X12_octet cl_RX12_339 zL60 rfl (by decide) rfl rfl (Nat.le_of_ble_eq_true rfl) dX12_names_202 (fun _ h => ctX12_octet h) (fun r6 m6 _ hf => ?_) hf
      show zAW X 205 _ (.int r6 :: _) m6
      refine zs_ic_ne hC dX12_names_205 (fun _ hf => ?_) (fun _ hf => ?_) hf
      · refine zs_al hC dX12_names_208 rfl ?_
        refine zs_il hC dX12_names_209 rfl ?_
        refine zs_k hC dX12_names_210 ?_
        refine zs_isub hC dX12_names_211 ?_
        refine zs_callV [.int (v3 - (nI 2))] hC cw_X12_octet cl_RX12_339 zL60 rfl (by decide) rfl rfl (Nat.le_of_ble_eq_true rfl) dX12_names_212 (fun _ h => ctX12_octet h) (fun r7 m7 _ hf => ?_) hf
        show zAW X 215 _ (.int r7 :: _) m7
        refine zs_al hC dX12_names_215 rfl ?_
        refine zs_il hC dX12_names_216 rfl ?_
        refine zs_il hC dX12_names_217 rfl ?_
        refine zs_iadd hC dX12_names_219 ?_
        refine zs_k hC dX12_names_220 ?_
        refine zs_isub hC dX12_names_221 ?_
        refine zs_callV [.int ((v1 + v4) - (nI 1))] hC cw_X12_octet cl_RX12_339 zL60 rfl (by decide) rfl rfl (Nat.le_of_ble_eq_true rfl) dX12_names_222 (fun _ h => ctX12_octet h) (fun r8 m8 _ hf => ?_) hf
        show zAW X 225 _ (.int r8 :: _) m8
        refine zs_ic_ne hC dX12_names_225 (fun _ hf => ?_) (fun _ hf => ?_) hf
        · refine zs_k hC dX12_names_228 ?_
          refine zs_goto hC dX12_names_229 ?_
          exact zAW.weak (wX12_names_233 hC hret hk39 hk47 hf) (zLw_s (zLw_s (zLw_s (zLw_s (zLw_s (zLw_s (zLw_n (zLw_n zLw_0))))))))
        · exact zAW.weak (wX12_names_232 hC hret hk39 hk47 hf) (zLw_s (zLw_s (zLw_s (zLw_s (zLw_s (zLw_s (zLw_n (zLw_n zLw_0))))))))
      · exact zAW.weak (wX12_names_232 hC hret hk39 hk47 hf) (zLw_s (zLw_s (zLw_s (zLw_s (zLw_s (zLw_s (zLw_n (zLw_n zLw_0))))))))
set_option maxRecDepth 20000 in
set_option maxHeartbeats 4000000 in
theorem wX12_names_110 {X : zX} {F : Nat} (hC : zCx X RX12 cX12_names 8 1) (hret : zRt X (some .int)) {k39 : Int32 → Int32 → Int32 → zMem → Option zR} (hk39 : ∀ v1 v2 v3 μ, k39 v1 v2 v3 μ = some (zOut X) → zAW X 39 [some (.ref 60), some (.int v1), some (.int v2), some (.int v3), none, none, none, none] [] μ) {k47 : Int32 → Int32 → Int32 → Int32 → zMem → Option zR} (hk47 : ∀ v1 v2 v3 v4 μ, k47 v1 v2 v3 v4 μ = some (zOut X) → zAW X 47 [some (.ref 60), some (.int v1), some (.int v2), some (.int v3), some (.int v4), none, none, none] [] μ) {v1 : Int32} {v2 : Int32} {v3 : Int32} {v4 : Int32} {s0 : Int32} {μ : zMem} (hf : fX12_names_110 F k39 k47 v1 v2 v3 v4 s0 μ = some (zOut X)) : zAW X 110 [some (.ref 60), some (.int v1), some (.int v2), some (.int v3), some (.int v4), none, none, none] [.int s0] μ := by
  unfold fX12_names_110 at hf
  refine zs_is hC dX12_names_110 (by decide) rfl ?_
  refine zs_al hC dX12_names_112 rfl ?_
  refine zs_getR 87 hC fl_RX12_90 zL60 rfl dX12_names_113 ?_
  refine zs_k hC dX12_names_116 ?_
  refine zs_il hC dX12_names_118 rfl ?_
  refine zs_k hC dX12_names_119 ?_
  refine zs_isub hC dX12_names_120 ?_
  refine zs_imul hC dX12_names_121 ?_
  refine zs_il hC dX12_names_122 rfl ?_
  refine zs_iadd hC dX12_names_124 ?_
  refine zs_k hC dX12_names_125 ?_
  refine zs_isub hC dX12_names_126 ?_
  refine zs_iald hC zL87 dX12_names_127 (fun _ hf => ?_) hf
  refine zs_il hC dX12_names_128 rfl ?_
  refine zs_if_eq hC dX12_names_130 (fun _ hf => ?_) (fun _ hf => ?_) hf
  · refine zs_k hC dX12_names_137 ?_
    exact zAW.weak (wX12_names_138 hC hret hk39 hk47 hf) (zLw_s (zLw_s (zLw_s (zLw_s (zLw_s (zLw_n (zLw_n (zLw_n zLw_0))))))))
  · refine zs_k hC dX12_names_133 ?_
    refine zs_goto hC dX12_names_134 ?_
    exact zAW.weak (wX12_names_138 hC hret hk39 hk47 hf) (zLw_s (zLw_s (zLw_s (zLw_s (zLw_s (zLw_n (zLw_n (zLw_n zLw_0))))))))
set_option maxRecDepth 20000 in
set_option maxHeartbeats 4000000 in
theorem wX12_names_74 {X : zX} {F : Nat} (hC : zCx X RX12 cX12_names 8 1) (hret : zRt X (some .int)) {k39 : Int32 → Int32 → Int32 → zMem → Option zR} (hk39 : ∀ v1 v2 v3 μ, k39 v1 v2 v3 μ = some (zOut X) → zAW X 39 [some (.ref 60), some (.int v1), some (.int v2), some (.int v3), none, none, none, none] [] μ) {k47 : Int32 → Int32 → Int32 → Int32 → zMem → Option zR} (hk47 : ∀ v1 v2 v3 v4 μ, k47 v1 v2 v3 v4 μ = some (zOut X) → zAW X 47 [some (.ref 60), some (.int v1), some (.int v2), some (.int v3), some (.int v4), none, none, none] [] μ) {v1 : Int32} {v2 : Int32} {v3 : Int32} {v4 : Int32} {s0 : Int32} {μ : zMem} (hf : fX12_names_74 F k39 k47 v1 v2 v3 v4 s0 μ = some (zOut X)) : zAW X 74 [some (.ref 60), some (.int v1), some (.int v2), some (.int v3), some (.int v4), none, none, none] [.int s0] μ := by
  unfold fX12_names_74 at hf
  refine zs_is hC dX12_names_74 (by decide) rfl ?_
  refine zs_il hC dX12_names_76 rfl ?_
  refine zs_if_le hC dX12_names_77 (fun _ hf => ?_) (fun _ hf => ?_) hf
  · exact zAW.weak (wX12_names_265 hC hret hk39 hk47 hf) (zLw_s (zLw_s (zLw_s (zLw_s (zLw_s (zLw_s (zLw_n (zLw_n zLw_0))))))))
  · refine zs_il hC dX12_names_80 rfl ?_
    refine zs_if_le hC dX12_names_82 (fun _ hf => ?_) (fun _ hf => ?_) hf
    · exact zAW.weak (wX12_names_265 hC hret hk39 hk47 hf) (zLw_s (zLw_s (zLw_s (zLw_s (zLw_s (zLw_s (zLw_n (zLw_n zLw_0))))))))
    · refine zs_al hC dX12_names_85 rfl ?_
      refine zs_il hC dX12_names_86 rfl ?_
      refine zs_k hC dX12_names_87 ?_
      refine zs_isub hC dX12_names_88 ?_
      refine zs_callV [.int (v3 - (nI 1))] hC cw_X12_octet cl_RX12_339 zL60 rfl (by decide) rfl rfl (Nat.le_of_ble_eq_true rfl) dX12_names_89 (fun _ h => ctX12_octet h) (fun r1 m1 _ hf => ?_) hf
      show zAW X 92 _ (.int r1 :: _) m1
      refine zs_al hC dX12_names_92 rfl ?_
      refine zs_il hC dX12_names_93 rfl ?_
      refine zs_il hC dX12_names_94 rfl ?_
      refine zs_iadd hC dX12_names_96 ?_
      refine zs_k hC dX12_names_97 ?_
      refine zs_isub hC dX12_names_98 ?_
      refine zs_callV [.int ((v1 + v4) - (nI 1))] hC cw_X12_octet cl_RX12_339 zL60 rfl (by decide) rfl rfl (Nat.le_of_ble_eq_true rfl) dX12_names_99 (fun _ h => ctX12_octet h) (fun r2 m2 _ hf => ?_) hf
      show zAW X 102 _ (.int r2 :: _) m2
      refine zs_ic_ne hC dX12_names_102 (fun _ hf => ?_) (fun _ hf => ?_) hf
      · refine zs_k hC dX12_names_105 ?_
        refine zs_goto hC dX12_names_106 ?_
        exact zAW.weak (wX12_names_110 hC hret hk39 hk47 hf) (zLw_s (zLw_s (zLw_s (zLw_s (zLw_s (zLw_n (zLw_n (zLw_n zLw_0))))))))
      · refine zs_k hC dX12_names_109 ?_
        exact zAW.weak (wX12_names_110 hC hret hk39 hk47 hf) (zLw_s (zLw_s (zLw_s (zLw_s (zLw_s (zLw_n (zLw_n (zLw_n zLw_0))))))))
set_option maxRecDepth 20000 in
set_option maxHeartbeats 4000000 in
theorem wX12_names_47 {X : zX} {F : Nat} (hC : zCx X RX12 cX12_names 8 1) (hret : zRt X (some .int)) {k39 : Int32 → Int32 → Int32 → zMem → Option zR} (hk39 : ∀ v1 v2 v3 μ, k39 v1 v2 v3 μ = some (zOut X) → zAW X 39 [some (.ref 60), some (.int v1), some (.int v2), some (.int v3), none, none, none, none] [] μ) : ∀ (n : Nat) (v1 : Int32) (v2 : Int32) (v3 : Int32) (v4 : Int32) (μ : zMem), fX12_names_47 F k39 n v1 v2 v3 v4 μ = some (zOut X) → zAW X 47 [some (.ref 60), some (.int v1), some (.int v2), some (.int v3), some (.int v4), none, none, none] [] μ := by
  intro n
  induction n with
  | zero =>
    intro v1 v2 v3 v4 μ hf
    rw [fX12_names_47] at hf
    cases hf
  | succ n ih =>
    intro v1 v2 v3 v4 μ hf
    rw [fX12_names_47] at hf
    refine zs_il hC dX12_names_47 rfl ?_
    refine zs_il hC dX12_names_49 rfl ?_
    refine zs_ic_gt hC dX12_names_50 (fun _ hf => ?_) (fun _ hf => ?_) hf
    · refine zs_iinc (nI 1) hC dX12_names_285 (by decide) rfl (by decide) rfl ?_
      refine zs_goto hC dX12_names_288 ?_
      exact zAW.weak (hk39 _ _ _ _ hf) (zLw_s (zLw_s (zLw_s (zLw_s (zLw_n (zLw_n (zLw_n (zLw_n zLw_0))))))))
    · refine zs_il hC dX12_names_53 rfl ?_
      refine zs_if_ne hC dX12_names_54 (fun _ hf => ?_) (fun _ hf => ?_) hf
      · refine zs_il hC dX12_names_57 rfl ?_
        refine zs_goto hC dX12_names_59 ?_
        exact zAW.weak (wX12_names_74 hC hret hk39 (ih) hf) (zLw_s (zLw_s (zLw_s (zLw_s (zLw_s (zLw_n (zLw_n (zLw_n zLw_0))))))))
      · refine zs_il hC dX12_names_62 rfl ?_
        refine zs_if_ne hC dX12_names_64 (fun _ hf => ?_) (fun _ hf => ?_) hf
        · refine zs_il hC dX12_names_67 rfl ?_
          refine zs_goto hC dX12_names_68 ?_
          exact zAW.weak (wX12_names_74 hC hret hk39 (ih) hf) (zLw_s (zLw_s (zLw_s (zLw_s (zLw_s (zLw_n (zLw_n (zLw_n zLw_0))))))))
        · refine zs_ldcw hC kc_RX12_335 dX12_names_71 ?_
          exact zAW.weak (wX12_names_74 hC hret hk39 (ih) hf) (zLw_s (zLw_s (zLw_s (zLw_s (zLw_s (zLw_n (zLw_n (zLw_n zLw_0))))))))
set_option maxRecDepth 20000 in
set_option maxHeartbeats 4000000 in
theorem wX12_names_39 {X : zX} {F : Nat} (hC : zCx X RX12 cX12_names 8 1) (hret : zRt X (some .int)) : ∀ (n : Nat) (v1 : Int32) (v2 : Int32) (v3 : Int32) (μ : zMem), fX12_names_39 F n v1 v2 v3 μ = some (zOut X) → zAW X 39 [some (.ref 60), some (.int v1), some (.int v2), some (.int v3), none, none, none, none] [] μ := by
  intro n
  induction n with
  | zero =>
    intro v1 v2 v3 μ hf
    rw [fX12_names_39] at hf
    cases hf
  | succ n ih =>
    intro v1 v2 v3 μ hf
    rw [fX12_names_39] at hf
    refine zs_il hC dX12_names_39 rfl ?_
    refine zs_il hC dX12_names_40 rfl ?_
    refine zs_ic_gt hC dX12_names_41 (fun _ hf => ?_) (fun _ hf => ?_) hf
    · refine zs_al hC dX12_names_291 rfl ?_
      refine zs_getR 87 hC fl_RX12_90 zL60 rfl dX12_names_292 ?_
      refine zs_k hC dX12_names_295 ?_
      refine zs_il hC dX12_names_297 rfl ?_
      refine zs_imul hC dX12_names_298 ?_
      refine zs_il hC dX12_names_299 rfl ?_
      refine zs_iadd hC dX12_names_300 ?_
      refine zs_iald hC zL87 dX12_names_301 (fun _ hf => ?_) hf
      exact zs_iret hC hret dX12_names_302 hf
    · refine zs_k hC dX12_names_44 ?_
      refine zs_is hC dX12_names_45 (by decide) rfl ?_
      exact zAW.weak (wX12_names_47 hC hret (ih) F _ _ _ _ _ hf) (zLw_s (zLw_s (zLw_s (zLw_s (zLw_s (zLw_n (zLw_n (zLw_n zLw_0))))))))
set_option maxRecDepth 20000 in
set_option maxHeartbeats 4000000 in
theorem wX12_names {X : zX} {F : Nat} (hC : zCx X RX12 cX12_names 8 1) (hret : zRt X (some .int)) {v1 : Int32} {v2 : Int32} {μ : zMem} (hf : fX12_names F v1 v2 μ = some (zOut X)) : zAW X 0 [some (.ref 60), some (.int v1), some (.int v2), none, none, none, none, none] [] μ := by
  unfold fX12_names at hf
  refine zs_il hC dX12_names_0 rfl ?_
  refine zs_k hC dX12_names_1 ?_
  refine zs_k hC dX12_names_2 ?_
  refine zs_callS [.int v1, .int (nI 1), .int (nI 12)] hC cw_X12_in cl_RX12_96 (by decide) rfl rfl (Nat.le_of_ble_eq_true rfl) dX12_names_4 (fun _ h => ctX12_in h) (fun r1 m1 _ hf => ?_) hf
  show zAW X 7 _ (.int r1 :: _) m1
  refine zs_if_eq hC dX12_names_7 (fun _ hf => ?_) (fun _ hf => ?_) hf
  · refine zs_k hC dX12_names_30 ?_
    exact zs_iret hC hret dX12_names_31 hf
  · refine zs_il hC dX12_names_10 rfl ?_
    refine zs_k hC dX12_names_11 ?_
    refine zs_k hC dX12_names_12 ?_
    refine zs_callS [.int v2, .int (nI 1), .int (nI 12)] hC cw_X12_in cl_RX12_96 (by decide) rfl rfl (Nat.le_of_ble_eq_true rfl) dX12_names_14 (fun _ h => ctX12_in h) (fun r2 m2 _ hf => ?_) hf
    show zAW X 17 _ (.int r2 :: _) m2
    refine zs_if_eq hC dX12_names_17 (fun _ hf => ?_) (fun _ hf => ?_) hf
    · refine zs_k hC dX12_names_30 ?_
      exact zs_iret hC hret dX12_names_31 hf
    · refine zs_il hC dX12_names_20 rfl ?_
      refine zs_il hC dX12_names_21 rfl ?_
      refine zs_iadd hC dX12_names_22 ?_
      refine zs_al hC dX12_names_23 rfl ?_
      refine zs_getI hC fl_RX12_105 zL60 rfl dX12_names_24 ?_
      refine zs_ic_le hC dX12_names_27 (fun _ hf => ?_) (fun _ hf => ?_) hf
      · refine zs_al hC dX12_names_32 rfl ?_
        refine zs_k hC dX12_names_33 ?_
        refine zs_putI hC fl_RX12_105 fp_12_9 zL60 rfl dX12_names_34 ?_
        refine zs_let (fun m4 _ hf => ?_) hf
        refine zs_k hC dX12_names_37 ?_
        refine zs_is hC dX12_names_38 (by decide) rfl ?_
        exact zAW.weak (wX12_names_39 hC hret F _ _ _ _ hf) (zLw_s (zLw_s (zLw_s (zLw_s (zLw_n (zLw_n (zLw_n (zLw_n zLw_0))))))))
      · refine zs_k hC dX12_names_30 ?_
        exact zs_iret hC hret dX12_names_31 hf
set_option maxRecDepth 20000 in
set_option maxHeartbeats 4000000 in
theorem ctX12_names {E : zEV} {F : Nat} {v1 : Int32} {v2 : Int32} {μ : zMem} {out : zR} (hf : fX12_names F v1 v2 μ = some out) : zCt E yX12_names cX12_names 8 (some .int) 1 [.ref 60, .int v1, .int v2] μ out :=
  zCt.of [some (.ref 60), some (.int v1), some (.int v2), none, none, none, none, none] (by decide +kernel) (Nat.le_of_ble_eq_true rfl) (zLw_s (zLw_s (zLw_s (zLw_e (zLw_e (zLw_e (zLw_e (zLw_e zLw_0)))))))) rfl (fun X hE ho hr hC => by
    subst hE; subst ho
    exact wX12_names hC hr hf)
/-! X12_duty -/
def fX12_duty_86 (F : Nat) : Nat → Int32 → Int32 → Int32 → Int32 → Int32 → zMem → Option zR
  | 0, _, _, _, _, _, _ => none
  | n + 1, v1, v2, v3, v4, v5, μ => if v2 ≤ v5 then some (v3, μ) else zBd (fX12_octet F ((nI 2) * v5) μ) (fun r1 m1 => zBd (fX12_octet F (((nI 2) * v5) + (nI 1)) m1) (fun r2 m2 => zG ((nI 48) + v1) 1047 (zBd (fX12_min F ((nI 10) * r1) (m2 61 ((nI 48) + v1).toNatClampNeg) m2) (fun r4 m4 => zBd (fX12_max F (nI 0) (r4 - v4) m4) (fun r5 m5 => fX12_duty_86 F n v1 v2 (v3 + (r2 * r5)) ((nI 10) * r1) (v5 + (nI 1)) m5)))))
def fX12_duty_37 (F : Nat) : Nat → Int32 → Int32 → Int32 → zMem → Option zR
  | 0, _, _, _, _ => none
  | n + 1, v1, v2, v3, μ => if v2 ≤ v3 then fX12_duty_86 F F v1 v2 (nI 0) (nI 0) (nI 0) μ else zBd (fX12_octet F ((nI 2) * v3) μ) (fun r1 m1 => if v3 = 0 then if (nI 0) < r1 then fX12_duty_37 F n v1 v2 (v3 + (nI 1)) m1 else some ((-3 : Int32), m1) else zBd (fX12_octet F (((nI 2) * v3) - (nI 2)) m1) (fun r2 m2 => if r2 < r1 then fX12_duty_37 F n v1 v2 (v3 + (nI 1)) m2 else some ((-3 : Int32), m2)))
def fX12_duty (F : Nat) (v1 : Int32) (v2 : Int32) (μ : zMem) : Option zR :=
  zBd (fX12_isTold F v1 μ) (fun r1 m1 => if r1 = 0 then some ((-1 : Int32), m1) else zBd (fX12_in F v2 (nI 1) (nI 6) m1) (fun r2 m2 => if r2 = 0 then some ((-1 : Int32), m2) else if ((nI 2) * v2) ≤ (m2 60 9) then zLt (zUp m2 60 9 (nI 0)) (fun m4 => fX12_duty_37 F F v1 v2 (nI 0) m4) else some ((-1 : Int32), m2)))
set_option maxRecDepth 20000 in
set_option maxHeartbeats 4000000 in
theorem wX12_duty_86 {X : zX} {F : Nat} (hC : zCx X RX12 cX12_duty 7 2) (hret : zRt X (some .int)) : ∀ (n : Nat) (v1 : Int32) (v2 : Int32) (v3 : Int32) (v4 : Int32) (v5 : Int32) (μ : zMem), fX12_duty_86 F n v1 v2 v3 v4 v5 μ = some (zOut X) → zAW X 86 [some (.ref 60), some (.int v1), some (.int v2), some (.int v3), some (.int v4), some (.int v5), none] [] μ := by
  intro n
  induction n with
  | zero =>
    intro v1 v2 v3 v4 v5 μ hf
    rw [fX12_duty_86] at hf
    cases hf
  | succ n ih =>
    intro v1 v2 v3 v4 v5 μ hf
    rw [fX12_duty_86] at hf
    refine zs_il hC dX12_duty_86 rfl ?_
    refine zs_il hC dX12_duty_88 rfl ?_
    refine zs_ic_ge hC dX12_duty_89 (fun _ hf => ?_) (fun _ hf => ?_) hf
    · refine zs_il hC dX12_duty_150 rfl ?_
      exact zs_iret hC hret dX12_duty_151 hf
    · refine zs_k hC dX12_duty_92 ?_
      refine zs_al hC dX12_duty_94 rfl ?_
      refine zs_k hC dX12_duty_95 ?_
      refine zs_il hC dX12_duty_96 rfl ?_
      refine zs_imul hC dX12_duty_98 ?_
      refine zs_callV [.int ((nI 2) * v5)] hC cw_X12_octet cl_RX12_339 zL60 rfl (by decide) rfl rfl (Nat.le_of_ble_eq_true rfl) dX12_duty_99 (fun _ h => ctX12_octet h) (fun r1 m1 _ hf => ?_) hf
      show zAW X 102 _ (.int r1 :: _) m1
      refine zs_imul hC dX12_duty_102 ?_
      refine zs_is hC dX12_duty_103 (by decide) rfl ?_
      refine zs_il hC dX12_duty_105 rfl ?_
      refine zs_al hC dX12_duty_106 rfl ?_
      refine zs_k hC dX12_duty_107 ?_
      refine zs_il hC dX12_duty_108 rfl ?_
      refine zs_imul hC dX12_duty_110 ?_
      refine zs_k hC dX12_duty_111 ?_
      refine zs_iadd hC dX12_duty_112 ?_
      refine zs_callV [.int (((nI 2) * v5) + (nI 1))] hC cw_X12_octet cl_RX12_339 zL60 rfl (by decide) rfl rfl (Nat.le_of_ble_eq_true rfl) dX12_duty_113 (fun _ h => ctX12_octet h) (fun r2 m2 _ hf => ?_) hf
      show zAW X 116 _ (.int r2 :: _) m2
      refine zs_k hC dX12_duty_116 ?_
      refine zs_il hC dX12_duty_117 rfl ?_
      refine zs_al hC dX12_duty_119 rfl ?_
      refine zs_getR 61 hC fl_RX12_7 zL60 rfl dX12_duty_120 ?_
      refine zs_k hC dX12_duty_123 ?_
      refine zs_il hC dX12_duty_125 rfl ?_
      refine zs_iadd hC dX12_duty_126 ?_
      refine zs_iald hC zL61 dX12_duty_127 (fun _ hf => ?_) hf
      refine zs_callS [.int ((nI 10) * r1), .int (m2 61 ((nI 48) + v1).toNatClampNeg)] hC cw_X12_min cl_RX12_271 (by decide) rfl rfl (Nat.le_of_ble_eq_true rfl) dX12_duty_128 (fun _ h => ctX12_min h) (fun r4 m4 _ hf => ?_) hf
      show zAW X 131 _ (.int r4 :: _) m4
      refine zs_il hC dX12_duty_131 rfl ?_
      refine zs_isub hC dX12_duty_133 ?_
      refine zs_callS [.int (nI 0), .int (r4 - v4)] hC cw_X12_max cl_RX12_305 (by decide) rfl rfl (Nat.le_of_ble_eq_true rfl) dX12_duty_134 (fun _ h => ctX12_max h) (fun r5 m5 _ hf => ?_) hf
      show zAW X 137 _ (.int r5 :: _) m5
      refine zs_imul hC dX12_duty_137 ?_
      refine zs_iadd hC dX12_duty_138 ?_
      refine zs_is hC dX12_duty_139 (by decide) rfl ?_
      refine zs_il hC dX12_duty_140 rfl ?_
      refine zs_is hC dX12_duty_142 (by decide) rfl ?_
      refine zs_iinc (nI 1) hC dX12_duty_144 (by decide) rfl (by decide) rfl ?_
      refine zs_goto hC dX12_duty_147 ?_
      exact zAW.weak (ih _ _ _ _ _ _ hf) (zLw_s (zLw_s (zLw_s (zLw_s (zLw_s (zLw_s (zLw_n zLw_0)))))))
set_option maxRecDepth 20000 in
set_option maxHeartbeats 4000000 in
theorem wX12_duty_37 {X : zX} {F : Nat} (hC : zCx X RX12 cX12_duty 7 2) (hret : zRt X (some .int)) : ∀ (n : Nat) (v1 : Int32) (v2 : Int32) (v3 : Int32) (μ : zMem), fX12_duty_37 F n v1 v2 v3 μ = some (zOut X) → zAW X 37 [some (.ref 60), some (.int v1), some (.int v2), some (.int v3), none, none, none] [] μ := by
  intro n
  induction n with
  | zero =>
    intro v1 v2 v3 μ hf
    rw [fX12_duty_37] at hf
    cases hf
  | succ n ih =>
    intro v1 v2 v3 μ hf
    rw [fX12_duty_37] at hf
    refine zs_il hC dX12_duty_37 rfl ?_
    refine zs_il hC dX12_duty_38 rfl ?_
    refine zs_ic_ge hC dX12_duty_39 (fun _ hf => ?_) (fun _ hf => ?_) hf
    · refine zs_k hC dX12_duty_78 ?_
      refine zs_is hC dX12_duty_79 (by decide) rfl ?_
      refine zs_k hC dX12_duty_80 ?_
      refine zs_is hC dX12_duty_81 (by decide) rfl ?_
      refine zs_k hC dX12_duty_83 ?_
      refine zs_is hC dX12_duty_84 (by decide) rfl ?_
      exact zAW.weak (wX12_duty_86 hC hret F _ _ _ _ _ _ hf) (zLw_s (zLw_s (zLw_s (zLw_s (zLw_s (zLw_s (zLw_n zLw_0)))))))
    · refine zs_al hC dX12_duty_42 rfl ?_
      refine zs_k hC dX12_duty_43 ?_
      refine zs_il hC dX12_duty_44 rfl ?_
      refine zs_imul hC dX12_duty_45 ?_
      refine zs_callV [.int ((nI 2) * v3)] hC cw_X12_octet cl_RX12_339 zL60 rfl (by decide) rfl rfl (Nat.le_of_ble_eq_true rfl) dX12_duty_46 (fun _ h => ctX12_octet h) (fun r1 m1 _ hf => ?_) hf
      show zAW X 49 _ (.int r1 :: _) m1
      refine zs_il hC dX12_duty_49 rfl ?_
      refine zs_if_ne hC dX12_duty_50 (fun _ hf => ?_) (fun _ hf => ?_) hf
      · refine zs_k hC dX12_duty_53 ?_
        refine zs_goto hC dX12_duty_54 ?_
        refine zs_ic_gt hC dX12_duty_66 (fun _ hf => ?_) (fun _ hf => ?_) hf
        · refine zs_iinc (nI 1) hC dX12_duty_72 (by decide) rfl (by decide) rfl ?_
          refine zs_goto hC dX12_duty_75 ?_
          exact zAW.weak (ih _ _ _ _ hf) (zLw_s (zLw_s (zLw_s (zLw_s (zLw_n (zLw_n (zLw_n zLw_0)))))))
        · refine zs_k hC dX12_duty_69 ?_
          exact zs_iret hC hret dX12_duty_71 hf
      · refine zs_al hC dX12_duty_57 rfl ?_
        refine zs_k hC dX12_duty_58 ?_
        refine zs_il hC dX12_duty_59 rfl ?_
        refine zs_imul hC dX12_duty_60 ?_
        refine zs_k hC dX12_duty_61 ?_
        refine zs_isub hC dX12_duty_62 ?_
        refine zs_callV [.int (((nI 2) * v3) - (nI 2))] hC cw_X12_octet cl_RX12_339 zL60 rfl (by decide) rfl rfl (Nat.le_of_ble_eq_true rfl) dX12_duty_63 (fun _ h => ctX12_octet h) (fun r2 m2 _ hf => ?_) hf
        show zAW X 66 _ (.int r2 :: _) m2
        refine zs_ic_gt hC dX12_duty_66 (fun _ hf => ?_) (fun _ hf => ?_) hf
        · refine zs_iinc (nI 1) hC dX12_duty_72 (by decide) rfl (by decide) rfl ?_
          refine zs_goto hC dX12_duty_75 ?_
          exact zAW.weak (ih _ _ _ _ hf) (zLw_s (zLw_s (zLw_s (zLw_s (zLw_n (zLw_n (zLw_n zLw_0)))))))
        · refine zs_k hC dX12_duty_69 ?_
          exact zs_iret hC hret dX12_duty_71 hf
set_option maxRecDepth 20000 in
set_option maxHeartbeats 4000000 in
theorem wX12_duty {X : zX} {F : Nat} (hC : zCx X RX12 cX12_duty 7 2) (hret : zRt X (some .int)) {v1 : Int32} {v2 : Int32} {μ : zMem} (hf : fX12_duty F v1 v2 μ = some (zOut X)) : zAW X 0 [some (.ref 60), some (.int v1), some (.int v2), none, none, none, none] [] μ := by
  unfold fX12_duty at hf
  refine zs_al hC dX12_duty_0 rfl ?_
  refine zs_il hC dX12_duty_1 rfl ?_
  refine zs_callV [.int v1] hC cw_X12_isTold cl_RX12_100 zL60 rfl (by decide) rfl rfl (Nat.le_of_ble_eq_true rfl) dX12_duty_2 (fun _ h => ctX12_isTold h) (fun r1 m1 _ hf => ?_) hf
  show zAW X 5 _ (.int r1 :: _) m1
  refine zs_if_eq hC dX12_duty_5 (fun _ hf => ?_) (fun _ hf => ?_) hf
  · refine zs_k hC dX12_duty_28 ?_
    exact zs_iret hC hret dX12_duty_29 hf
  · refine zs_il hC dX12_duty_8 rfl ?_
    refine zs_k hC dX12_duty_9 ?_
    refine zs_k hC dX12_duty_10 ?_
    refine zs_callS [.int v2, .int (nI 1), .int (nI 6)] hC cw_X12_in cl_RX12_96 (by decide) rfl rfl (Nat.le_of_ble_eq_true rfl) dX12_duty_12 (fun _ h => ctX12_in h) (fun r2 m2 _ hf => ?_) hf
    show zAW X 15 _ (.int r2 :: _) m2
    refine zs_if_eq hC dX12_duty_15 (fun _ hf => ?_) (fun _ hf => ?_) hf
    · refine zs_k hC dX12_duty_28 ?_
      exact zs_iret hC hret dX12_duty_29 hf
    · refine zs_k hC dX12_duty_18 ?_
      refine zs_il hC dX12_duty_19 rfl ?_
      refine zs_imul hC dX12_duty_20 ?_
      refine zs_al hC dX12_duty_21 rfl ?_
      refine zs_getI hC fl_RX12_105 zL60 rfl dX12_duty_22 ?_
      refine zs_ic_le hC dX12_duty_25 (fun _ hf => ?_) (fun _ hf => ?_) hf
      · refine zs_al hC dX12_duty_30 rfl ?_
        refine zs_k hC dX12_duty_31 ?_
        refine zs_putI hC fl_RX12_105 fp_12_9 zL60 rfl dX12_duty_32 ?_
        refine zs_let (fun m4 _ hf => ?_) hf
        refine zs_k hC dX12_duty_35 ?_
        refine zs_is hC dX12_duty_36 (by decide) rfl ?_
        exact zAW.weak (wX12_duty_37 hC hret F _ _ _ _ hf) (zLw_s (zLw_s (zLw_s (zLw_s (zLw_n (zLw_n (zLw_n zLw_0)))))))
      · refine zs_k hC dX12_duty_28 ?_
        exact zs_iret hC hret dX12_duty_29 hf
set_option maxRecDepth 20000 in
set_option maxHeartbeats 4000000 in
theorem ctX12_duty {E : zEV} {F : Nat} {v1 : Int32} {v2 : Int32} {μ : zMem} {out : zR} (hf : fX12_duty F v1 v2 μ = some out) : zCt E yX12_duty cX12_duty 7 (some .int) 2 [.ref 60, .int v1, .int v2] μ out :=
  zCt.of [some (.ref 60), some (.int v1), some (.int v2), none, none, none, none] (by decide +kernel) (Nat.le_of_ble_eq_true rfl) (zLw_s (zLw_s (zLw_s (zLw_e (zLw_e (zLw_e (zLw_e zLw_0))))))) rfl (fun X hE ho hr hC => by
    subst hE; subst ho
    exact wX12_duty hC hr hf)
/-! X12_hands -/
def fX12_hands_89 (F : Nat) : Nat → Int32 → Int32 → Int32 → Int32 → zMem → Option zR
  | 0, _, _, _, _, _ => none
  | n + 1, v1, v2, v3, v4, μ => if v1 ≤ v4 then if v2 = 0 then zG v3 16 (some ((μ 88 v3.toNatClampNeg), μ)) else some (v3, μ) else zBd (fX12_octet F ((nI 2) * v4) μ) (fun r4 m4 => zG r4 16 (zBd (fX12_octet F (((nI 2) * v4) + (nI 1)) m4) (fun r5 m5 => zG v4 16 (zLt (zUp m5 88 v4.toNatClampNeg ((m4 88 r4.toNatClampNeg) + r5)) (fun m6 => zG v4 16 (zG v3 16 (if (m6 88 v4.toNatClampNeg) ≤ (m6 88 v3.toNatClampNeg) then fX12_hands_89 F n v1 v2 v3 (v4 + (nI 1)) m6 else fX12_hands_89 F n v1 v2 v4 (v4 + (nI 1)) m6)))))))
def fX12_hands_38 (F : Nat) : Nat → Int32 → Int32 → Int32 → zMem → Option zR
  | 0, _, _, _, _ => none
  | n + 1, v1, v2, v3, μ => if v1 ≤ v3 then zG (nI 0) 16 (zLt (zUp μ 88 (nI 0).toNatClampNeg (nI 0)) (fun m2 => fX12_hands_89 F F v1 v2 (nI 0) (nI 1) m2)) else zBd (fX12_octet F ((nI 2) * v3) μ) (fun r3 m3 => if v3 ≤ r3 then some ((-2 : Int32), m3) else zBd (fX12_octet F (((nI 2) * v3) + (nI 1)) m3) (fun r4 m4 => if r4 ≤ (nI 15) then fX12_hands_38 F n v1 v2 (v3 + (nI 1)) m4 else some ((-2 : Int32), m4)))
def fX12_hands (F : Nat) (v1 : Int32) (v2 : Int32) (μ : zMem) : Option zR :=
  zBd (fX12_in F v1 (nI 2) (nI 16) μ) (fun r1 m1 => if r1 = 0 then some ((-1 : Int32), m1) else zBd (fX12_in F v2 (nI 0) (nI 1) m1) (fun r2 m2 => if r2 = 0 then some ((-1 : Int32), m2) else if ((nI 2) * v1) ≤ (m2 60 9) then zLt (zUp m2 60 9 (nI 0)) (fun m4 => fX12_hands_38 F F v1 v2 (nI 1) m4) else some ((-1 : Int32), m2)))
set_option maxRecDepth 20000 in
set_option maxHeartbeats 4000000 in
theorem wX12_hands_89 {X : zX} {F : Nat} (hC : zCx X RX12 cX12_hands 5 1) (hret : zRt X (some .int)) : ∀ (n : Nat) (v1 : Int32) (v2 : Int32) (v3 : Int32) (v4 : Int32) (μ : zMem), fX12_hands_89 F n v1 v2 v3 v4 μ = some (zOut X) → zAW X 89 [some (.ref 60), some (.int v1), some (.int v2), some (.int v3), some (.int v4)] [] μ := by
  intro n
  induction n with
  | zero =>
    intro v1 v2 v3 v4 μ hf
    rw [fX12_hands_89] at hf
    cases hf
  | succ n ih =>
    intro v1 v2 v3 v4 μ hf
    rw [fX12_hands_89] at hf
    refine zs_il hC dX12_hands_89 rfl ?_
    refine zs_il hC dX12_hands_91 rfl ?_
    refine zs_ic_ge hC dX12_hands_92 (fun _ hf => ?_) (fun _ hf => ?_) hf
    · refine zs_il hC dX12_hands_151 rfl ?_
      refine zs_if_ne hC dX12_hands_152 (fun _ hf => ?_) (fun _ hf => ?_) hf
      · refine zs_al hC dX12_hands_155 rfl ?_
        refine zs_getR 88 hC fl_RX12_93 zL60 rfl dX12_hands_156 ?_
        refine zs_il hC dX12_hands_159 rfl ?_
        refine zs_iald hC zL88 dX12_hands_160 (fun _ hf => ?_) hf
        refine zs_goto hC dX12_hands_161 ?_
        exact zs_iret hC hret dX12_hands_165 hf
      · refine zs_il hC dX12_hands_164 rfl ?_
        exact zs_iret hC hret dX12_hands_165 hf
    · refine zs_al hC dX12_hands_95 rfl ?_
      refine zs_getR 88 hC fl_RX12_93 zL60 rfl dX12_hands_96 ?_
      refine zs_il hC dX12_hands_99 rfl ?_
      refine zs_al hC dX12_hands_101 rfl ?_
      refine zs_getR 88 hC fl_RX12_93 zL60 rfl dX12_hands_102 ?_
      refine zs_al hC dX12_hands_105 rfl ?_
      refine zs_k hC dX12_hands_106 ?_
      refine zs_il hC dX12_hands_107 rfl ?_
      refine zs_imul hC dX12_hands_109 ?_
      refine zs_callV [.int ((nI 2) * v4)] hC cw_X12_octet cl_RX12_339 zL60 rfl (by decide) rfl rfl (Nat.le_of_ble_eq_true rfl) dX12_hands_110 (fun _ h => ctX12_octet h) (fun r4 m4 _ hf => ?_) hf
      show zAW X 113 _ (.int r4 :: _) m4
      refine zs_iald hC zL88 dX12_hands_113 (fun _ hf => ?_) hf
      refine zs_al hC dX12_hands_114 rfl ?_
      refine zs_k hC dX12_hands_115 ?_
      refine zs_il hC dX12_hands_116 rfl ?_
      refine zs_imul hC dX12_hands_118 ?_
      refine zs_k hC dX12_hands_119 ?_
      refine zs_iadd hC dX12_hands_120 ?_
      refine zs_callV [.int (((nI 2) * v4) + (nI 1))] hC cw_X12_octet cl_RX12_339 zL60 rfl (by decide) rfl rfl (Nat.le_of_ble_eq_true rfl) dX12_hands_121 (fun _ h => ctX12_octet h) (fun r5 m5 _ hf => ?_) hf
      show zAW X 124 _ (.int r5 :: _) m5
      refine zs_iadd hC dX12_hands_124 ?_
      refine zs_iast hC zL88 dX12_hands_125 (fun _ hf => ?_) hf
      refine zs_let (fun m6 _ hf => ?_) hf
      refine zs_al hC dX12_hands_126 rfl ?_
      refine zs_getR 88 hC fl_RX12_93 zL60 rfl dX12_hands_127 ?_
      refine zs_il hC dX12_hands_130 rfl ?_
      refine zs_iald hC zL88 dX12_hands_132 (fun _ hf => ?_) hf
      refine zs_al hC dX12_hands_133 rfl ?_
      refine zs_getR 88 hC fl_RX12_93 zL60 rfl dX12_hands_134 ?_
      refine zs_il hC dX12_hands_137 rfl ?_
      refine zs_iald hC zL88 dX12_hands_138 (fun _ hf => ?_) hf
      refine zs_ic_le hC dX12_hands_139 (fun _ hf => ?_) (fun _ hf => ?_) hf
      · refine zs_iinc (nI 1) hC dX12_hands_145 (by decide) rfl (by decide) rfl ?_
        refine zs_goto hC dX12_hands_148 ?_
        exact zAW.weak (ih _ _ _ _ _ hf) (zLw_s (zLw_s (zLw_s (zLw_s (zLw_s zLw_0)))))
      · refine zs_il hC dX12_hands_142 rfl ?_
        refine zs_is hC dX12_hands_144 (by decide) rfl ?_
        refine zs_iinc (nI 1) hC dX12_hands_145 (by decide) rfl (by decide) rfl ?_
        refine zs_goto hC dX12_hands_148 ?_
        exact zAW.weak (ih _ _ _ _ _ hf) (zLw_s (zLw_s (zLw_s (zLw_s (zLw_s zLw_0)))))
set_option maxRecDepth 20000 in
set_option maxHeartbeats 4000000 in
theorem wX12_hands_38 {X : zX} {F : Nat} (hC : zCx X RX12 cX12_hands 5 1) (hret : zRt X (some .int)) : ∀ (n : Nat) (v1 : Int32) (v2 : Int32) (v3 : Int32) (μ : zMem), fX12_hands_38 F n v1 v2 v3 μ = some (zOut X) → zAW X 38 [some (.ref 60), some (.int v1), some (.int v2), some (.int v3), none] [] μ := by
  intro n
  induction n with
  | zero =>
    intro v1 v2 v3 μ hf
    rw [fX12_hands_38] at hf
    cases hf
  | succ n ih =>
    intro v1 v2 v3 μ hf
    rw [fX12_hands_38] at hf
    refine zs_il hC dX12_hands_38 rfl ?_
    refine zs_il hC dX12_hands_39 rfl ?_
    refine zs_ic_ge hC dX12_hands_40 (fun _ hf => ?_) (fun _ hf => ?_) hf
    · refine zs_k hC dX12_hands_77 ?_
      refine zs_is hC dX12_hands_78 (by decide) rfl ?_
      refine zs_al hC dX12_hands_79 rfl ?_
      refine zs_getR 88 hC fl_RX12_93 zL60 rfl dX12_hands_80 ?_
      refine zs_k hC dX12_hands_83 ?_
      refine zs_k hC dX12_hands_84 ?_
      refine zs_iast hC zL88 dX12_hands_85 (fun _ hf => ?_) hf
      refine zs_let (fun m2 _ hf => ?_) hf
      refine zs_k hC dX12_hands_86 ?_
      refine zs_is hC dX12_hands_87 (by decide) rfl ?_
      exact zAW.weak (wX12_hands_89 hC hret F _ _ _ _ _ hf) (zLw_s (zLw_s (zLw_s (zLw_s (zLw_s zLw_0)))))
    · refine zs_al hC dX12_hands_43 rfl ?_
      refine zs_k hC dX12_hands_44 ?_
      refine zs_il hC dX12_hands_45 rfl ?_
      refine zs_imul hC dX12_hands_46 ?_
      refine zs_callV [.int ((nI 2) * v3)] hC cw_X12_octet cl_RX12_339 zL60 rfl (by decide) rfl rfl (Nat.le_of_ble_eq_true rfl) dX12_hands_47 (fun _ h => ctX12_octet h) (fun r3 m3 _ hf => ?_) hf
      show zAW X 50 _ (.int r3 :: _) m3
      refine zs_il hC dX12_hands_50 rfl ?_
      refine zs_ic_ge hC dX12_hands_51 (fun _ hf => ?_) (fun _ hf => ?_) hf
      · refine zs_k hC dX12_hands_68 ?_
        exact zs_iret hC hret dX12_hands_70 hf
      · refine zs_al hC dX12_hands_54 rfl ?_
        refine zs_k hC dX12_hands_55 ?_
        refine zs_il hC dX12_hands_56 rfl ?_
        refine zs_imul hC dX12_hands_57 ?_
        refine zs_k hC dX12_hands_58 ?_
        refine zs_iadd hC dX12_hands_59 ?_
        refine zs_callV [.int (((nI 2) * v3) + (nI 1))] hC cw_X12_octet cl_RX12_339 zL60 rfl (by decide) rfl rfl (Nat.le_of_ble_eq_true rfl) dX12_hands_60 (fun _ h => ctX12_octet h) (fun r4 m4 _ hf => ?_) hf
        show zAW X 63 _ (.int r4 :: _) m4
        refine zs_k hC dX12_hands_63 ?_
        refine zs_ic_le hC dX12_hands_65 (fun _ hf => ?_) (fun _ hf => ?_) hf
        · refine zs_iinc (nI 1) hC dX12_hands_71 (by decide) rfl (by decide) rfl ?_
          refine zs_goto hC dX12_hands_74 ?_
          exact zAW.weak (ih _ _ _ _ hf) (zLw_s (zLw_s (zLw_s (zLw_s (zLw_n zLw_0)))))
        · refine zs_k hC dX12_hands_68 ?_
          exact zs_iret hC hret dX12_hands_70 hf
set_option maxRecDepth 20000 in
set_option maxHeartbeats 4000000 in
theorem wX12_hands {X : zX} {F : Nat} (hC : zCx X RX12 cX12_hands 5 1) (hret : zRt X (some .int)) {v1 : Int32} {v2 : Int32} {μ : zMem} (hf : fX12_hands F v1 v2 μ = some (zOut X)) : zAW X 0 [some (.ref 60), some (.int v1), some (.int v2), none, none] [] μ := by
  unfold fX12_hands at hf
  refine zs_il hC dX12_hands_0 rfl ?_
  refine zs_k hC dX12_hands_1 ?_
  refine zs_k hC dX12_hands_2 ?_
  refine zs_callS [.int v1, .int (nI 2), .int (nI 16)] hC cw_X12_in cl_RX12_96 (by decide) rfl rfl (Nat.le_of_ble_eq_true rfl) dX12_hands_4 (fun _ h => ctX12_in h) (fun r1 m1 _ hf => ?_) hf
  show zAW X 7 _ (.int r1 :: _) m1
  refine zs_if_eq hC dX12_hands_7 (fun _ hf => ?_) (fun _ hf => ?_) hf
  · refine zs_k hC dX12_hands_29 ?_
    exact zs_iret hC hret dX12_hands_30 hf
  · refine zs_il hC dX12_hands_10 rfl ?_
    refine zs_k hC dX12_hands_11 ?_
    refine zs_k hC dX12_hands_12 ?_
    refine zs_callS [.int v2, .int (nI 0), .int (nI 1)] hC cw_X12_in cl_RX12_96 (by decide) rfl rfl (Nat.le_of_ble_eq_true rfl) dX12_hands_13 (fun _ h => ctX12_in h) (fun r2 m2 _ hf => ?_) hf
    show zAW X 16 _ (.int r2 :: _) m2
    refine zs_if_eq hC dX12_hands_16 (fun _ hf => ?_) (fun _ hf => ?_) hf
    · refine zs_k hC dX12_hands_29 ?_
      exact zs_iret hC hret dX12_hands_30 hf
    · refine zs_k hC dX12_hands_19 ?_
      refine zs_il hC dX12_hands_20 rfl ?_
      refine zs_imul hC dX12_hands_21 ?_
      refine zs_al hC dX12_hands_22 rfl ?_
      refine zs_getI hC fl_RX12_105 zL60 rfl dX12_hands_23 ?_
      refine zs_ic_le hC dX12_hands_26 (fun _ hf => ?_) (fun _ hf => ?_) hf
      · refine zs_al hC dX12_hands_31 rfl ?_
        refine zs_k hC dX12_hands_32 ?_
        refine zs_putI hC fl_RX12_105 fp_12_9 zL60 rfl dX12_hands_33 ?_
        refine zs_let (fun m4 _ hf => ?_) hf
        refine zs_k hC dX12_hands_36 ?_
        refine zs_is hC dX12_hands_37 (by decide) rfl ?_
        exact zAW.weak (wX12_hands_38 hC hret F _ _ _ _ hf) (zLw_s (zLw_s (zLw_s (zLw_s (zLw_n zLw_0)))))
      · refine zs_k hC dX12_hands_29 ?_
        exact zs_iret hC hret dX12_hands_30 hf
set_option maxRecDepth 20000 in
set_option maxHeartbeats 4000000 in
theorem ctX12_hands {E : zEV} {F : Nat} {v1 : Int32} {v2 : Int32} {μ : zMem} {out : zR} (hf : fX12_hands F v1 v2 μ = some out) : zCt E yX12_hands cX12_hands 5 (some .int) 1 [.ref 60, .int v1, .int v2] μ out :=
  zCt.of [some (.ref 60), some (.int v1), some (.int v2), none, none] (by decide +kernel) (Nat.le_of_ble_eq_true rfl) (zLw_s (zLw_s (zLw_s (zLw_e (zLw_e zLw_0))))) rfl (fun X hE ho hr hC => by
    subst hE; subst ho
    exact wX12_hands hC hr hf)
/-! X12_seed -/
def fX12_seed (F : Nat) (v1 : Int32) (μ : zMem) : Option zR :=
  zBd (fX12_in F v1 (nI 0) (nI 65535) μ) (fun r1 m1 => if r1 = 0 then some ((nI 0), m1) else zG (nI 1046) 1047 (zLt (zUp m1 61 (nI 1046).toNatClampNeg v1) (fun m3 => some ((nI 1), m3))))
set_option maxRecDepth 20000 in
set_option maxHeartbeats 4000000 in
theorem wX12_seed {X : zX} {F : Nat} (hC : zCx X RX12 cX12_seed 2 1) (hret : zRt X (some .boolean)) {v1 : Int32} {μ : zMem} (hf : fX12_seed F v1 μ = some (zOut X)) : zAW X 0 [some (.ref 60), some (.int v1)] [] μ := by
  unfold fX12_seed at hf
  refine zs_il hC dX12_seed_0 rfl ?_
  refine zs_k hC dX12_seed_1 ?_
  refine zs_ldc hC kc_RX12_104 dX12_seed_2 ?_
  refine zs_callS [.int v1, .int (nI 0), .int (nI 65535)] hC cw_X12_in cl_RX12_96 (by decide) rfl rfl (Nat.le_of_ble_eq_true rfl) dX12_seed_4 (fun _ h => ctX12_in h) (fun r1 m1 _ hf => ?_) hf
  show zAW X 7 _ (.int r1 :: _) m1
  refine zs_if_ne hC dX12_seed_7 (fun _ hf => ?_) (fun _ hf => ?_) hf
  · refine zs_k hC dX12_seed_10 ?_
    exact zs_zretK hC hret dX12_seed_11 (by decide) hf
  · refine zs_al hC dX12_seed_12 rfl ?_
    refine zs_getR 61 hC fl_RX12_7 zL60 rfl dX12_seed_13 ?_
    refine zs_k hC dX12_seed_16 ?_
    refine zs_il hC dX12_seed_19 rfl ?_
    refine zs_iast hC zL61 dX12_seed_20 (fun _ hf => ?_) hf
    refine zs_let (fun m3 _ hf => ?_) hf
    refine zs_k hC dX12_seed_21 ?_
    exact zs_zretK hC hret dX12_seed_22 (by decide) hf
set_option maxRecDepth 20000 in
set_option maxHeartbeats 4000000 in
theorem ctX12_seed {E : zEV} {F : Nat} {v1 : Int32} {μ : zMem} {out : zR} (hf : fX12_seed F v1 μ = some out) : zCt E yX12_seed cX12_seed 2 (some .boolean) 1 [.ref 60, .int v1] μ out :=
  zCt.of [some (.ref 60), some (.int v1)] (by decide +kernel) (Nat.le_of_ble_eq_true rfl) (zLw_s (zLw_s zLw_0)) rfl (fun X hE ho hr hC => by
    subst hE; subst ho
    exact wX12_seed hC hr hf)
/-! X12_keep -/
def fX12_keep (F : Nat) (μ : zMem) : Option zR :=
  zLt (zUp μ 60 45 (nI 1)) (fun m1 => zBd (fX12_copies F 61 63 m1) (fun r4 m4 => zG (nI 1045) 1047 (some ((m4 61 (nI 1045).toNatClampNeg), m4))))
set_option maxRecDepth 20000 in
set_option maxHeartbeats 4000000 in
theorem wX12_keep {X : zX} {F : Nat} (hC : zCx X RX12 cX12_keep 1 1) (hret : zRt X (some .int)) {μ : zMem} (hf : fX12_keep F μ = some (zOut X)) : zAW X 0 [some (.ref 60)] [] μ := by
  unfold fX12_keep at hf
  refine zs_al hC dX12_keep_0 rfl ?_
  refine zs_k hC dX12_keep_1 ?_
  refine zs_putZ hC fl_RX12_345 fp_12_45 zL60 rfl (by decide) dX12_keep_2 ?_
  refine zs_let (fun m1 _ hf => ?_) hf
  refine zs_al hC dX12_keep_5 rfl ?_
  refine zs_getR 61 hC fl_RX12_7 zL60 rfl dX12_keep_6 ?_
  refine zs_al hC dX12_keep_9 rfl ?_
  refine zs_getR 63 hC fl_RX12_16 zL60 rfl dX12_keep_10 ?_
  refine zs_callS [.ref 61, .ref 63] hC cw_X12_copies cl_RX12_237 (by decide) rfl rfl (Nat.le_of_ble_eq_true rfl) dX12_keep_13 (fun _ h => ctX12_copies (by decide) (by decide) h) (fun r4 m4 _ hf => ?_) hf
  show zAW X 16 _ _ m4
  refine zs_al hC dX12_keep_16 rfl ?_
  refine zs_getR 61 hC fl_RX12_7 zL60 rfl dX12_keep_17 ?_
  refine zs_k hC dX12_keep_20 ?_
  refine zs_iald hC zL61 dX12_keep_23 (fun _ hf => ?_) hf
  exact zs_iret hC hret dX12_keep_24 hf
set_option maxRecDepth 20000 in
set_option maxHeartbeats 4000000 in
theorem ctX12_keep {E : zEV} {F : Nat} {μ : zMem} {out : zR} (hf : fX12_keep F μ = some out) : zCt E yX12_keep cX12_keep 1 (some .int) 1 [.ref 60] μ out :=
  zCt.of [some (.ref 60)] (by decide +kernel) (Nat.le_of_ble_eq_true rfl) (zLw_s zLw_0) rfl (fun X hE ho hr hC => by
    subst hE; subst ho
    exact wX12_keep hC hr hf)
/-! X12_undo -/
def fX12_undo (F : Nat) (μ : zMem) : Option zR :=
  if (μ 60 45) = 0 then some ((nI 0), μ) else zBd (fX12_copies F 63 61 μ) (fun r4 m4 => some ((nI 1), m4))
set_option maxRecDepth 20000 in
set_option maxHeartbeats 4000000 in
theorem wX12_undo {X : zX} {F : Nat} (hC : zCx X RX12 cX12_undo 1 1) (hret : zRt X (some .boolean)) {μ : zMem} (hf : fX12_undo F μ = some (zOut X)) : zAW X 0 [some (.ref 60)] [] μ := by
  unfold fX12_undo at hf
  refine zs_al hC dX12_undo_0 rfl ?_
  refine zs_getI hC fl_RX12_345 zL60 rfl dX12_undo_1 ?_
  refine zs_if_ne hC dX12_undo_4 (fun _ hf => ?_) (fun _ hf => ?_) hf
  · refine zs_k hC dX12_undo_7 ?_
    exact zs_zretK hC hret dX12_undo_8 (by decide) hf
  · refine zs_al hC dX12_undo_9 rfl ?_
    refine zs_getR 63 hC fl_RX12_16 zL60 rfl dX12_undo_10 ?_
    refine zs_al hC dX12_undo_13 rfl ?_
    refine zs_getR 61 hC fl_RX12_7 zL60 rfl dX12_undo_14 ?_
    refine zs_callS [.ref 63, .ref 61] hC cw_X12_copies cl_RX12_237 (by decide) rfl rfl (Nat.le_of_ble_eq_true rfl) dX12_undo_17 (fun _ h => ctX12_copies (by decide) (by decide) h) (fun r4 m4 _ hf => ?_) hf
    show zAW X 20 _ _ m4
    refine zs_k hC dX12_undo_20 ?_
    exact zs_zretK hC hret dX12_undo_21 (by decide) hf
set_option maxRecDepth 20000 in
set_option maxHeartbeats 4000000 in
theorem ctX12_undo {E : zEV} {F : Nat} {μ : zMem} {out : zR} (hf : fX12_undo F μ = some out) : zCt E yX12_undo cX12_undo 1 (some .boolean) 1 [.ref 60] μ out :=
  zCt.of [some (.ref 60)] (by decide +kernel) (Nat.le_of_ble_eq_true rfl) (zLw_s zLw_0) rfl (fun X hE ho hr hC => by
    subst hE; subst ho
    exact wX12_undo hC hr hf)
/-! X12_check -/
def fX12_check_28 (F : Nat) : Nat → Int32 → Int32 → zMem → Option zR
  | 0, _, _, _ => none
  | n + 1, v1, v2, μ => if v1 ≤ v2 then some ((-1 : Int32), μ) else zBd (fX12_octet F v2 μ) (fun r1 m1 => zBd (fX12_isTold F v2 m1) (fun r2 m2 => if r2 = 0 then if r1 = (nI 255) then fX12_check_28 F n v1 (v2 + (nI 1)) m2 else some (v2, m2) else zG ((nI 16) + v2) 1047 (zBd (fX12_bits F (m2 61 ((nI 16) + v2).toNatClampNeg) m2) (fun r4 m4 => if r1 = r4 then fX12_check_28 F n v1 (v2 + (nI 1)) m4 else some (v2, m4)))))
def fX12_check (F : Nat) (v1 : Int32) (μ : zMem) : Option zR :=
  zBd (fX12_in F v1 (nI 0) (nI 16) μ) (fun r1 m1 => if r1 = 0 then some ((-2 : Int32), m1) else if v1 ≤ (m1 60 9) then zLt (zUp m1 60 9 (nI 0)) (fun m3 => fX12_check_28 F F v1 (nI 0) m3) else some ((-2 : Int32), m1))
set_option maxRecDepth 20000 in
set_option maxHeartbeats 4000000 in
theorem wX12_check_28 {X : zX} {F : Nat} (hC : zCx X RX12 cX12_check 3 2) (hret : zRt X (some .int)) : ∀ (n : Nat) (v1 : Int32) (v2 : Int32) (μ : zMem), fX12_check_28 F n v1 v2 μ = some (zOut X) → zAW X 28 [some (.ref 60), some (.int v1), some (.int v2)] [] μ := by
  intro n
  induction n with
  | zero =>
    intro v1 v2 μ hf
    rw [fX12_check_28] at hf
    cases hf
  | succ n ih =>
    intro v1 v2 μ hf
    rw [fX12_check_28] at hf
    refine zs_il hC dX12_check_28 rfl ?_
    refine zs_il hC dX12_check_29 rfl ?_
    refine zs_ic_ge hC dX12_check_30 (fun _ hf => ?_) (fun _ hf => ?_) hf
    · refine zs_k hC dX12_check_75 ?_
      exact zs_iret hC hret dX12_check_76 hf
    · refine zs_al hC dX12_check_33 rfl ?_
      refine zs_il hC dX12_check_34 rfl ?_
      refine zs_callV [.int v2] hC cw_X12_octet cl_RX12_339 zL60 rfl (by decide) rfl rfl (Nat.le_of_ble_eq_true rfl) dX12_check_35 (fun _ h => ctX12_octet h) (fun r1 m1 _ hf => ?_) hf
      show zAW X 38 _ (.int r1 :: _) m1
      refine zs_al hC dX12_check_38 rfl ?_
      refine zs_il hC dX12_check_39 rfl ?_
      refine zs_callV [.int v2] hC cw_X12_isTold cl_RX12_100 zL60 rfl (by decide) rfl rfl (Nat.le_of_ble_eq_true rfl) dX12_check_40 (fun _ h => ctX12_isTold h) (fun r2 m2 _ hf => ?_) hf
      show zAW X 43 _ (.int r2 :: _) m2
      refine zs_if_eq hC dX12_check_43 (fun _ hf => ?_) (fun _ hf => ?_) hf
      · refine zs_k hC dX12_check_61 ?_
        refine zs_ic_eq hC dX12_check_64 (fun _ hf => ?_) (fun _ hf => ?_) hf
        · refine zs_iinc (nI 1) hC dX12_check_69 (by decide) rfl (by decide) rfl ?_
          refine zs_goto hC dX12_check_72 ?_
          exact zAW.weak (ih _ _ _ hf) (zLw_s (zLw_s (zLw_s zLw_0)))
        · refine zs_il hC dX12_check_67 rfl ?_
          exact zs_iret hC hret dX12_check_68 hf
      · refine zs_al hC dX12_check_46 rfl ?_
        refine zs_getR 61 hC fl_RX12_7 zL60 rfl dX12_check_47 ?_
        refine zs_k hC dX12_check_50 ?_
        refine zs_il hC dX12_check_52 rfl ?_
        refine zs_iadd hC dX12_check_53 ?_
        refine zs_iald hC zL61 dX12_check_54 (fun _ hf => ?_) hf
        refine zs_callS [.int (m2 61 ((nI 16) + v2).toNatClampNeg)] hC cw_X12_bits cl_RX12_218 (by decide) rfl rfl (Nat.le_of_ble_eq_true rfl) dX12_check_55 (fun _ h => ctX12_bits h) (fun r4 m4 _ hf => ?_) hf
        show zAW X 58 _ (.int r4 :: _) m4
        refine zs_goto hC dX12_check_58 ?_
        refine zs_ic_eq hC dX12_check_64 (fun _ hf => ?_) (fun _ hf => ?_) hf
        · refine zs_iinc (nI 1) hC dX12_check_69 (by decide) rfl (by decide) rfl ?_
          refine zs_goto hC dX12_check_72 ?_
          exact zAW.weak (ih _ _ _ hf) (zLw_s (zLw_s (zLw_s zLw_0)))
        · refine zs_il hC dX12_check_67 rfl ?_
          exact zs_iret hC hret dX12_check_68 hf
set_option maxRecDepth 20000 in
set_option maxHeartbeats 4000000 in
theorem wX12_check {X : zX} {F : Nat} (hC : zCx X RX12 cX12_check 3 2) (hret : zRt X (some .int)) {v1 : Int32} {μ : zMem} (hf : fX12_check F v1 μ = some (zOut X)) : zAW X 0 [some (.ref 60), some (.int v1), none] [] μ := by
  unfold fX12_check at hf
  refine zs_il hC dX12_check_0 rfl ?_
  refine zs_k hC dX12_check_1 ?_
  refine zs_k hC dX12_check_2 ?_
  refine zs_callS [.int v1, .int (nI 0), .int (nI 16)] hC cw_X12_in cl_RX12_96 (by decide) rfl rfl (Nat.le_of_ble_eq_true rfl) dX12_check_4 (fun _ h => ctX12_in h) (fun r1 m1 _ hf => ?_) hf
  show zAW X 7 _ (.int r1 :: _) m1
  refine zs_if_eq hC dX12_check_7 (fun _ hf => ?_) (fun _ hf => ?_) hf
  · refine zs_k hC dX12_check_18 ?_
    exact zs_iret hC hret dX12_check_20 hf
  · refine zs_il hC dX12_check_10 rfl ?_
    refine zs_al hC dX12_check_11 rfl ?_
    refine zs_getI hC fl_RX12_105 zL60 rfl dX12_check_12 ?_
    refine zs_ic_le hC dX12_check_15 (fun _ hf => ?_) (fun _ hf => ?_) hf
    · refine zs_al hC dX12_check_21 rfl ?_
      refine zs_k hC dX12_check_22 ?_
      refine zs_putI hC fl_RX12_105 fp_12_9 zL60 rfl dX12_check_23 ?_
      refine zs_let (fun m3 _ hf => ?_) hf
      refine zs_k hC dX12_check_26 ?_
      refine zs_is hC dX12_check_27 (by decide) rfl ?_
      exact zAW.weak (wX12_check_28 hC hret F _ _ _ hf) (zLw_s (zLw_s (zLw_s zLw_0)))
    · refine zs_k hC dX12_check_18 ?_
      exact zs_iret hC hret dX12_check_20 hf
set_option maxRecDepth 20000 in
set_option maxHeartbeats 4000000 in
theorem ctX12_check {E : zEV} {F : Nat} {v1 : Int32} {μ : zMem} {out : zR} (hf : fX12_check F v1 μ = some out) : zCt E yX12_check cX12_check 3 (some .int) 2 [.ref 60, .int v1] μ out :=
  zCt.of [some (.ref 60), some (.int v1), none] (by decide +kernel) (Nat.le_of_ble_eq_true rfl) (zLw_s (zLw_s (zLw_e zLw_0))) rfl (fun X hE ho hr hC => by
    subst hE; subst ho
    exact wX12_check hC hr hf)
/-! X12_readers -/
def fX12_readers_4 (F : Nat) : Nat → Int32 → Int32 → zMem → Option zR
  | 0, _, _, _ => none
  | n + 1, v1, v2, μ => if (nI 16) ≤ v2 then some (v1, μ) else zBd (fX12_isTold F v2 μ) (fun r1 m1 => if r1 = 0 then fX12_readers_4 F n v1 (v2 + (nI 1)) m1 else zG ((nI 32) + v2) 1047 (if (m1 61 ((nI 32) + v2).toNatClampNeg) = (nI 1) then fX12_readers_4 F n (v1 ||| ((nI 1) <<< (v2 &&& 31))) (v2 + (nI 1)) m1 else fX12_readers_4 F n v1 (v2 + (nI 1)) m1))
def fX12_readers (F : Nat) (μ : zMem) : Option zR :=
  fX12_readers_4 F F (nI 0) (nI 0) μ
set_option maxRecDepth 20000 in
set_option maxHeartbeats 4000000 in
theorem wX12_readers_4 {X : zX} {F : Nat} (hC : zCx X RX12 cX12_readers 3 2) (hret : zRt X (some .int)) : ∀ (n : Nat) (v1 : Int32) (v2 : Int32) (μ : zMem), fX12_readers_4 F n v1 v2 μ = some (zOut X) → zAW X 4 [some (.ref 60), some (.int v1), some (.int v2)] [] μ := by
  intro n
  induction n with
  | zero =>
    intro v1 v2 μ hf
    rw [fX12_readers_4] at hf
    cases hf
  | succ n ih =>
    intro v1 v2 μ hf
    rw [fX12_readers_4] at hf
    refine zs_il hC dX12_readers_4 rfl ?_
    refine zs_k hC dX12_readers_5 ?_
    refine zs_ic_ge hC dX12_readers_7 (fun _ hf => ?_) (fun _ hf => ?_) hf
    · refine zs_il hC dX12_readers_43 rfl ?_
      exact zs_iret hC hret dX12_readers_44 hf
    · refine zs_al hC dX12_readers_10 rfl ?_
      refine zs_il hC dX12_readers_11 rfl ?_
      refine zs_callV [.int v2] hC cw_X12_isTold cl_RX12_100 zL60 rfl (by decide) rfl rfl (Nat.le_of_ble_eq_true rfl) dX12_readers_12 (fun _ h => ctX12_isTold h) (fun r1 m1 _ hf => ?_) hf
      show zAW X 15 _ (.int r1 :: _) m1
      refine zs_if_eq hC dX12_readers_15 (fun _ hf => ?_) (fun _ hf => ?_) hf
      · refine zs_iinc (nI 1) hC dX12_readers_37 (by decide) rfl (by decide) rfl ?_
        refine zs_goto hC dX12_readers_40 ?_
        exact zAW.weak (ih _ _ _ hf) (zLw_s (zLw_s (zLw_s zLw_0)))
      · refine zs_al hC dX12_readers_18 rfl ?_
        refine zs_getR 61 hC fl_RX12_7 zL60 rfl dX12_readers_19 ?_
        refine zs_k hC dX12_readers_22 ?_
        refine zs_il hC dX12_readers_24 rfl ?_
        refine zs_iadd hC dX12_readers_25 ?_
        refine zs_iald hC zL61 dX12_readers_26 (fun _ hf => ?_) hf
        refine zs_k hC dX12_readers_27 ?_
        refine zs_ic_ne hC dX12_readers_28 (fun _ hf => ?_) (fun _ hf => ?_) hf
        · refine zs_il hC dX12_readers_31 rfl ?_
          refine zs_k hC dX12_readers_32 ?_
          refine zs_il hC dX12_readers_33 rfl ?_
          refine zs_ishl hC dX12_readers_34 ?_
          refine zs_ior hC dX12_readers_35 ?_
          refine zs_is hC dX12_readers_36 (by decide) rfl ?_
          refine zs_iinc (nI 1) hC dX12_readers_37 (by decide) rfl (by decide) rfl ?_
          refine zs_goto hC dX12_readers_40 ?_
          exact zAW.weak (ih _ _ _ hf) (zLw_s (zLw_s (zLw_s zLw_0)))
        · refine zs_iinc (nI 1) hC dX12_readers_37 (by decide) rfl (by decide) rfl ?_
          refine zs_goto hC dX12_readers_40 ?_
          exact zAW.weak (ih _ _ _ hf) (zLw_s (zLw_s (zLw_s zLw_0)))
set_option maxRecDepth 20000 in
set_option maxHeartbeats 4000000 in
theorem wX12_readers {X : zX} {F : Nat} (hC : zCx X RX12 cX12_readers 3 2) (hret : zRt X (some .int)) {μ : zMem} (hf : fX12_readers F μ = some (zOut X)) : zAW X 0 [some (.ref 60), none, none] [] μ := by
  unfold fX12_readers at hf
  refine zs_k hC dX12_readers_0 ?_
  refine zs_is hC dX12_readers_1 (by decide) rfl ?_
  refine zs_k hC dX12_readers_2 ?_
  refine zs_is hC dX12_readers_3 (by decide) rfl ?_
  exact zAW.weak (wX12_readers_4 hC hret F _ _ _ hf) (zLw_s (zLw_s (zLw_s zLw_0)))
set_option maxRecDepth 20000 in
set_option maxHeartbeats 4000000 in
theorem ctX12_readers {E : zEV} {F : Nat} {μ : zMem} {out : zR} (hf : fX12_readers F μ = some out) : zCt E yX12_readers cX12_readers 3 (some .int) 2 [.ref 60] μ out :=
  zCt.of [some (.ref 60), none, none] (by decide +kernel) (Nat.le_of_ble_eq_true rfl) (zLw_s (zLw_e (zLw_e zLw_0))) rfl (fun X hE ho hr hC => by
    subst hE; subst ho
    exact wX12_readers hC hr hf)
/-! X12_breathOfAll -/
def fX12_breathOfAll_4 (F : Nat) : Nat → Int32 → Int32 → zMem → Option zR
  | 0, _, _, _ => none
  | n + 1, v1, v2, μ => if (nI 16) ≤ v2 then some (v1, μ) else zBd (fX12_isTold F v2 μ) (fun r1 m1 => if r1 = 0 then fX12_breathOfAll_4 F n v1 (v2 + (nI 1)) m1 else zG ((nI 48) + v2) 1047 (fX12_breathOfAll_4 F n (v1 + (m1 61 ((nI 48) + v2).toNatClampNeg)) (v2 + (nI 1)) m1))
def fX12_breathOfAll (F : Nat) (μ : zMem) : Option zR :=
  fX12_breathOfAll_4 F F (nI 0) (nI 0) μ
set_option maxRecDepth 20000 in
set_option maxHeartbeats 4000000 in
theorem wX12_breathOfAll_4 {X : zX} {F : Nat} (hC : zCx X RX12 cX12_breathOfAll 3 2) (hret : zRt X (some .int)) : ∀ (n : Nat) (v1 : Int32) (v2 : Int32) (μ : zMem), fX12_breathOfAll_4 F n v1 v2 μ = some (zOut X) → zAW X 4 [some (.ref 60), some (.int v1), some (.int v2)] [] μ := by
  intro n
  induction n with
  | zero =>
    intro v1 v2 μ hf
    rw [fX12_breathOfAll_4] at hf
    cases hf
  | succ n ih =>
    intro v1 v2 μ hf
    rw [fX12_breathOfAll_4] at hf
    refine zs_il hC dX12_breathOfAll_4 rfl ?_
    refine zs_k hC dX12_breathOfAll_5 ?_
    refine zs_ic_ge hC dX12_breathOfAll_7 (fun _ hf => ?_) (fun _ hf => ?_) hf
    · refine zs_il hC dX12_breathOfAll_36 rfl ?_
      exact zs_iret hC hret dX12_breathOfAll_37 hf
    · refine zs_al hC dX12_breathOfAll_10 rfl ?_
      refine zs_il hC dX12_breathOfAll_11 rfl ?_
      refine zs_callV [.int v2] hC cw_X12_isTold cl_RX12_100 zL60 rfl (by decide) rfl rfl (Nat.le_of_ble_eq_true rfl) dX12_breathOfAll_12 (fun _ h => ctX12_isTold h) (fun r1 m1 _ hf => ?_) hf
      show zAW X 15 _ (.int r1 :: _) m1
      refine zs_if_eq hC dX12_breathOfAll_15 (fun _ hf => ?_) (fun _ hf => ?_) hf
      · refine zs_iinc (nI 1) hC dX12_breathOfAll_30 (by decide) rfl (by decide) rfl ?_
        refine zs_goto hC dX12_breathOfAll_33 ?_
        exact zAW.weak (ih _ _ _ hf) (zLw_s (zLw_s (zLw_s zLw_0)))
      · refine zs_il hC dX12_breathOfAll_18 rfl ?_
        refine zs_al hC dX12_breathOfAll_19 rfl ?_
        refine zs_getR 61 hC fl_RX12_7 zL60 rfl dX12_breathOfAll_20 ?_
        refine zs_k hC dX12_breathOfAll_23 ?_
        refine zs_il hC dX12_breathOfAll_25 rfl ?_
        refine zs_iadd hC dX12_breathOfAll_26 ?_
        refine zs_iald hC zL61 dX12_breathOfAll_27 (fun _ hf => ?_) hf
        refine zs_iadd hC dX12_breathOfAll_28 ?_
        refine zs_is hC dX12_breathOfAll_29 (by decide) rfl ?_
        refine zs_iinc (nI 1) hC dX12_breathOfAll_30 (by decide) rfl (by decide) rfl ?_
        refine zs_goto hC dX12_breathOfAll_33 ?_
        exact zAW.weak (ih _ _ _ hf) (zLw_s (zLw_s (zLw_s zLw_0)))
set_option maxRecDepth 20000 in
set_option maxHeartbeats 4000000 in
theorem wX12_breathOfAll {X : zX} {F : Nat} (hC : zCx X RX12 cX12_breathOfAll 3 2) (hret : zRt X (some .int)) {μ : zMem} (hf : fX12_breathOfAll F μ = some (zOut X)) : zAW X 0 [some (.ref 60), none, none] [] μ := by
  unfold fX12_breathOfAll at hf
  refine zs_k hC dX12_breathOfAll_0 ?_
  refine zs_is hC dX12_breathOfAll_1 (by decide) rfl ?_
  refine zs_k hC dX12_breathOfAll_2 ?_
  refine zs_is hC dX12_breathOfAll_3 (by decide) rfl ?_
  exact zAW.weak (wX12_breathOfAll_4 hC hret F _ _ _ hf) (zLw_s (zLw_s (zLw_s zLw_0)))
set_option maxRecDepth 20000 in
set_option maxHeartbeats 4000000 in
theorem ctX12_breathOfAll {E : zEV} {F : Nat} {μ : zMem} {out : zR} (hf : fX12_breathOfAll F μ = some out) : zCt E yX12_breathOfAll cX12_breathOfAll 3 (some .int) 2 [.ref 60] μ out :=
  zCt.of [some (.ref 60), none, none] (by decide +kernel) (Nat.le_of_ble_eq_true rfl) (zLw_s (zLw_e (zLw_e zLw_0))) rfl (fun X hE ho hr hC => by
    subst hE; subst ho
    exact wX12_breathOfAll hC hr hf)
/-! X12_count -/
def fX12_count (F : Nat) (v1 : Int32) (μ : zMem) : Option zR :=
  (if v1 = (nI 0) then zG (nI 1045) 1047 (some ((μ 61 (nI 1045).toNatClampNeg), μ)) else if v1 = (nI 1) then zBd (fX12_toldSet F μ) (fun r2 m2 => some (r2, m2)) else if v1 = (nI 2) then zBd (fX12_readers F μ) (fun r3 m3 => some (r3, m3)) else if v1 = (nI 3) then zBd (fX12_backMany F μ) (fun r4 m4 => some (r4, m4)) else if v1 = (nI 4) then some ((μ 60 7), μ) else if v1 = (nI 5) then some ((μ 60 18), μ) else if v1 = (nI 6) then some ((μ 60 9), μ) else if v1 = (nI 7) then zG (nI 1046) 1047 (some ((μ 61 (nI 1046).toNatClampNeg), μ)) else if v1 = (nI 8) then zBd (fX12_breathOfAll F μ) (fun r9 m9 => some (r9, m9)) else some ((-1 : Int32), μ))
set_option maxRecDepth 20000 in
set_option maxHeartbeats 4000000 in
theorem wX12_count {X : zX} {F : Nat} (hC : zCx X RX12 cX12_count 2 3) (hret : zRt X (some .int)) {v1 : Int32} {μ : zMem} (hf : fX12_count F v1 μ = some (zOut X)) : zAW X 0 [some (.ref 60), some (.int v1)] [] μ := by
  unfold fX12_count at hf
  refine zs_il hC dX12_count_0 rfl ?_
  refine zs_case (nI 0) (fun hx hf => ?_) (fun e1_0 hf => ?_) hf
  · refine zs_tabI (off := 51) (tgt := 52) hC hx dX12_count_1 (by decide) (by decide) rfl (by decide) ?_
    refine zs_al hC dX12_count_52 rfl ?_
    refine zs_getR 61 hC fl_RX12_7 zL60 rfl dX12_count_53 ?_
    refine zs_k hC dX12_count_56 ?_
    refine zs_iald hC zL61 dX12_count_59 (fun _ hf => ?_) hf
    exact zs_iret hC hret dX12_count_60 hf
  refine zs_case (nI 1) (fun hx hf => ?_) (fun e1_1 hf => ?_) hf
  · refine zs_tabI (off := 60) (tgt := 61) hC hx dX12_count_1 (by decide) (by decide) rfl (by decide) ?_
    refine zs_al hC dX12_count_61 rfl ?_
    refine zs_callV [] hC cw_X12_toldSet cl_RX12_296 zL60 rfl (by decide) rfl rfl (Nat.le_of_ble_eq_true rfl) dX12_count_62 (fun _ h => ctX12_toldSet h) (fun r2 m2 _ hf => ?_) hf
    show zAW X 65 _ (.int r2 :: _) m2
    exact zs_iret hC hret dX12_count_65 hf
  refine zs_case (nI 2) (fun hx hf => ?_) (fun e1_2 hf => ?_) hf
  · refine zs_tabI (off := 65) (tgt := 66) hC hx dX12_count_1 (by decide) (by decide) rfl (by decide) ?_
    refine zs_al hC dX12_count_66 rfl ?_
    refine zs_callV [] hC cw_X12_readers cl_RX12_349 zL60 rfl (by decide) rfl rfl (Nat.le_of_ble_eq_true rfl) dX12_count_67 (fun _ h => ctX12_readers h) (fun r3 m3 _ hf => ?_) hf
    show zAW X 70 _ (.int r3 :: _) m3
    exact zs_iret hC hret dX12_count_70 hf
  refine zs_case (nI 3) (fun hx hf => ?_) (fun e1_3 hf => ?_) hf
  · refine zs_tabI (off := 70) (tgt := 71) hC hx dX12_count_1 (by decide) (by decide) rfl (by decide) ?_
    refine zs_al hC dX12_count_71 rfl ?_
    refine zs_callV [] hC cw_X12_backMany cl_RX12_323 zL60 rfl (by decide) rfl rfl (Nat.le_of_ble_eq_true rfl) dX12_count_72 (fun _ h => ctX12_backMany h) (fun r4 m4 _ hf => ?_) hf
    show zAW X 75 _ (.int r4 :: _) m4
    exact zs_iret hC hret dX12_count_75 hf
  refine zs_case (nI 4) (fun hx hf => ?_) (fun e1_4 hf => ?_) hf
  · refine zs_tabI (off := 75) (tgt := 76) hC hx dX12_count_1 (by decide) (by decide) rfl (by decide) ?_
    refine zs_al hC dX12_count_76 rfl ?_
    refine zs_getI hC fl_RX12_250 zL60 rfl dX12_count_77 ?_
    exact zs_iret hC hret dX12_count_80 hf
  refine zs_case (nI 5) (fun hx hf => ?_) (fun e1_5 hf => ?_) hf
  · refine zs_tabI (off := 80) (tgt := 81) hC hx dX12_count_1 (by decide) (by decide) rfl (by decide) ?_
    refine zs_al hC dX12_count_81 rfl ?_
    refine zs_getI hC fl_RX12_207 zL60 rfl dX12_count_82 ?_
    exact zs_iret hC hret dX12_count_85 hf
  refine zs_case (nI 6) (fun hx hf => ?_) (fun e1_6 hf => ?_) hf
  · refine zs_tabI (off := 85) (tgt := 86) hC hx dX12_count_1 (by decide) (by decide) rfl (by decide) ?_
    refine zs_al hC dX12_count_86 rfl ?_
    refine zs_getI hC fl_RX12_105 zL60 rfl dX12_count_87 ?_
    exact zs_iret hC hret dX12_count_90 hf
  refine zs_case (nI 7) (fun hx hf => ?_) (fun e1_7 hf => ?_) hf
  · refine zs_tabI (off := 90) (tgt := 91) hC hx dX12_count_1 (by decide) (by decide) rfl (by decide) ?_
    refine zs_al hC dX12_count_91 rfl ?_
    refine zs_getR 61 hC fl_RX12_7 zL60 rfl dX12_count_92 ?_
    refine zs_k hC dX12_count_95 ?_
    refine zs_iald hC zL61 dX12_count_98 (fun _ hf => ?_) hf
    exact zs_iret hC hret dX12_count_99 hf
  refine zs_case (nI 8) (fun hx hf => ?_) (fun e1_8 hf => ?_) hf
  · refine zs_tabI (off := 99) (tgt := 100) hC hx dX12_count_1 (by decide) (by decide) rfl (by decide) ?_
    refine zs_al hC dX12_count_100 rfl ?_
    refine zs_callV [] hC cw_X12_breathOfAll cl_RX12_352 zL60 rfl (by decide) rfl rfl (Nat.le_of_ble_eq_true rfl) dX12_count_101 (fun _ h => ctX12_breathOfAll h) (fun r9 m9 _ hf => ?_) hf
    show zAW X 104 _ (.int r9 :: _) m9
    exact zs_iret hC hret dX12_count_104 hf
  have e1_0 := lv_neT (a := 0) e1_0 (by decide)
  have e1_1 := lv_neT (a := 1) e1_1 (by decide)
  have e1_2 := lv_neT (a := 2) e1_2 (by decide)
  have e1_3 := lv_neT (a := 3) e1_3 (by decide)
  have e1_4 := lv_neT (a := 4) e1_4 (by decide)
  have e1_5 := lv_neT (a := 5) e1_5 (by decide)
  have e1_6 := lv_neT (a := 6) e1_6 (by decide)
  have e1_7 := lv_neT (a := 7) e1_7 (by decide)
  have e1_8 := lv_neT (a := 8) e1_8 (by decide)
  refine zs_tabO (tgt := 105) hC dX12_count_1 (by omega) (by decide) ?_
  refine zs_k hC dX12_count_105 ?_
  exact zs_iret hC hret dX12_count_106 hf
set_option maxRecDepth 20000 in
set_option maxHeartbeats 4000000 in
theorem ctX12_count {E : zEV} {F : Nat} {v1 : Int32} {μ : zMem} {out : zR} (hf : fX12_count F v1 μ = some out) : zCt E yX12_count cX12_count 2 (some .int) 3 [.ref 60, .int v1] μ out :=
  zCt.of [some (.ref 60), some (.int v1)] (by decide +kernel) (Nat.le_of_ble_eq_true rfl) (zLw_s (zLw_s zLw_0)) rfl (fun X hE ho hr hC => by
    subst hE; subst ho
    exact wX12_count hC hr hf)
