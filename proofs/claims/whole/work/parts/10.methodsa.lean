/-! J9_min_7cf53 -/
def fJ9_min_7cf53 (F : Nat) (v0 : Int32) (v1 : Int32) (μ : zMem) : Option zR :=
  if v1 < v0 then some (v1, μ) else some (v0, μ)
set_option maxRecDepth 20000 in
set_option maxHeartbeats 4000000 in
theorem wJ9_min_7cf53 {X : zX} {F : Nat} (hC : zCx X RJ9 cJ9_min_7cf53 2 0) (hret : zRt X (some .int)) {v0 : Int32} {v1 : Int32} {μ : zMem} (hf : fJ9_min_7cf53 F v0 v1 μ = some (zOut X)) : zAW X 0 [some (.int v0), some (.int v1)] [] μ := by
  unfold fJ9_min_7cf53 at hf
  refine zs_il hC dJ9_min_7cf53_0 rfl ?_
  refine zs_il hC dJ9_min_7cf53_1 rfl ?_
  refine zs_ic_gt hC dJ9_min_7cf53_2 (fun _ hf => ?_) (fun _ hf => ?_) hf
  · refine zs_il hC dJ9_min_7cf53_9 rfl ?_
    exact zs_iret hC hret dJ9_min_7cf53_10 hf
  · refine zs_il hC dJ9_min_7cf53_5 rfl ?_
    refine zs_goto hC dJ9_min_7cf53_6 ?_
    exact zs_iret hC hret dJ9_min_7cf53_10 hf
set_option maxRecDepth 20000 in
set_option maxHeartbeats 4000000 in
theorem ctJ9_min_7cf53 {E : zEV} {F : Nat} {v0 : Int32} {v1 : Int32} {μ : zMem} {out : zR} (hf : fJ9_min_7cf53 F v0 v1 μ = some out) : zCt E yJ9_min_7cf53 cJ9_min_7cf53 2 (some .int) 0 [.int v0, .int v1] μ out :=
  zCt.of [some (.int v0), some (.int v1)] (by decide +kernel) (Nat.le_of_ble_eq_true rfl) (zLw_s (zLw_s zLw_0)) rfl (fun X hE ho hr hC => by
    subst hE; subst ho
    exact wJ9_min_7cf53 hC hr hf)
/-! X8_issues -/
def fX8_issues (F : Nat) (h0 : Nat) (μ : zMem) : Option zR :=
  zBd (fJ9_min_7cf53 F (μ h0 6) (nI 20) μ) (fun r2 m2 => some (r2, m2))
set_option maxRecDepth 20000 in
set_option maxHeartbeats 4000000 in
theorem wX8_issues {X : zX} {F h0 : Nat} (hC : zCx X RX8 cX8_issues 1 1) (hh0 : zIsSt h0 = true) (hret : zRt X (some .int)) {μ : zMem} (hf : fX8_issues F h0 μ = some (zOut X)) : zAW X 0 [some (.ref h0)] [] μ := by
  unfold fX8_issues at hf
  refine zs_al hC dX8_issues_0 rfl ?_
  refine zs_getI hC fl_RX8_40 (zSt0 hh0) rfl dX8_issues_1 ?_
  refine zs_k hC dX8_issues_4 ?_
  refine zs_callS [.int (μ h0 6), .int (nI 20)] hC cw_J9_min_7cf53 cl_RX8_63 (by decide) rfl rfl (Nat.le_of_ble_eq_true rfl) dX8_issues_6 (fun _ h => ctJ9_min_7cf53 h) (fun r2 m2 _ hf => ?_) hf
  show zAW X 9 _ (.int r2 :: _) m2
  exact zs_iret hC hret dX8_issues_9 hf
set_option maxRecDepth 20000 in
set_option maxHeartbeats 4000000 in
theorem ctX8_issues {E : zEV} {F : Nat} {h0 : Nat} {μ : zMem} {out : zR} (hh0 : zIsSt h0 = true) (hf : fX8_issues F h0 μ = some out) : zCt E yX8_issues cX8_issues 1 (some .int) 1 [.ref h0] μ out :=
  zCt.of [some (.ref h0)] (by decide +kernel) (Nat.le_of_ble_eq_true rfl) (zLw_s zLw_0) rfl (fun X hE ho hr hC => by
    subst hE; subst ho
    exact wX8_issues hC hh0 hr hf)
/-! X8_whisperOf -/
def fX8_whisperOf (F : Nat) (h0 : Nat) (v1 : Int32) (v2 : Int32) (μ : zMem) : Option zR :=
  zG ((v1 * (nI 16)) + v2) 320 (some ((μ (h0 + 4) ((v1 * (nI 16)) + v2).toNatClampNeg), μ))
set_option maxRecDepth 20000 in
set_option maxHeartbeats 4000000 in
theorem wX8_whisperOf {X : zX} {F h0 : Nat} (hC : zCx X RX8 cX8_whisperOf 3 0) (hh0 : zIsSt h0 = true) (hret : zRt X (some .int)) {v1 : Int32} {v2 : Int32} {μ : zMem} (hf : fX8_whisperOf F h0 v1 v2 μ = some (zOut X)) : zAW X 0 [some (.ref h0), some (.int v1), some (.int v2)] [] μ := by
  unfold fX8_whisperOf at hf
  refine zs_al hC dX8_whisperOf_0 rfl ?_
  refine zs_getR (h0 + 4) hC fl_RX8_21 (zSt0 hh0) rfl dX8_whisperOf_1 ?_
  refine zs_il hC dX8_whisperOf_4 rfl ?_
  refine zs_k hC dX8_whisperOf_5 ?_
  refine zs_imul hC dX8_whisperOf_7 ?_
  refine zs_il hC dX8_whisperOf_8 rfl ?_
  refine zs_iadd hC dX8_whisperOf_9 ?_
  refine zs_iald hC (zSt4 hh0) dX8_whisperOf_10 (fun _ hf => ?_) hf
  exact zs_iret hC hret dX8_whisperOf_11 hf
set_option maxRecDepth 20000 in
set_option maxHeartbeats 4000000 in
theorem ctX8_whisperOf {E : zEV} {F : Nat} {h0 : Nat} {v1 : Int32} {v2 : Int32} {μ : zMem} {out : zR} (hh0 : zIsSt h0 = true) (hf : fX8_whisperOf F h0 v1 v2 μ = some out) : zCt E yX8_whisperOf cX8_whisperOf 3 (some .int) 0 [.ref h0, .int v1, .int v2] μ out :=
  zCt.of [some (.ref h0), some (.int v1), some (.int v2)] (by decide +kernel) (Nat.le_of_ble_eq_true rfl) (zLw_s (zLw_s (zLw_s zLw_0))) rfl (fun X hE ho hr hC => by
    subst hE; subst ho
    exact wX8_whisperOf hC hh0 hr hf)
/-! X11_fromOf -/
def fX11_fromOf (F : Nat) (v0 : Int32) (μ : zMem) : Option zR :=
  some ((v0 &&& (nI 15)), μ)
set_option maxRecDepth 20000 in
set_option maxHeartbeats 4000000 in
theorem wX11_fromOf {X : zX} {F : Nat} (hC : zCx X RX11 cX11_fromOf 1 0) (hret : zRt X (some .int)) {v0 : Int32} {μ : zMem} (hf : fX11_fromOf F v0 μ = some (zOut X)) : zAW X 0 [some (.int v0)] [] μ := by
  unfold fX11_fromOf at hf
  refine zs_il hC dX11_fromOf_0 rfl ?_
  refine zs_k hC dX11_fromOf_1 ?_
  refine zs_iand hC dX11_fromOf_3 ?_
  exact zs_iret hC hret dX11_fromOf_4 hf
set_option maxRecDepth 20000 in
set_option maxHeartbeats 4000000 in
theorem ctX11_fromOf {E : zEV} {F : Nat} {v0 : Int32} {μ : zMem} {out : zR} (hf : fX11_fromOf F v0 μ = some out) : zCt E yX11_fromOf cX11_fromOf 1 (some .int) 0 [.int v0] μ out :=
  zCt.of [some (.int v0)] (by decide +kernel) (Nat.le_of_ble_eq_true rfl) (zLw_s zLw_0) rfl (fun X hE ho hr hC => by
    subst hE; subst ho
    exact wX11_fromOf hC hr hf)
/-! X11_toOf -/
def fX11_toOf (F : Nat) (v0 : Int32) (μ : zMem) : Option zR :=
  some (((v0 >>> ((nI 4) &&& 31)) &&& (nI 15)), μ)
set_option maxRecDepth 20000 in
set_option maxHeartbeats 4000000 in
theorem wX11_toOf {X : zX} {F : Nat} (hC : zCx X RX11 cX11_toOf 1 0) (hret : zRt X (some .int)) {v0 : Int32} {μ : zMem} (hf : fX11_toOf F v0 μ = some (zOut X)) : zAW X 0 [some (.int v0)] [] μ := by
  unfold fX11_toOf at hf
  refine zs_il hC dX11_toOf_0 rfl ?_
  refine zs_k hC dX11_toOf_1 ?_
  refine zs_ishr hC dX11_toOf_2 ?_
  refine zs_k hC dX11_toOf_3 ?_
  refine zs_iand hC dX11_toOf_5 ?_
  exact zs_iret hC hret dX11_toOf_6 hf
set_option maxRecDepth 20000 in
set_option maxHeartbeats 4000000 in
theorem ctX11_toOf {E : zEV} {F : Nat} {v0 : Int32} {μ : zMem} {out : zR} (hf : fX11_toOf F v0 μ = some out) : zCt E yX11_toOf cX11_toOf 1 (some .int) 0 [.int v0] μ out :=
  zCt.of [some (.int v0)] (by decide +kernel) (Nat.le_of_ble_eq_true rfl) (zLw_s zLw_0) rfl (fun X hE ho hr hC => by
    subst hE; subst ho
    exact wX11_toOf hC hr hf)
/-! X0_tallies -/
def fX0_tallies_34 (F : Nat) (h1 : Nat) (k24 : Int32 → zMem → Option zR) : Nat → Int32 → Int32 → zMem → Option zR
  | 0, _, _, _ => none
  | n + 1, v2, v3, μ => zG v2 20 (if (μ (h1 + 3) v2.toNatClampNeg) ≤ v3 then k24 (v2 + (nI 1)) μ else zBd (fX8_whisperOf F h1 v2 v3 μ) (fun r2 m2 => zBd (fX11_fromOf F r2 m2) (fun r4 m4 => zBd (fX11_toOf F r2 m4) (fun r5 m5 => zG ((r4 * (nI 16)) + r5) 256 (zG ((r4 * (nI 16)) + r5) 256 (zLt (zUp m5 55 ((r4 * (nI 16)) + r5).toNatClampNeg ((m5 55 ((r4 * (nI 16)) + r5).toNatClampNeg) + (nI 1))) (fun m6 => fX0_tallies_34 F h1 k24 n v2 (v3 + (nI 1)) m6)))))))
def fX0_tallies_24 (F : Nat) (h1 : Nat) : Nat → Int32 → zMem → Option zR
  | 0, _, _ => none
  | n + 1, v2, μ => zBd (fX8_issues F h1 μ) (fun r1 m1 => if r1 ≤ v2 then some ((nI 0), m1) else fX0_tallies_34 F h1 (fX0_tallies_24 F h1 n) F v2 (nI 0) m1)
def fX0_tallies_2 (F : Nat) (h1 : Nat) : Nat → Int32 → zMem → Option zR
  | 0, _, _ => none
  | n + 1, v2, μ => if (nI 256) ≤ v2 then fX0_tallies_24 F h1 F (nI 0) μ else zG v2 256 (zLt (zUp μ 55 v2.toNatClampNeg (nI 0)) (fun m2 => fX0_tallies_2 F h1 n (v2 + (nI 1)) m2))
def fX0_tallies (F : Nat) (h1 : Nat) (μ : zMem) : Option zR :=
  fX0_tallies_2 F h1 F (nI 0) μ
set_option maxRecDepth 20000 in
set_option maxHeartbeats 4000000 in
theorem wX0_tallies_34 {X : zX} {F h1 : Nat} (hC : zCx X RX0 cX0_tallies 5 2) (hh1 : zIsSt h1 = true) (hret : zRt X none) {k24 : Int32 → zMem → Option zR} (hk24 : ∀ v2 μ, k24 v2 μ = some (zOut X) → zAW X 24 [some (.ref 54), some (.ref h1), some (.int v2), none, none] [] μ) : ∀ (n : Nat) (v2 : Int32) (v3 : Int32) (μ : zMem), fX0_tallies_34 F h1 k24 n v2 v3 μ = some (zOut X) → zAW X 34 [some (.ref 54), some (.ref h1), some (.int v2), some (.int v3), none] [] μ := by
  intro n
  induction n with
  | zero =>
    intro v2 v3 μ hf
    rw [fX0_tallies_34] at hf
    cases hf
  | succ n ih =>
    intro v2 v3 μ hf
    rw [fX0_tallies_34] at hf
    refine zs_il hC dX0_tallies_34 rfl ?_
    refine zs_al hC dX0_tallies_35 rfl ?_
    refine zs_getR (h1 + 3) hC fl_RX0_21 (zSt0 hh1) rfl dX0_tallies_36 ?_
    refine zs_il hC dX0_tallies_39 rfl ?_
    refine zs_iald hC (zSt3 hh1) dX0_tallies_40 (fun _ hf => ?_) hf
    refine zs_ic_ge hC dX0_tallies_41 (fun _ hf => ?_) (fun _ hf => ?_) hf
    · refine zs_iinc (nI 1) hC dX0_tallies_81 (by decide) rfl (by decide) rfl ?_
      refine zs_goto hC dX0_tallies_84 ?_
      exact zAW.weak (hk24 _ _ hf) (zLw_s (zLw_s (zLw_s (zLw_n (zLw_n zLw_0)))))
    · refine zs_al hC dX0_tallies_44 rfl ?_
      refine zs_il hC dX0_tallies_45 rfl ?_
      refine zs_il hC dX0_tallies_46 rfl ?_
      refine zs_callV [.int v2, .int v3] hC cw_X8_whisperOf cl_RX0_24 (zSt0 hh1) rfl (by decide) rfl rfl (Nat.le_of_ble_eq_true rfl) dX0_tallies_47 (fun _ h => ctX8_whisperOf (hh1) h) (fun r2 m2 _ hf => ?_) hf
      show zAW X 50 _ (.int r2 :: _) m2
      refine zs_is hC dX0_tallies_50 (by decide) rfl ?_
      refine zs_al hC dX0_tallies_52 rfl ?_
      refine zs_getR 55 hC fl_RX0_9 zL54 rfl dX0_tallies_53 ?_
      refine zs_il hC dX0_tallies_56 rfl ?_
      refine zs_callN [.int r2] hC cw_X11_fromOf cl_RX0_28 (by decide) rfl rfl (Nat.le_of_ble_eq_true rfl) dX0_tallies_58 (fun _ h => ctX11_fromOf h) (fun r4 m4 _ hf => ?_) hf
      show zAW X 61 _ (.int r4 :: _) m4
      refine zs_k hC dX0_tallies_61 ?_
      refine zs_imul hC dX0_tallies_63 ?_
      refine zs_il hC dX0_tallies_64 rfl ?_
      refine zs_callN [.int r2] hC cw_X11_toOf cl_RX0_32 (by decide) rfl rfl (Nat.le_of_ble_eq_true rfl) dX0_tallies_66 (fun _ h => ctX11_toOf h) (fun r5 m5 _ hf => ?_) hf
      show zAW X 69 _ (.int r5 :: _) m5
      refine zs_iadd hC dX0_tallies_69 ?_
      refine zs_dup2 hC dX0_tallies_70 rfl rfl ?_
      refine zs_iald hC zL55 dX0_tallies_71 (fun _ hf => ?_) hf
      refine zs_k hC dX0_tallies_72 ?_
      refine zs_iadd hC dX0_tallies_73 ?_
      refine zs_iast hC zL55 dX0_tallies_74 (fun _ hf => ?_) hf
      refine zs_let (fun m6 _ hf => ?_) hf
      refine zs_iinc (nI 1) hC dX0_tallies_75 (by decide) rfl (by decide) rfl ?_
      refine zs_goto hC dX0_tallies_78 ?_
      exact zAW.weak (ih _ _ _ hf) (zLw_s (zLw_s (zLw_s (zLw_s (zLw_n zLw_0)))))
set_option maxRecDepth 20000 in
set_option maxHeartbeats 4000000 in
theorem wX0_tallies_24 {X : zX} {F h1 : Nat} (hC : zCx X RX0 cX0_tallies 5 2) (hh1 : zIsSt h1 = true) (hret : zRt X none) : ∀ (n : Nat) (v2 : Int32) (μ : zMem), fX0_tallies_24 F h1 n v2 μ = some (zOut X) → zAW X 24 [some (.ref 54), some (.ref h1), some (.int v2), none, none] [] μ := by
  intro n
  induction n with
  | zero =>
    intro v2 μ hf
    rw [fX0_tallies_24] at hf
    cases hf
  | succ n ih =>
    intro v2 μ hf
    rw [fX0_tallies_24] at hf
    refine zs_il hC dX0_tallies_24 rfl ?_
    refine zs_al hC dX0_tallies_25 rfl ?_
    refine zs_callV [] hC cw_X8_issues cl_RX0_15 (zSt0 hh1) rfl (by decide) rfl rfl (Nat.le_of_ble_eq_true rfl) dX0_tallies_26 (fun _ h => ctX8_issues (hh1) h) (fun r1 m1 _ hf => ?_) hf
    show zAW X 29 _ (.int r1 :: _) m1
    refine zs_ic_ge hC dX0_tallies_29 (fun _ hf => ?_) (fun _ hf => ?_) hf
    · exact zs_vret hC hret dX0_tallies_87 hf
    · refine zs_k hC dX0_tallies_32 ?_
      refine zs_is hC dX0_tallies_33 (by decide) rfl ?_
      exact zAW.weak (wX0_tallies_34 hC hh1 hret (ih) F _ _ _ hf) (zLw_s (zLw_s (zLw_s (zLw_s (zLw_n zLw_0)))))
set_option maxRecDepth 20000 in
set_option maxHeartbeats 4000000 in
theorem wX0_tallies_2 {X : zX} {F h1 : Nat} (hC : zCx X RX0 cX0_tallies 5 2) (hh1 : zIsSt h1 = true) (hret : zRt X none) : ∀ (n : Nat) (v2 : Int32) (μ : zMem), fX0_tallies_2 F h1 n v2 μ = some (zOut X) → zAW X 2 [some (.ref 54), some (.ref h1), some (.int v2), none, none] [] μ := by
  intro n
  induction n with
  | zero =>
    intro v2 μ hf
    rw [fX0_tallies_2] at hf
    cases hf
  | succ n ih =>
    intro v2 μ hf
    rw [fX0_tallies_2] at hf
    refine zs_il hC dX0_tallies_2 rfl ?_
    refine zs_k hC dX0_tallies_3 ?_
    refine zs_ic_ge hC dX0_tallies_6 (fun _ hf => ?_) (fun _ hf => ?_) hf
    · refine zs_k hC dX0_tallies_22 ?_
      refine zs_is hC dX0_tallies_23 (by decide) rfl ?_
      exact zAW.weak (wX0_tallies_24 hC hh1 hret F _ _ hf) (zLw_s (zLw_s (zLw_s (zLw_n (zLw_n zLw_0)))))
    · refine zs_al hC dX0_tallies_9 rfl ?_
      refine zs_getR 55 hC fl_RX0_9 zL54 rfl dX0_tallies_10 ?_
      refine zs_il hC dX0_tallies_13 rfl ?_
      refine zs_k hC dX0_tallies_14 ?_
      refine zs_iast hC zL55 dX0_tallies_15 (fun _ hf => ?_) hf
      refine zs_let (fun m2 _ hf => ?_) hf
      refine zs_iinc (nI 1) hC dX0_tallies_16 (by decide) rfl (by decide) rfl ?_
      refine zs_goto hC dX0_tallies_19 ?_
      exact zAW.weak (ih _ _ hf) (zLw_s (zLw_s (zLw_s (zLw_n (zLw_n zLw_0)))))
set_option maxRecDepth 20000 in
set_option maxHeartbeats 4000000 in
theorem wX0_tallies {X : zX} {F h1 : Nat} (hC : zCx X RX0 cX0_tallies 5 2) (hh1 : zIsSt h1 = true) (hret : zRt X none) {μ : zMem} (hf : fX0_tallies F h1 μ = some (zOut X)) : zAW X 0 [some (.ref 54), some (.ref h1), none, none, none] [] μ := by
  unfold fX0_tallies at hf
  refine zs_k hC dX0_tallies_0 ?_
  refine zs_is hC dX0_tallies_1 (by decide) rfl ?_
  exact zAW.weak (wX0_tallies_2 hC hh1 hret F _ _ hf) (zLw_s (zLw_s (zLw_s (zLw_n (zLw_n zLw_0)))))
set_option maxRecDepth 20000 in
set_option maxHeartbeats 4000000 in
theorem ctX0_tallies {E : zEV} {F : Nat} {h1 : Nat} {μ : zMem} {out : zR} (hh1 : zIsSt h1 = true) (hf : fX0_tallies F h1 μ = some out) : zCt E yX0_tallies cX0_tallies 5 none 2 [.ref 54, .ref h1] μ out :=
  zCt.of [some (.ref 54), some (.ref h1), none, none, none] (by decide +kernel) (Nat.le_of_ble_eq_true rfl) (zLw_s (zLw_s (zLw_e (zLw_e (zLw_e zLw_0))))) rfl (fun X hE ho hr hC => by
    subst hE; subst ho
    exact wX0_tallies hC hh1 hr hf)
/-! X0_mostOftenPair -/
def fX0_mostOftenPair_4 (F : Nat) : Nat → Int32 → Int32 → zMem → Option zR
  | 0, _, _, _ => none
  | n + 1, v1, v2, μ => if (nI 256) ≤ v2 then some (v1, μ) else zG v2 256 (zG v1 256 (if (μ 55 v2.toNatClampNeg) ≤ (μ 55 v1.toNatClampNeg) then fX0_mostOftenPair_4 F n v1 (v2 + (nI 1)) μ else fX0_mostOftenPair_4 F n v2 (v2 + (nI 1)) μ))
def fX0_mostOftenPair (F : Nat) (μ : zMem) : Option zR :=
  fX0_mostOftenPair_4 F F (nI 0) (nI 1) μ
set_option maxRecDepth 20000 in
set_option maxHeartbeats 4000000 in
theorem wX0_mostOftenPair_4 {X : zX} {F : Nat} (hC : zCx X RX0 cX0_mostOftenPair 3 0) (hret : zRt X (some .int)) : ∀ (n : Nat) (v1 : Int32) (v2 : Int32) (μ : zMem), fX0_mostOftenPair_4 F n v1 v2 μ = some (zOut X) → zAW X 4 [some (.ref 54), some (.int v1), some (.int v2)] [] μ := by
  intro n
  induction n with
  | zero =>
    intro v1 v2 μ hf
    rw [fX0_mostOftenPair_4] at hf
    cases hf
  | succ n ih =>
    intro v1 v2 μ hf
    rw [fX0_mostOftenPair_4] at hf
    refine zs_il hC dX0_mostOftenPair_4 rfl ?_
    refine zs_k hC dX0_mostOftenPair_5 ?_
    refine zs_ic_ge hC dX0_mostOftenPair_8 (fun _ hf => ?_) (fun _ hf => ?_) hf
    · refine zs_il hC dX0_mostOftenPair_34 rfl ?_
      exact zs_iret hC hret dX0_mostOftenPair_35 hf
    · refine zs_al hC dX0_mostOftenPair_11 rfl ?_
      refine zs_getR 55 hC fl_RX0_9 zL54 rfl dX0_mostOftenPair_12 ?_
      refine zs_il hC dX0_mostOftenPair_15 rfl ?_
      refine zs_iald hC zL55 dX0_mostOftenPair_16 (fun _ hf => ?_) hf
      refine zs_al hC dX0_mostOftenPair_17 rfl ?_
      refine zs_getR 55 hC fl_RX0_9 zL54 rfl dX0_mostOftenPair_18 ?_
      refine zs_il hC dX0_mostOftenPair_21 rfl ?_
      refine zs_iald hC zL55 dX0_mostOftenPair_22 (fun _ hf => ?_) hf
      refine zs_ic_le hC dX0_mostOftenPair_23 (fun _ hf => ?_) (fun _ hf => ?_) hf
      · refine zs_iinc (nI 1) hC dX0_mostOftenPair_28 (by decide) rfl (by decide) rfl ?_
        refine zs_goto hC dX0_mostOftenPair_31 ?_
        exact zAW.weak (ih _ _ _ hf) (zLw_s (zLw_s (zLw_s zLw_0)))
      · refine zs_il hC dX0_mostOftenPair_26 rfl ?_
        refine zs_is hC dX0_mostOftenPair_27 (by decide) rfl ?_
        refine zs_iinc (nI 1) hC dX0_mostOftenPair_28 (by decide) rfl (by decide) rfl ?_
        refine zs_goto hC dX0_mostOftenPair_31 ?_
        exact zAW.weak (ih _ _ _ hf) (zLw_s (zLw_s (zLw_s zLw_0)))
set_option maxRecDepth 20000 in
set_option maxHeartbeats 4000000 in
theorem wX0_mostOftenPair {X : zX} {F : Nat} (hC : zCx X RX0 cX0_mostOftenPair 3 0) (hret : zRt X (some .int)) {μ : zMem} (hf : fX0_mostOftenPair F μ = some (zOut X)) : zAW X 0 [some (.ref 54), none, none] [] μ := by
  unfold fX0_mostOftenPair at hf
  refine zs_k hC dX0_mostOftenPair_0 ?_
  refine zs_is hC dX0_mostOftenPair_1 (by decide) rfl ?_
  refine zs_k hC dX0_mostOftenPair_2 ?_
  refine zs_is hC dX0_mostOftenPair_3 (by decide) rfl ?_
  exact zAW.weak (wX0_mostOftenPair_4 hC hret F _ _ _ hf) (zLw_s (zLw_s (zLw_s zLw_0)))
set_option maxRecDepth 20000 in
set_option maxHeartbeats 4000000 in
theorem ctX0_mostOftenPair {E : zEV} {F : Nat} {μ : zMem} {out : zR} (hf : fX0_mostOftenPair F μ = some out) : zCt E yX0_mostOftenPair cX0_mostOftenPair 3 (some .int) 0 [.ref 54] μ out :=
  zCt.of [some (.ref 54), none, none] (by decide +kernel) (Nat.le_of_ble_eq_true rfl) (zLw_s (zLw_e (zLw_e zLw_0))) rfl (fun X hE ho hr hC => by
    subst hE; subst ho
    exact wX0_mostOftenPair hC hr hf)
/-! X0_timesTo -/
def fX0_timesTo_4 (F : Nat) : Nat → Int32 → Int32 → Int32 → zMem → Option zR
  | 0, _, _, _, _ => none
  | n + 1, v1, v2, v3, μ => if (nI 16) ≤ v3 then some (v2, μ) else zG ((v3 * (nI 16)) + v1) 256 (fX0_timesTo_4 F n v1 (v2 + (μ 55 ((v3 * (nI 16)) + v1).toNatClampNeg)) (v3 + (nI 1)) μ)
def fX0_timesTo (F : Nat) (v1 : Int32) (μ : zMem) : Option zR :=
  fX0_timesTo_4 F F v1 (nI 0) (nI 0) μ
set_option maxRecDepth 20000 in
set_option maxHeartbeats 4000000 in
theorem wX0_timesTo_4 {X : zX} {F : Nat} (hC : zCx X RX0 cX0_timesTo 4 0) (hret : zRt X (some .int)) : ∀ (n : Nat) (v1 : Int32) (v2 : Int32) (v3 : Int32) (μ : zMem), fX0_timesTo_4 F n v1 v2 v3 μ = some (zOut X) → zAW X 4 [some (.ref 54), some (.int v1), some (.int v2), some (.int v3)] [] μ := by
  intro n
  induction n with
  | zero =>
    intro v1 v2 v3 μ hf
    rw [fX0_timesTo_4] at hf
    cases hf
  | succ n ih =>
    intro v1 v2 v3 μ hf
    rw [fX0_timesTo_4] at hf
    refine zs_il hC dX0_timesTo_4 rfl ?_
    refine zs_k hC dX0_timesTo_5 ?_
    refine zs_ic_ge hC dX0_timesTo_7 (fun _ hf => ?_) (fun _ hf => ?_) hf
    · refine zs_il hC dX0_timesTo_30 rfl ?_
      exact zs_iret hC hret dX0_timesTo_31 hf
    · refine zs_il hC dX0_timesTo_10 rfl ?_
      refine zs_al hC dX0_timesTo_11 rfl ?_
      refine zs_getR 55 hC fl_RX0_9 zL54 rfl dX0_timesTo_12 ?_
      refine zs_il hC dX0_timesTo_15 rfl ?_
      refine zs_k hC dX0_timesTo_16 ?_
      refine zs_imul hC dX0_timesTo_18 ?_
      refine zs_il hC dX0_timesTo_19 rfl ?_
      refine zs_iadd hC dX0_timesTo_20 ?_
      refine zs_iald hC zL55 dX0_timesTo_21 (fun _ hf => ?_) hf
      refine zs_iadd hC dX0_timesTo_22 ?_
      refine zs_is hC dX0_timesTo_23 (by decide) rfl ?_
      refine zs_iinc (nI 1) hC dX0_timesTo_24 (by decide) rfl (by decide) rfl ?_
      refine zs_goto hC dX0_timesTo_27 ?_
      exact zAW.weak (ih _ _ _ _ hf) (zLw_s (zLw_s (zLw_s (zLw_s zLw_0))))
set_option maxRecDepth 20000 in
set_option maxHeartbeats 4000000 in
theorem wX0_timesTo {X : zX} {F : Nat} (hC : zCx X RX0 cX0_timesTo 4 0) (hret : zRt X (some .int)) {v1 : Int32} {μ : zMem} (hf : fX0_timesTo F v1 μ = some (zOut X)) : zAW X 0 [some (.ref 54), some (.int v1), none, none] [] μ := by
  unfold fX0_timesTo at hf
  refine zs_k hC dX0_timesTo_0 ?_
  refine zs_is hC dX0_timesTo_1 (by decide) rfl ?_
  refine zs_k hC dX0_timesTo_2 ?_
  refine zs_is hC dX0_timesTo_3 (by decide) rfl ?_
  exact zAW.weak (wX0_timesTo_4 hC hret F _ _ _ _ hf) (zLw_s (zLw_s (zLw_s (zLw_s zLw_0))))
set_option maxRecDepth 20000 in
set_option maxHeartbeats 4000000 in
theorem ctX0_timesTo {E : zEV} {F : Nat} {v1 : Int32} {μ : zMem} {out : zR} (hf : fX0_timesTo F v1 μ = some out) : zCt E yX0_timesTo cX0_timesTo 4 (some .int) 0 [.ref 54, .int v1] μ out :=
  zCt.of [some (.ref 54), some (.int v1), none, none] (by decide +kernel) (Nat.le_of_ble_eq_true rfl) (zLw_s (zLw_s (zLw_e (zLw_e zLw_0)))) rfl (fun X hE ho hr hC => by
    subst hE; subst ho
    exact wX0_timesTo hC hr hf)
/-! X0_mostWhisperedTo -/
def fX0_mostWhisperedTo_4 (F : Nat) : Nat → Int32 → Int32 → zMem → Option zR
  | 0, _, _, _ => none
  | n + 1, v1, v2, μ => if (nI 16) ≤ v2 then some (v1, μ) else zBd (fX0_timesTo F v2 μ) (fun r1 m1 => zBd (fX0_timesTo F v1 m1) (fun r2 m2 => if r1 ≤ r2 then fX0_mostWhisperedTo_4 F n v1 (v2 + (nI 1)) m2 else fX0_mostWhisperedTo_4 F n v2 (v2 + (nI 1)) m2))
def fX0_mostWhisperedTo (F : Nat) (μ : zMem) : Option zR :=
  fX0_mostWhisperedTo_4 F F (nI 0) (nI 1) μ
set_option maxRecDepth 20000 in
set_option maxHeartbeats 4000000 in
theorem wX0_mostWhisperedTo_4 {X : zX} {F : Nat} (hC : zCx X RX0 cX0_mostWhisperedTo 3 1) (hret : zRt X (some .int)) : ∀ (n : Nat) (v1 : Int32) (v2 : Int32) (μ : zMem), fX0_mostWhisperedTo_4 F n v1 v2 μ = some (zOut X) → zAW X 4 [some (.ref 54), some (.int v1), some (.int v2)] [] μ := by
  intro n
  induction n with
  | zero =>
    intro v1 v2 μ hf
    rw [fX0_mostWhisperedTo_4] at hf
    cases hf
  | succ n ih =>
    intro v1 v2 μ hf
    rw [fX0_mostWhisperedTo_4] at hf
    refine zs_il hC dX0_mostWhisperedTo_4 rfl ?_
    refine zs_k hC dX0_mostWhisperedTo_5 ?_
    refine zs_ic_ge hC dX0_mostWhisperedTo_7 (fun _ hf => ?_) (fun _ hf => ?_) hf
    · refine zs_il hC dX0_mostWhisperedTo_31 rfl ?_
      exact zs_iret hC hret dX0_mostWhisperedTo_32 hf
    · refine zs_al hC dX0_mostWhisperedTo_10 rfl ?_
      refine zs_il hC dX0_mostWhisperedTo_11 rfl ?_
      refine zs_callV [.int v2] hC cw_X0_timesTo cl_RX0_35 zL54 rfl (by decide) rfl rfl (Nat.le_of_ble_eq_true rfl) dX0_mostWhisperedTo_12 (fun _ h => ctX0_timesTo h) (fun r1 m1 _ hf => ?_) hf
      show zAW X 15 _ (.int r1 :: _) m1
      refine zs_al hC dX0_mostWhisperedTo_15 rfl ?_
      refine zs_il hC dX0_mostWhisperedTo_16 rfl ?_
      refine zs_callV [.int v1] hC cw_X0_timesTo cl_RX0_35 zL54 rfl (by decide) rfl rfl (Nat.le_of_ble_eq_true rfl) dX0_mostWhisperedTo_17 (fun _ h => ctX0_timesTo h) (fun r2 m2 _ hf => ?_) hf
      show zAW X 20 _ (.int r2 :: _) m2
      refine zs_ic_le hC dX0_mostWhisperedTo_20 (fun _ hf => ?_) (fun _ hf => ?_) hf
      · refine zs_iinc (nI 1) hC dX0_mostWhisperedTo_25 (by decide) rfl (by decide) rfl ?_
        refine zs_goto hC dX0_mostWhisperedTo_28 ?_
        exact zAW.weak (ih _ _ _ hf) (zLw_s (zLw_s (zLw_s zLw_0)))
      · refine zs_il hC dX0_mostWhisperedTo_23 rfl ?_
        refine zs_is hC dX0_mostWhisperedTo_24 (by decide) rfl ?_
        refine zs_iinc (nI 1) hC dX0_mostWhisperedTo_25 (by decide) rfl (by decide) rfl ?_
        refine zs_goto hC dX0_mostWhisperedTo_28 ?_
        exact zAW.weak (ih _ _ _ hf) (zLw_s (zLw_s (zLw_s zLw_0)))
set_option maxRecDepth 20000 in
set_option maxHeartbeats 4000000 in
theorem wX0_mostWhisperedTo {X : zX} {F : Nat} (hC : zCx X RX0 cX0_mostWhisperedTo 3 1) (hret : zRt X (some .int)) {μ : zMem} (hf : fX0_mostWhisperedTo F μ = some (zOut X)) : zAW X 0 [some (.ref 54), none, none] [] μ := by
  unfold fX0_mostWhisperedTo at hf
  refine zs_k hC dX0_mostWhisperedTo_0 ?_
  refine zs_is hC dX0_mostWhisperedTo_1 (by decide) rfl ?_
  refine zs_k hC dX0_mostWhisperedTo_2 ?_
  refine zs_is hC dX0_mostWhisperedTo_3 (by decide) rfl ?_
  exact zAW.weak (wX0_mostWhisperedTo_4 hC hret F _ _ _ hf) (zLw_s (zLw_s (zLw_s zLw_0)))
set_option maxRecDepth 20000 in
set_option maxHeartbeats 4000000 in
theorem ctX0_mostWhisperedTo {E : zEV} {F : Nat} {μ : zMem} {out : zR} (hf : fX0_mostWhisperedTo F μ = some out) : zCt E yX0_mostWhisperedTo cX0_mostWhisperedTo 3 (some .int) 1 [.ref 54] μ out :=
  zCt.of [some (.ref 54), none, none] (by decide +kernel) (Nat.le_of_ble_eq_true rfl) (zLw_s (zLw_e (zLw_e zLw_0))) rfl (fun X hE ho hr hC => by
    subst hE; subst ho
    exact wX0_mostWhisperedTo hC hr hf)
/-! X0_whisperedToBy -/
def fX0_whisperedToBy_4 (F : Nat) : Nat → Int32 → Int32 → Int32 → zMem → Option zR
  | 0, _, _, _, _ => none
  | n + 1, v1, v2, v3, μ => if (nI 16) ≤ v3 then some (v2, μ) else zG ((v1 * (nI 16)) + v3) 256 (if (μ 55 ((v1 * (nI 16)) + v3).toNatClampNeg) ≤ 0 then fX0_whisperedToBy_4 F n v1 v2 (v3 + (nI 1)) μ else fX0_whisperedToBy_4 F n v1 (v2 ||| ((nI 1) <<< (v3 &&& 31))) (v3 + (nI 1)) μ)
def fX0_whisperedToBy (F : Nat) (v1 : Int32) (μ : zMem) : Option zR :=
  fX0_whisperedToBy_4 F F v1 (nI 0) (nI 0) μ
set_option maxRecDepth 20000 in
set_option maxHeartbeats 4000000 in
theorem wX0_whisperedToBy_4 {X : zX} {F : Nat} (hC : zCx X RX0 cX0_whisperedToBy 4 0) (hret : zRt X (some .int)) : ∀ (n : Nat) (v1 : Int32) (v2 : Int32) (v3 : Int32) (μ : zMem), fX0_whisperedToBy_4 F n v1 v2 v3 μ = some (zOut X) → zAW X 4 [some (.ref 54), some (.int v1), some (.int v2), some (.int v3)] [] μ := by
  intro n
  induction n with
  | zero =>
    intro v1 v2 v3 μ hf
    rw [fX0_whisperedToBy_4] at hf
    cases hf
  | succ n ih =>
    intro v1 v2 v3 μ hf
    rw [fX0_whisperedToBy_4] at hf
    refine zs_il hC dX0_whisperedToBy_4 rfl ?_
    refine zs_k hC dX0_whisperedToBy_5 ?_
    refine zs_ic_ge hC dX0_whisperedToBy_7 (fun _ hf => ?_) (fun _ hf => ?_) hf
    · refine zs_il hC dX0_whisperedToBy_36 rfl ?_
      exact zs_iret hC hret dX0_whisperedToBy_37 hf
    · refine zs_al hC dX0_whisperedToBy_10 rfl ?_
      refine zs_getR 55 hC fl_RX0_9 zL54 rfl dX0_whisperedToBy_11 ?_
      refine zs_il hC dX0_whisperedToBy_14 rfl ?_
      refine zs_k hC dX0_whisperedToBy_15 ?_
      refine zs_imul hC dX0_whisperedToBy_17 ?_
      refine zs_il hC dX0_whisperedToBy_18 rfl ?_
      refine zs_iadd hC dX0_whisperedToBy_19 ?_
      refine zs_iald hC zL55 dX0_whisperedToBy_20 (fun _ hf => ?_) hf
      refine zs_if_le hC dX0_whisperedToBy_21 (fun _ hf => ?_) (fun _ hf => ?_) hf
      · refine zs_iinc (nI 1) hC dX0_whisperedToBy_30 (by decide) rfl (by decide) rfl ?_
        refine zs_goto hC dX0_whisperedToBy_33 ?_
        exact zAW.weak (ih _ _ _ _ hf) (zLw_s (zLw_s (zLw_s (zLw_s zLw_0))))
      · refine zs_il hC dX0_whisperedToBy_24 rfl ?_
        refine zs_k hC dX0_whisperedToBy_25 ?_
        refine zs_il hC dX0_whisperedToBy_26 rfl ?_
        refine zs_ishl hC dX0_whisperedToBy_27 ?_
        refine zs_ior hC dX0_whisperedToBy_28 ?_
        refine zs_is hC dX0_whisperedToBy_29 (by decide) rfl ?_
        refine zs_iinc (nI 1) hC dX0_whisperedToBy_30 (by decide) rfl (by decide) rfl ?_
        refine zs_goto hC dX0_whisperedToBy_33 ?_
        exact zAW.weak (ih _ _ _ _ hf) (zLw_s (zLw_s (zLw_s (zLw_s zLw_0))))
set_option maxRecDepth 20000 in
set_option maxHeartbeats 4000000 in
theorem wX0_whisperedToBy {X : zX} {F : Nat} (hC : zCx X RX0 cX0_whisperedToBy 4 0) (hret : zRt X (some .int)) {v1 : Int32} {μ : zMem} (hf : fX0_whisperedToBy F v1 μ = some (zOut X)) : zAW X 0 [some (.ref 54), some (.int v1), none, none] [] μ := by
  unfold fX0_whisperedToBy at hf
  refine zs_k hC dX0_whisperedToBy_0 ?_
  refine zs_is hC dX0_whisperedToBy_1 (by decide) rfl ?_
  refine zs_k hC dX0_whisperedToBy_2 ?_
  refine zs_is hC dX0_whisperedToBy_3 (by decide) rfl ?_
  exact zAW.weak (wX0_whisperedToBy_4 hC hret F _ _ _ _ hf) (zLw_s (zLw_s (zLw_s (zLw_s zLw_0))))
set_option maxRecDepth 20000 in
set_option maxHeartbeats 4000000 in
theorem ctX0_whisperedToBy {E : zEV} {F : Nat} {v1 : Int32} {μ : zMem} {out : zR} (hf : fX0_whisperedToBy F v1 μ = some out) : zCt E yX0_whisperedToBy cX0_whisperedToBy 4 (some .int) 0 [.ref 54, .int v1] μ out :=
  zCt.of [some (.ref 54), some (.int v1), none, none] (by decide +kernel) (Nat.le_of_ble_eq_true rfl) (zLw_s (zLw_s (zLw_e (zLw_e zLw_0)))) rfl (fun X hE ho hr hC => by
    subst hE; subst ho
    exact wX0_whisperedToBy hC hr hf)
/-! X11_hasBit -/
def fX11_hasBit (F : Nat) (v0 : Int32) (v1 : Int32) (μ : zMem) : Option zR :=
  if ((v0 >>> (v1 &&& 31)) &&& (nI 1)) = 0 then some ((nI 0), μ) else some ((nI 1), μ)
set_option maxRecDepth 20000 in
set_option maxHeartbeats 4000000 in
theorem wX11_hasBit {X : zX} {F : Nat} (hC : zCx X RX11 cX11_hasBit 2 0) (hret : zRt X (some .boolean)) {v0 : Int32} {v1 : Int32} {μ : zMem} (hf : fX11_hasBit F v0 v1 μ = some (zOut X)) : zAW X 0 [some (.int v0), some (.int v1)] [] μ := by
  unfold fX11_hasBit at hf
  refine zs_il hC dX11_hasBit_0 rfl ?_
  refine zs_il hC dX11_hasBit_1 rfl ?_
  refine zs_ishr hC dX11_hasBit_2 ?_
  refine zs_k hC dX11_hasBit_3 ?_
  refine zs_iand hC dX11_hasBit_4 ?_
  refine zs_if_eq hC dX11_hasBit_5 (fun _ hf => ?_) (fun _ hf => ?_) hf
  · refine zs_k hC dX11_hasBit_12 ?_
    exact zs_zretK hC hret dX11_hasBit_13 (by decide) hf
  · refine zs_k hC dX11_hasBit_8 ?_
    refine zs_goto hC dX11_hasBit_9 ?_
    exact zs_zretK hC hret dX11_hasBit_13 (by decide) hf
set_option maxRecDepth 20000 in
set_option maxHeartbeats 4000000 in
theorem ctX11_hasBit {E : zEV} {F : Nat} {v0 : Int32} {v1 : Int32} {μ : zMem} {out : zR} (hf : fX11_hasBit F v0 v1 μ = some out) : zCt E yX11_hasBit cX11_hasBit 2 (some .boolean) 0 [.int v0, .int v1] μ out :=
  zCt.of [some (.int v0), some (.int v1)] (by decide +kernel) (Nat.le_of_ble_eq_true rfl) (zLw_s (zLw_s zLw_0)) rfl (fun X hE ho hr hC => by
    subst hE; subst ho
    exact wX11_hasBit hC hr hf)
/-! X0_reachedFrom -/
def fX0_reachedFrom_20 (F : Nat) (k8 : Int32 → Int32 → zMem → Option zR) : Nat → Int32 → Int32 → Int32 → Int32 → zMem → Option zR
  | 0, _, _, _, _, _ => none
  | n + 1, v2, v3, v4, v5, μ => if (nI 16) ≤ v5 then if v4 = v2 then some (v2, μ) else k8 v4 (v3 + (nI 1)) μ else zBd (fX11_hasBit F v2 v5 μ) (fun r1 m1 => if r1 = 0 then fX0_reachedFrom_20 F k8 n v2 v3 v4 (v5 + (nI 1)) m1 else zBd (fX0_whisperedToBy F v5 m1) (fun r2 m2 => fX0_reachedFrom_20 F k8 n v2 v3 (v4 ||| r2) (v5 + (nI 1)) m2))
def fX0_reachedFrom_8 (F : Nat) : Nat → Int32 → Int32 → zMem → Option zR
  | 0, _, _, _ => none
  | n + 1, v2, v3, μ => if (nI 16) ≤ v3 then some (v2, μ) else fX0_reachedFrom_20 F (fX0_reachedFrom_8 F n) F v2 v3 v2 (nI 0) μ
def fX0_reachedFrom (F : Nat) (v1 : Int32) (μ : zMem) : Option zR :=
  zBd (fX0_whisperedToBy F v1 μ) (fun r1 m1 => fX0_reachedFrom_8 F F r1 (nI 1) m1)
set_option maxRecDepth 20000 in
set_option maxHeartbeats 4000000 in
theorem wX0_reachedFrom_20 {X : zX} {F : Nat} (hC : zCx X RX0 cX0_reachedFrom 6 1) (hret : zRt X (some .int)) {k8 : Int32 → Int32 → zMem → Option zR} (hk8 : ∀ v2 v3 μ, k8 v2 v3 μ = some (zOut X) → zAW X 8 [some (.ref 54), none, some (.int v2), some (.int v3), none, none] [] μ) : ∀ (n : Nat) (v2 : Int32) (v3 : Int32) (v4 : Int32) (v5 : Int32) (μ : zMem), fX0_reachedFrom_20 F k8 n v2 v3 v4 v5 μ = some (zOut X) → zAW X 20 [some (.ref 54), none, some (.int v2), some (.int v3), some (.int v4), some (.int v5)] [] μ := by
  intro n
  induction n with
  | zero =>
    intro v2 v3 v4 v5 μ hf
    rw [fX0_reachedFrom_20] at hf
    cases hf
  | succ n ih =>
    intro v2 v3 v4 v5 μ hf
    rw [fX0_reachedFrom_20] at hf
    refine zs_il hC dX0_reachedFrom_20 rfl ?_
    refine zs_k hC dX0_reachedFrom_22 ?_
    refine zs_ic_ge hC dX0_reachedFrom_24 (fun _ hf => ?_) (fun _ hf => ?_) hf
    · refine zs_il hC dX0_reachedFrom_53 rfl ?_
      refine zs_il hC dX0_reachedFrom_55 rfl ?_
      refine zs_ic_ne hC dX0_reachedFrom_56 (fun _ hf => ?_) (fun _ hf => ?_) hf
      · refine zs_goto hC dX0_reachedFrom_59 ?_
        refine zs_il hC dX0_reachedFrom_71 rfl ?_
        exact zs_iret hC hret dX0_reachedFrom_72 hf
      · refine zs_il hC dX0_reachedFrom_62 rfl ?_
        refine zs_is hC dX0_reachedFrom_64 (by decide) rfl ?_
        refine zs_iinc (nI 1) hC dX0_reachedFrom_65 (by decide) rfl (by decide) rfl ?_
        refine zs_goto hC dX0_reachedFrom_68 ?_
        exact zAW.weak (hk8 _ _ _ hf) (zLw_s (zLw_n (zLw_s (zLw_s (zLw_n (zLw_n zLw_0))))))
    · refine zs_il hC dX0_reachedFrom_27 rfl ?_
      refine zs_il hC dX0_reachedFrom_28 rfl ?_
      refine zs_callN [.int v2, .int v5] hC cw_X11_hasBit cl_RX0_41 (by decide) rfl rfl (Nat.le_of_ble_eq_true rfl) dX0_reachedFrom_30 (fun _ h => ctX11_hasBit h) (fun r1 m1 _ hf => ?_) hf
      show zAW X 33 _ (.int r1 :: _) m1
      refine zs_if_eq hC dX0_reachedFrom_33 (fun _ hf => ?_) (fun _ hf => ?_) hf
      · refine zs_iinc (nI 1) hC dX0_reachedFrom_47 (by decide) rfl (by decide) rfl ?_
        refine zs_goto hC dX0_reachedFrom_50 ?_
        exact zAW.weak (ih _ _ _ _ _ hf) (zLw_s (zLw_n (zLw_s (zLw_s (zLw_s (zLw_s zLw_0))))))
      · refine zs_il hC dX0_reachedFrom_36 rfl ?_
        refine zs_al hC dX0_reachedFrom_38 rfl ?_
        refine zs_il hC dX0_reachedFrom_39 rfl ?_
        refine zs_callV [.int v5] hC cw_X0_whisperedToBy cl_RX0_38 zL54 rfl (by decide) rfl rfl (Nat.le_of_ble_eq_true rfl) dX0_reachedFrom_41 (fun _ h => ctX0_whisperedToBy h) (fun r2 m2 _ hf => ?_) hf
        show zAW X 44 _ (.int r2 :: _) m2
        refine zs_ior hC dX0_reachedFrom_44 ?_
        refine zs_is hC dX0_reachedFrom_45 (by decide) rfl ?_
        refine zs_iinc (nI 1) hC dX0_reachedFrom_47 (by decide) rfl (by decide) rfl ?_
        refine zs_goto hC dX0_reachedFrom_50 ?_
        exact zAW.weak (ih _ _ _ _ _ hf) (zLw_s (zLw_n (zLw_s (zLw_s (zLw_s (zLw_s zLw_0))))))
set_option maxRecDepth 20000 in
set_option maxHeartbeats 4000000 in
theorem wX0_reachedFrom_8 {X : zX} {F : Nat} (hC : zCx X RX0 cX0_reachedFrom 6 1) (hret : zRt X (some .int)) : ∀ (n : Nat) (v2 : Int32) (v3 : Int32) (μ : zMem), fX0_reachedFrom_8 F n v2 v3 μ = some (zOut X) → zAW X 8 [some (.ref 54), none, some (.int v2), some (.int v3), none, none] [] μ := by
  intro n
  induction n with
  | zero =>
    intro v2 v3 μ hf
    rw [fX0_reachedFrom_8] at hf
    cases hf
  | succ n ih =>
    intro v2 v3 μ hf
    rw [fX0_reachedFrom_8] at hf
    refine zs_il hC dX0_reachedFrom_8 rfl ?_
    refine zs_k hC dX0_reachedFrom_9 ?_
    refine zs_ic_ge hC dX0_reachedFrom_11 (fun _ hf => ?_) (fun _ hf => ?_) hf
    · refine zs_il hC dX0_reachedFrom_71 rfl ?_
      exact zs_iret hC hret dX0_reachedFrom_72 hf
    · refine zs_il hC dX0_reachedFrom_14 rfl ?_
      refine zs_is hC dX0_reachedFrom_15 (by decide) rfl ?_
      refine zs_k hC dX0_reachedFrom_17 ?_
      refine zs_is hC dX0_reachedFrom_18 (by decide) rfl ?_
      exact zAW.weak (wX0_reachedFrom_20 hC hret (ih) F _ _ _ _ _ hf) (zLw_s (zLw_n (zLw_s (zLw_s (zLw_s (zLw_s zLw_0))))))
set_option maxRecDepth 20000 in
set_option maxHeartbeats 4000000 in
theorem wX0_reachedFrom {X : zX} {F : Nat} (hC : zCx X RX0 cX0_reachedFrom 6 1) (hret : zRt X (some .int)) {v1 : Int32} {μ : zMem} (hf : fX0_reachedFrom F v1 μ = some (zOut X)) : zAW X 0 [some (.ref 54), some (.int v1), none, none, none, none] [] μ := by
  unfold fX0_reachedFrom at hf
  refine zs_al hC dX0_reachedFrom_0 rfl ?_
  refine zs_il hC dX0_reachedFrom_1 rfl ?_
  refine zs_callV [.int v1] hC cw_X0_whisperedToBy cl_RX0_38 zL54 rfl (by decide) rfl rfl (Nat.le_of_ble_eq_true rfl) dX0_reachedFrom_2 (fun _ h => ctX0_whisperedToBy h) (fun r1 m1 _ hf => ?_) hf
  show zAW X 5 _ (.int r1 :: _) m1
  refine zs_is hC dX0_reachedFrom_5 (by decide) rfl ?_
  refine zs_k hC dX0_reachedFrom_6 ?_
  refine zs_is hC dX0_reachedFrom_7 (by decide) rfl ?_
  exact zAW.weak (wX0_reachedFrom_8 hC hret F _ _ _ hf) (zLw_s (zLw_n (zLw_s (zLw_s (zLw_n (zLw_n zLw_0))))))
set_option maxRecDepth 20000 in
set_option maxHeartbeats 4000000 in
theorem ctX0_reachedFrom {E : zEV} {F : Nat} {v1 : Int32} {μ : zMem} {out : zR} (hf : fX0_reachedFrom F v1 μ = some out) : zCt E yX0_reachedFrom cX0_reachedFrom 6 (some .int) 1 [.ref 54, .int v1] μ out :=
  zCt.of [some (.ref 54), some (.int v1), none, none, none, none] (by decide +kernel) (Nat.le_of_ble_eq_true rfl) (zLw_s (zLw_s (zLw_e (zLw_e (zLw_e (zLw_e zLw_0)))))) rfl (fun X hE ho hr hC => by
    subst hE; subst ho
    exact wX0_reachedFrom hC hr hf)
/-! X9_sign -/
def fX9_sign (F : Nat) (μ : zMem) : Option zR :=
  if (μ 1 1) ≤ (μ 1 2) then some ((-1 : Int32), μ) else zG (μ 1 2) 260 (some ((μ 2 (μ 1 2).toNatClampNeg), μ))
set_option maxRecDepth 20000 in
set_option maxHeartbeats 4000000 in
theorem wX9_sign {X : zX} {F : Nat} (hC : zCx X RX9 cX9_sign 1 0) (hret : zRt X (some .int)) {μ : zMem} (hf : fX9_sign F μ = some (zOut X)) : zAW X 0 [some (.ref 1)] [] μ := by
  unfold fX9_sign at hf
  refine zs_al hC dX9_sign_0 rfl ?_
  refine zs_getI hC fl_RX9_23 zL1 rfl dX9_sign_1 ?_
  refine zs_al hC dX9_sign_4 rfl ?_
  refine zs_getI hC fl_RX9_15 zL1 rfl dX9_sign_5 ?_
  refine zs_ic_ge hC dX9_sign_8 (fun _ hf => ?_) (fun _ hf => ?_) hf
  · refine zs_k hC dX9_sign_23 ?_
    exact zs_iret hC hret dX9_sign_24 hf
  · refine zs_al hC dX9_sign_11 rfl ?_
    refine zs_getR 2 hC fl_RX9_9 zL1 rfl dX9_sign_12 ?_
    refine zs_al hC dX9_sign_15 rfl ?_
    refine zs_getI hC fl_RX9_23 zL1 rfl dX9_sign_16 ?_
    refine zs_iald hC zL2 dX9_sign_19 (fun _ hf => ?_) hf
    refine zs_goto hC dX9_sign_20 ?_
    exact zs_iret hC hret dX9_sign_24 hf
set_option maxRecDepth 20000 in
set_option maxHeartbeats 4000000 in
theorem ctX9_sign {E : zEV} {F : Nat} {μ : zMem} {out : zR} (hf : fX9_sign F μ = some out) : zCt E yX9_sign cX9_sign 1 (some .int) 0 [.ref 1] μ out :=
  zCt.of [some (.ref 1)] (by decide +kernel) (Nat.le_of_ble_eq_true rfl) (zLw_s zLw_0) rfl (fun X hE ho hr hC => by
    subst hE; subst ho
    exact wX9_sign hC hr hf)
/-! X11_isWithin -/
def fX11_isWithin (F : Nat) (v0 : Int32) (v1 : Int32) (v2 : Int32) (μ : zMem) : Option zR :=
  if v0 < v1 then some ((nI 0), μ) else if v2 < v0 then some ((nI 0), μ) else some ((nI 1), μ)
set_option maxRecDepth 20000 in
set_option maxHeartbeats 4000000 in
theorem wX11_isWithin {X : zX} {F : Nat} (hC : zCx X RX11 cX11_isWithin 3 0) (hret : zRt X (some .boolean)) {v0 : Int32} {v1 : Int32} {v2 : Int32} {μ : zMem} (hf : fX11_isWithin F v0 v1 v2 μ = some (zOut X)) : zAW X 0 [some (.int v0), some (.int v1), some (.int v2)] [] μ := by
  unfold fX11_isWithin at hf
  refine zs_il hC dX11_isWithin_0 rfl ?_
  refine zs_il hC dX11_isWithin_1 rfl ?_
  refine zs_ic_lt hC dX11_isWithin_2 (fun _ hf => ?_) (fun _ hf => ?_) hf
  · refine zs_k hC dX11_isWithin_14 ?_
    exact zs_zretK hC hret dX11_isWithin_15 (by decide) hf
  · refine zs_il hC dX11_isWithin_5 rfl ?_
    refine zs_il hC dX11_isWithin_6 rfl ?_
    refine zs_ic_gt hC dX11_isWithin_7 (fun _ hf => ?_) (fun _ hf => ?_) hf
    · refine zs_k hC dX11_isWithin_14 ?_
      exact zs_zretK hC hret dX11_isWithin_15 (by decide) hf
    · refine zs_k hC dX11_isWithin_10 ?_
      refine zs_goto hC dX11_isWithin_11 ?_
      exact zs_zretK hC hret dX11_isWithin_15 (by decide) hf
set_option maxRecDepth 20000 in
set_option maxHeartbeats 4000000 in
theorem ctX11_isWithin {E : zEV} {F : Nat} {v0 : Int32} {v1 : Int32} {v2 : Int32} {μ : zMem} {out : zR} (hf : fX11_isWithin F v0 v1 v2 μ = some out) : zCt E yX11_isWithin cX11_isWithin 3 (some .boolean) 0 [.int v0, .int v1, .int v2] μ out :=
  zCt.of [some (.int v0), some (.int v1), some (.int v2)] (by decide +kernel) (Nat.le_of_ble_eq_true rfl) (zLw_s (zLw_s (zLw_s zLw_0))) rfl (fun X hE ho hr hC => by
    subst hE; subst ho
    exact wX11_isWithin hC hr hf)
/-! X11_isLetter -/
def fX11_isLetter (F : Nat) (v0 : Int32) (μ : zMem) : Option zR :=
  zBd (fX11_isWithin F v0 (nI 0) (nI 25) μ) (fun r1 m1 => zGb (decide (r1 = 0 ∨ r1 = 1)) (some (r1, m1)))
set_option maxRecDepth 20000 in
set_option maxHeartbeats 4000000 in
theorem wX11_isLetter {X : zX} {F : Nat} (hC : zCx X RX11 cX11_isLetter 1 1) (hret : zRt X (some .boolean)) {v0 : Int32} {μ : zMem} (hf : fX11_isLetter F v0 μ = some (zOut X)) : zAW X 0 [some (.int v0)] [] μ := by
  unfold fX11_isLetter at hf
  refine zs_il hC dX11_isLetter_0 rfl ?_
  refine zs_k hC dX11_isLetter_1 ?_
  refine zs_k hC dX11_isLetter_2 ?_
  refine zs_callS [.int v0, .int (nI 0), .int (nI 25)] hC cw_X11_isWithin cl_RX11_97 (by decide) rfl rfl (Nat.le_of_ble_eq_true rfl) dX11_isLetter_4 (fun _ h => ctX11_isWithin h) (fun r1 m1 _ hf => ?_) hf
  show zAW X 7 _ (.int r1 :: _) m1
  exact zs_zret hC hret dX11_isLetter_7 hf
set_option maxRecDepth 20000 in
set_option maxHeartbeats 4000000 in
theorem ctX11_isLetter {E : zEV} {F : Nat} {v0 : Int32} {μ : zMem} {out : zR} (hf : fX11_isLetter F v0 μ = some out) : zCt E yX11_isLetter cX11_isLetter 1 (some .boolean) 1 [.int v0] μ out :=
  zCt.of [some (.int v0)] (by decide +kernel) (Nat.le_of_ble_eq_true rfl) (zLw_s zLw_0) rfl (fun X hE ho hr hC => by
    subst hE; subst ho
    exact wX11_isLetter hC hr hf)
/-! X9_fails -/
def fX9_fails (F : Nat) (v1 : Int32) (μ : zMem) : Option zR :=
  zLt (zUp μ 1 3 (((-1000 : Int32) * v1) - (μ 1 2))) (fun m2 => some ((nI 0), m2))
set_option maxRecDepth 20000 in
set_option maxHeartbeats 4000000 in
theorem wX9_fails {X : zX} {F : Nat} (hC : zCx X RX9 cX9_fails 2 0) (hret : zRt X (some .boolean)) {v1 : Int32} {μ : zMem} (hf : fX9_fails F v1 μ = some (zOut X)) : zAW X 0 [some (.ref 1), some (.int v1)] [] μ := by
  unfold fX9_fails at hf
  refine zs_al hC dX9_fails_0 rfl ?_
  refine zs_k hC dX9_fails_1 ?_
  refine zs_il hC dX9_fails_4 rfl ?_
  refine zs_imul hC dX9_fails_5 ?_
  refine zs_al hC dX9_fails_6 rfl ?_
  refine zs_getI hC fl_RX9_23 zL1 rfl dX9_fails_7 ?_
  refine zs_isub hC dX9_fails_10 ?_
  refine zs_putI hC fl_RX9_26 fp_9_3 zL1 rfl dX9_fails_11 ?_
  refine zs_let (fun m2 _ hf => ?_) hf
  refine zs_k hC dX9_fails_14 ?_
  exact zs_zretK hC hret dX9_fails_15 (by decide) hf
set_option maxRecDepth 20000 in
set_option maxHeartbeats 4000000 in
theorem ctX9_fails {E : zEV} {F : Nat} {v1 : Int32} {μ : zMem} {out : zR} (hf : fX9_fails F v1 μ = some out) : zCt E yX9_fails cX9_fails 2 (some .boolean) 0 [.ref 1, .int v1] μ out :=
  zCt.of [some (.ref 1), some (.int v1)] (by decide +kernel) (Nat.le_of_ble_eq_true rfl) (zLw_s (zLw_s zLw_0)) rfl (fun X hE ho hr hC => by
    subst hE; subst ho
    exact wX9_fails hC hr hf)
/-! X1_readsLetters -/
def fX1_readsLetters_2 (F : Nat) (h0 : Nat) : Nat → Int32 → Int32 → zMem → Option zR
  | 0, _, _, _ => none
  | n + 1, v2, v3, μ => if (nI 12) < v3 then some ((-1 : Int32), μ) else zBd (fX9_sign F μ) (fun r1 m1 => zBd (fX11_isLetter F (r1 - (nI 97)) m1) (fun r2 m2 => if r2 = 0 then if v3 ≤ 0 then zBd (fX9_fails F (nI 1) m2) (fun r3 m3 => some ((-1 : Int32), m3)) else some (v3, m2) else if v3 = (nI 12) then zBd (fX9_fails F (nI 2) m2) (fun r4 m4 => some ((-1 : Int32), m4)) else zG (r1 - (nI 97)) 26 (zG (r1 - (nI 97)) 26 (zLt (zUp m2 (h0 + 2) (r1 - (nI 97)).toNatClampNeg ((m2 (h0 + 2) (r1 - (nI 97)).toNatClampNeg) + v2)) (fun m6 => zLt (zUp m6 1 2 ((m6 1 2) + (nI 1))) (fun m8 => fX1_readsLetters_2 F h0 n v2 (v3 + (nI 1)) m8))))))
def fX1_readsLetters (F : Nat) (h0 : Nat) (v2 : Int32) (μ : zMem) : Option zR :=
  fX1_readsLetters_2 F h0 F v2 (nI 0) μ
set_option maxRecDepth 20000 in
set_option maxHeartbeats 4000000 in
theorem wX1_readsLetters_2 {X : zX} {F h0 : Nat} (hC : zCx X RX1 cX1_readsLetters 5 2) (hh0 : zIsCp h0 = true) (hret : zRt X (some .int)) : ∀ (n : Nat) (v2 : Int32) (v3 : Int32) (μ : zMem), fX1_readsLetters_2 F h0 n v2 v3 μ = some (zOut X) → zAW X 2 [some (.ref h0), some (.ref 1), some (.int v2), some (.int v3), none] [] μ := by
  intro n
  induction n with
  | zero =>
    intro v2 v3 μ hf
    rw [fX1_readsLetters_2] at hf
    cases hf
  | succ n ih =>
    intro v2 v3 μ hf
    rw [fX1_readsLetters_2] at hf
    refine zs_il hC dX1_readsLetters_2 rfl ?_
    refine zs_k hC dX1_readsLetters_3 ?_
    refine zs_ic_gt hC dX1_readsLetters_5 (fun _ hf => ?_) (fun _ hf => ?_) hf
    · refine zs_k hC dX1_readsLetters_80 ?_
      exact zs_iret hC hret dX1_readsLetters_81 hf
    · refine zs_al hC dX1_readsLetters_8 rfl ?_
      refine zs_callV [] hC cw_X9_sign cl_RX1_39 zL1 rfl (by decide) rfl rfl (Nat.le_of_ble_eq_true rfl) dX1_readsLetters_9 (fun _ h => ctX9_sign h) (fun r1 m1 _ hf => ?_) hf
      show zAW X 12 _ (.int r1 :: _) m1
      refine zs_k hC dX1_readsLetters_12 ?_
      refine zs_isub hC dX1_readsLetters_14 ?_
      refine zs_is hC dX1_readsLetters_15 (by decide) rfl ?_
      refine zs_il hC dX1_readsLetters_17 rfl ?_
      refine zs_callN [.int (r1 - (nI 97))] hC cw_X11_isLetter cl_RX1_55 (by decide) rfl rfl (Nat.le_of_ble_eq_true rfl) dX1_readsLetters_19 (fun _ h => ctX11_isLetter h) (fun r2 m2 _ hf => ?_) hf
      show zAW X 22 _ (.int r2 :: _) m2
      refine zs_if_ne hC dX1_readsLetters_22 (fun _ hf => ?_) (fun _ hf => ?_) hf
      · refine zs_il hC dX1_readsLetters_25 rfl ?_
        refine zs_if_le hC dX1_readsLetters_26 (fun _ hf => ?_) (fun _ hf => ?_) hf
        · refine zs_al hC dX1_readsLetters_31 rfl ?_
          refine zs_k hC dX1_readsLetters_32 ?_
          refine zs_callV [.int (nI 1)] hC cw_X9_fails cl_RX1_58 zL1 rfl (by decide) rfl rfl (Nat.le_of_ble_eq_true rfl) dX1_readsLetters_33 (fun _ h => ctX9_fails h) (fun r3 m3 _ hf => ?_) hf
          show zAW X 36 _ (.int r3 :: _) m3
          refine zs_pop hC dX1_readsLetters_36 rfl ?_
          refine zs_k hC dX1_readsLetters_37 ?_
          exact zs_iret hC hret dX1_readsLetters_38 hf
        · refine zs_il hC dX1_readsLetters_29 rfl ?_
          exact zs_iret hC hret dX1_readsLetters_30 hf
      · refine zs_il hC dX1_readsLetters_39 rfl ?_
        refine zs_k hC dX1_readsLetters_40 ?_
        refine zs_ic_ne hC dX1_readsLetters_42 (fun _ hf => ?_) (fun _ hf => ?_) hf
        · refine zs_al hC dX1_readsLetters_45 rfl ?_
          refine zs_k hC dX1_readsLetters_46 ?_
          refine zs_callV [.int (nI 2)] hC cw_X9_fails cl_RX1_58 zL1 rfl (by decide) rfl rfl (Nat.le_of_ble_eq_true rfl) dX1_readsLetters_47 (fun _ h => ctX9_fails h) (fun r4 m4 _ hf => ?_) hf
          show zAW X 50 _ (.int r4 :: _) m4
          refine zs_pop hC dX1_readsLetters_50 rfl ?_
          refine zs_k hC dX1_readsLetters_51 ?_
          exact zs_iret hC hret dX1_readsLetters_52 hf
        · refine zs_al hC dX1_readsLetters_53 rfl ?_
          refine zs_getR (h0 + 2) hC fl_RX1_15 (zCp0 hh0) rfl dX1_readsLetters_54 ?_
          refine zs_il hC dX1_readsLetters_57 rfl ?_
          refine zs_dup2 hC dX1_readsLetters_59 rfl rfl ?_
          refine zs_iald hC (zCp2 hh0) dX1_readsLetters_60 (fun _ hf => ?_) hf
          refine zs_il hC dX1_readsLetters_61 rfl ?_
          refine zs_iadd hC dX1_readsLetters_62 ?_
          refine zs_iast hC (zCp2 hh0) dX1_readsLetters_63 (fun _ hf => ?_) hf
          refine zs_let (fun m6 _ hf => ?_) hf
          refine zs_al hC dX1_readsLetters_64 rfl ?_
          refine zs_dup hC dX1_readsLetters_65 rfl ?_
          refine zs_getI hC fl_RX1_36 zL1 rfl dX1_readsLetters_66 ?_
          refine zs_k hC dX1_readsLetters_69 ?_
          refine zs_iadd hC dX1_readsLetters_70 ?_
          refine zs_putI hC fl_RX1_36 fp_9_2 zL1 rfl dX1_readsLetters_71 ?_
          refine zs_let (fun m8 _ hf => ?_) hf
          refine zs_iinc (nI 1) hC dX1_readsLetters_74 (by decide) rfl (by decide) rfl ?_
          refine zs_goto hC dX1_readsLetters_77 ?_
          exact zAW.weak (ih _ _ _ hf) (zLw_s (zLw_s (zLw_s (zLw_s (zLw_n zLw_0)))))
set_option maxRecDepth 20000 in
set_option maxHeartbeats 4000000 in
theorem wX1_readsLetters {X : zX} {F h0 : Nat} (hC : zCx X RX1 cX1_readsLetters 5 2) (hh0 : zIsCp h0 = true) (hret : zRt X (some .int)) {v2 : Int32} {μ : zMem} (hf : fX1_readsLetters F h0 v2 μ = some (zOut X)) : zAW X 0 [some (.ref h0), some (.ref 1), some (.int v2), none, none] [] μ := by
  unfold fX1_readsLetters at hf
  refine zs_k hC dX1_readsLetters_0 ?_
  refine zs_is hC dX1_readsLetters_1 (by decide) rfl ?_
  exact zAW.weak (wX1_readsLetters_2 hC hh0 hret F _ _ _ hf) (zLw_s (zLw_s (zLw_s (zLw_s (zLw_n zLw_0)))))
set_option maxRecDepth 20000 in
set_option maxHeartbeats 4000000 in
theorem ctX1_readsLetters {E : zEV} {F : Nat} {h0 : Nat} {v2 : Int32} {μ : zMem} {out : zR} (hh0 : zIsCp h0 = true) (hf : fX1_readsLetters F h0 v2 μ = some out) : zCt E yX1_readsLetters cX1_readsLetters 5 (some .int) 2 [.ref h0, .ref 1, .int v2] μ out :=
  zCt.of [some (.ref h0), some (.ref 1), some (.int v2), none, none] (by decide +kernel) (Nat.le_of_ble_eq_true rfl) (zLw_s (zLw_s (zLw_s (zLw_e (zLw_e zLw_0))))) rfl (fun X hE ho hr hC => by
    subst hE; subst ho
    exact wX1_readsLetters hC hh0 hr hf)
/-! X9_failsAt -/
def fX9_failsAt (F : Nat) (v1 : Int32) (v2 : Int32) (μ : zMem) : Option zR :=
  zLt (zUp μ 1 2 v2) (fun m1 => zBd (fX9_fails F v1 m1) (fun r2 m2 => zGb (decide (r2 = 0 ∨ r2 = 1)) (some (r2, m2))))
set_option maxRecDepth 20000 in
set_option maxHeartbeats 4000000 in
theorem wX9_failsAt {X : zX} {F : Nat} (hC : zCx X RX9 cX9_failsAt 3 1) (hret : zRt X (some .boolean)) {v1 : Int32} {v2 : Int32} {μ : zMem} (hf : fX9_failsAt F v1 v2 μ = some (zOut X)) : zAW X 0 [some (.ref 1), some (.int v1), some (.int v2)] [] μ := by
  unfold fX9_failsAt at hf
  refine zs_al hC dX9_failsAt_0 rfl ?_
  refine zs_il hC dX9_failsAt_1 rfl ?_
  refine zs_putI hC fl_RX9_23 fp_9_2 zL1 rfl dX9_failsAt_2 ?_
  refine zs_let (fun m1 _ hf => ?_) hf
  refine zs_al hC dX9_failsAt_5 rfl ?_
  refine zs_il hC dX9_failsAt_6 rfl ?_
  refine zs_callV [.int v1] hC cw_X9_fails cl_RX9_33 zL1 rfl (by decide) rfl rfl (Nat.le_of_ble_eq_true rfl) dX9_failsAt_7 (fun _ h => ctX9_fails h) (fun r2 m2 _ hf => ?_) hf
  show zAW X 10 _ (.int r2 :: _) m2
  exact zs_zret hC hret dX9_failsAt_10 hf
set_option maxRecDepth 20000 in
set_option maxHeartbeats 4000000 in
theorem ctX9_failsAt {E : zEV} {F : Nat} {v1 : Int32} {v2 : Int32} {μ : zMem} {out : zR} (hf : fX9_failsAt F v1 v2 μ = some out) : zCt E yX9_failsAt cX9_failsAt 3 (some .boolean) 1 [.ref 1, .int v1, .int v2] μ out :=
  zCt.of [some (.ref 1), some (.int v1), some (.int v2)] (by decide +kernel) (Nat.le_of_ble_eq_true rfl) (zLw_s (zLw_s (zLw_s zLw_0))) rfl (fun X hE ho hr hC => by
    subst hE; subst ho
    exact wX9_failsAt hC hr hf)
/-! X1_readsWord -/
def fX1_readsWord_75 (F : Nat) (h0 : Nat) : Nat → Int32 → Int32 → Int32 → zMem → Option zR
  | 0, _, _, _, _ => none
  | n + 1, v3, v4, v5, μ => if v3 ≤ v5 then some ((nI 1), μ) else zG (μ h0 2) 60 (zLt (zUp μ (h0 + 1) (μ h0 2).toNatClampNeg v4) (fun m3 => zLt (zUp m3 h0 2 ((m3 h0 2) + (nI 1))) (fun m5 => fX1_readsWord_75 F h0 n v3 v4 (v5 + (nI 1)) m5)))
def fX1_readsWord_38 (F : Nat) (h0 : Nat) (v2 : Int32) (v3 : Int32) (μ : zMem) : Option zR :=
  zBd (fX1_readsLetters F h0 v3 μ) (fun r1 m1 => if r1 = (-1 : Int32) then some ((nI 0), m1) else if ((m1 h0 2) + v3) ≤ (nI 60) then fX1_readsWord_75 F h0 F v3 r1 (nI 0) m1 else zBd (fX9_failsAt F (nI 4) v2 m1) (fun r3 m3 => zGb (decide (r3 = 0 ∨ r3 = 1)) (some (r3, m3))))
def fX1_readsWord (F : Nat) (h0 : Nat) (μ : zMem) : Option zR :=
  zBd (fX9_sign F μ) (fun r2 m2 => zBd (fX11_isWithin F (r2 - (nI 48)) (nI 2) (nI 9) m2) (fun r3 m3 => if r3 = 0 then fX1_readsWord_38 F h0 (μ 1 2) (nI 1) m3 else zLt (zUp m3 1 2 ((m3 1 2) + (nI 1))) (fun m5 => fX1_readsWord_38 F h0 (μ 1 2) (r2 - (nI 48)) m5)))
set_option maxRecDepth 20000 in
set_option maxHeartbeats 4000000 in
theorem wX1_readsWord_75 {X : zX} {F h0 : Nat} (hC : zCx X RX1 cX1_readsWord 6 3) (hh0 : zIsCp h0 = true) (hret : zRt X (some .boolean)) : ∀ (n : Nat) (v3 : Int32) (v4 : Int32) (v5 : Int32) (μ : zMem), fX1_readsWord_75 F h0 n v3 v4 v5 μ = some (zOut X) → zAW X 75 [some (.ref h0), none, none, some (.int v3), some (.int v4), some (.int v5)] [] μ := by
  intro n
  induction n with
  | zero =>
    intro v3 v4 v5 μ hf
    rw [fX1_readsWord_75] at hf
    cases hf
  | succ n ih =>
    intro v3 v4 v5 μ hf
    rw [fX1_readsWord_75] at hf
    refine zs_il hC dX1_readsWord_75 rfl ?_
    refine zs_il hC dX1_readsWord_77 rfl ?_
    refine zs_ic_ge hC dX1_readsWord_78 (fun _ hf => ?_) (fun _ hf => ?_) hf
    · refine zs_k hC dX1_readsWord_108 ?_
      exact zs_zretK hC hret dX1_readsWord_109 (by decide) hf
    · refine zs_al hC dX1_readsWord_81 rfl ?_
      refine zs_getR (h0 + 1) hC fl_RX1_11 (zCp0 hh0) rfl dX1_readsWord_82 ?_
      refine zs_al hC dX1_readsWord_85 rfl ?_
      refine zs_getI hC fl_RX1_18 (zCp0 hh0) rfl dX1_readsWord_86 ?_
      refine zs_il hC dX1_readsWord_89 rfl ?_
      refine zs_iast hC (zCp1 hh0) dX1_readsWord_91 (fun _ hf => ?_) hf
      refine zs_let (fun m3 _ hf => ?_) hf
      refine zs_al hC dX1_readsWord_92 rfl ?_
      refine zs_dup hC dX1_readsWord_93 rfl ?_
      refine zs_getI hC fl_RX1_18 (zCp0 hh0) rfl dX1_readsWord_94 ?_
      refine zs_k hC dX1_readsWord_97 ?_
      refine zs_iadd hC dX1_readsWord_98 ?_
      refine zs_putI hC fl_RX1_18 fp_1_2 (zCp0 hh0) rfl dX1_readsWord_99 ?_
      refine zs_let (fun m5 _ hf => ?_) hf
      refine zs_iinc (nI 1) hC dX1_readsWord_102 (by decide) rfl (by decide) rfl ?_
      refine zs_goto hC dX1_readsWord_105 ?_
      exact zAW.weak (ih _ _ _ _ hf) (zLw_s (zLw_n (zLw_n (zLw_s (zLw_s (zLw_s zLw_0))))))
set_option maxRecDepth 20000 in
set_option maxHeartbeats 4000000 in
theorem wX1_readsWord_38 {X : zX} {F h0 : Nat} (hC : zCx X RX1 cX1_readsWord 6 3) (hh0 : zIsCp h0 = true) (hret : zRt X (some .boolean)) {v2 : Int32} {v3 : Int32} {μ : zMem} (hf : fX1_readsWord_38 F h0 v2 v3 μ = some (zOut X)) : zAW X 38 [some (.ref h0), some (.ref 1), some (.int v2), some (.int v3), none, none] [] μ := by
  unfold fX1_readsWord_38 at hf
  refine zs_al hC dX1_readsWord_38 rfl ?_
  refine zs_al hC dX1_readsWord_39 rfl ?_
  refine zs_il hC dX1_readsWord_40 rfl ?_
  refine zs_callV [.ref 1, .int v3] hC cw_X1_readsLetters cl_RX1_47 (zCp0 hh0) rfl (by decide) rfl rfl (Nat.le_of_ble_eq_true rfl) dX1_readsWord_41 (fun _ h => ctX1_readsLetters (hh0) h) (fun r1 m1 _ hf => ?_) hf
  show zAW X 44 _ (.int r1 :: _) m1
  refine zs_is hC dX1_readsWord_44 (by decide) rfl ?_
  refine zs_il hC dX1_readsWord_46 rfl ?_
  refine zs_k hC dX1_readsWord_48 ?_
  refine zs_ic_ne hC dX1_readsWord_49 (fun _ hf => ?_) (fun _ hf => ?_) hf
  · refine zs_k hC dX1_readsWord_52 ?_
    exact zs_zretK hC hret dX1_readsWord_53 (by decide) hf
  · refine zs_al hC dX1_readsWord_54 rfl ?_
    refine zs_getI hC fl_RX1_18 (zCp0 hh0) rfl dX1_readsWord_55 ?_
    refine zs_il hC dX1_readsWord_58 rfl ?_
    refine zs_iadd hC dX1_readsWord_59 ?_
    refine zs_k hC dX1_readsWord_60 ?_
    refine zs_ic_le hC dX1_readsWord_62 (fun _ hf => ?_) (fun _ hf => ?_) hf
    · refine zs_k hC dX1_readsWord_72 ?_
      refine zs_is hC dX1_readsWord_73 (by decide) rfl ?_
      exact zAW.weak (wX1_readsWord_75 hC hh0 hret F _ _ _ _ hf) (zLw_s (zLw_n (zLw_n (zLw_s (zLw_s (zLw_s zLw_0))))))
    · refine zs_al hC dX1_readsWord_65 rfl ?_
      refine zs_k hC dX1_readsWord_66 ?_
      refine zs_il hC dX1_readsWord_67 rfl ?_
      refine zs_callV [.int (nI 4), .int v2] hC cw_X9_failsAt cl_RX1_51 zL1 rfl (by decide) rfl rfl (Nat.le_of_ble_eq_true rfl) dX1_readsWord_68 (fun _ h => ctX9_failsAt h) (fun r3 m3 _ hf => ?_) hf
      show zAW X 71 _ (.int r3 :: _) m3
      exact zs_zret hC hret dX1_readsWord_71 hf
set_option maxRecDepth 20000 in
set_option maxHeartbeats 4000000 in
theorem wX1_readsWord {X : zX} {F h0 : Nat} (hC : zCx X RX1 cX1_readsWord 6 3) (hh0 : zIsCp h0 = true) (hret : zRt X (some .boolean)) {μ : zMem} (hf : fX1_readsWord F h0 μ = some (zOut X)) : zAW X 0 [some (.ref h0), some (.ref 1), none, none, none, none] [] μ := by
  unfold fX1_readsWord at hf
  refine zs_al hC dX1_readsWord_0 rfl ?_
  refine zs_getI hC fl_RX1_36 zL1 rfl dX1_readsWord_1 ?_
  refine zs_is hC dX1_readsWord_4 (by decide) rfl ?_
  refine zs_al hC dX1_readsWord_5 rfl ?_
  refine zs_callV [] hC cw_X9_sign cl_RX1_39 zL1 rfl (by decide) rfl rfl (Nat.le_of_ble_eq_true rfl) dX1_readsWord_6 (fun _ h => ctX9_sign h) (fun r2 m2 _ hf => ?_) hf
  show zAW X 9 _ (.int r2 :: _) m2
  refine zs_k hC dX1_readsWord_9 ?_
  refine zs_isub hC dX1_readsWord_11 ?_
  refine zs_is hC dX1_readsWord_12 (by decide) rfl ?_
  refine zs_il hC dX1_readsWord_13 rfl ?_
  refine zs_k hC dX1_readsWord_14 ?_
  refine zs_k hC dX1_readsWord_15 ?_
  refine zs_callN [.int (r2 - (nI 48)), .int (nI 2), .int (nI 9)] hC cw_X11_isWithin cl_RX1_43 (by decide) rfl rfl (Nat.le_of_ble_eq_true rfl) dX1_readsWord_17 (fun _ h => ctX11_isWithin h) (fun r3 m3 _ hf => ?_) hf
  show zAW X 20 _ (.int r3 :: _) m3
  refine zs_if_eq hC dX1_readsWord_20 (fun _ hf => ?_) (fun _ hf => ?_) hf
  · refine zs_k hC dX1_readsWord_36 ?_
    refine zs_is hC dX1_readsWord_37 (by decide) rfl ?_
    exact zAW.weak (wX1_readsWord_38 hC hh0 hret hf) (zLw_s (zLw_s (zLw_s (zLw_s (zLw_n (zLw_n zLw_0))))))
  · refine zs_al hC dX1_readsWord_23 rfl ?_
    refine zs_dup hC dX1_readsWord_24 rfl ?_
    refine zs_getI hC fl_RX1_36 zL1 rfl dX1_readsWord_25 ?_
    refine zs_k hC dX1_readsWord_28 ?_
    refine zs_iadd hC dX1_readsWord_29 ?_
    refine zs_putI hC fl_RX1_36 fp_9_2 zL1 rfl dX1_readsWord_30 ?_
    refine zs_let (fun m5 _ hf => ?_) hf
    refine zs_goto hC dX1_readsWord_33 ?_
    exact zAW.weak (wX1_readsWord_38 hC hh0 hret hf) (zLw_s (zLw_s (zLw_s (zLw_s (zLw_n (zLw_n zLw_0))))))
set_option maxRecDepth 20000 in
set_option maxHeartbeats 4000000 in
theorem ctX1_readsWord {E : zEV} {F : Nat} {h0 : Nat} {μ : zMem} {out : zR} (hh0 : zIsCp h0 = true) (hf : fX1_readsWord F h0 μ = some out) : zCt E yX1_readsWord cX1_readsWord 6 (some .boolean) 3 [.ref h0, .ref 1] μ out :=
  zCt.of [some (.ref h0), some (.ref 1), none, none, none, none] (by decide +kernel) (Nat.le_of_ble_eq_true rfl) (zLw_s (zLw_s (zLw_e (zLw_e (zLw_e (zLw_e zLw_0)))))) rfl (fun X hE ho hr hC => by
    subst hE; subst ho
    exact wX1_readsWord hC hh0 hr hf)
/-! X9_isOver -/
def fX9_isOver (F : Nat) (μ : zMem) : Option zR :=
  if (μ 1 2) < (μ 1 1) then some ((nI 0), μ) else some ((nI 1), μ)
set_option maxRecDepth 20000 in
set_option maxHeartbeats 4000000 in
theorem wX9_isOver {X : zX} {F : Nat} (hC : zCx X RX9 cX9_isOver 1 0) (hret : zRt X (some .boolean)) {μ : zMem} (hf : fX9_isOver F μ = some (zOut X)) : zAW X 0 [some (.ref 1)] [] μ := by
  unfold fX9_isOver at hf
  refine zs_al hC dX9_isOver_0 rfl ?_
  refine zs_getI hC fl_RX9_23 zL1 rfl dX9_isOver_1 ?_
  refine zs_al hC dX9_isOver_4 rfl ?_
  refine zs_getI hC fl_RX9_15 zL1 rfl dX9_isOver_5 ?_
  refine zs_ic_lt hC dX9_isOver_8 (fun _ hf => ?_) (fun _ hf => ?_) hf
  · refine zs_k hC dX9_isOver_15 ?_
    exact zs_zretK hC hret dX9_isOver_16 (by decide) hf
  · refine zs_k hC dX9_isOver_11 ?_
    refine zs_goto hC dX9_isOver_12 ?_
    exact zs_zretK hC hret dX9_isOver_16 (by decide) hf
set_option maxRecDepth 20000 in
set_option maxHeartbeats 4000000 in
theorem ctX9_isOver {E : zEV} {F : Nat} {μ : zMem} {out : zR} (hf : fX9_isOver F μ = some out) : zCt E yX9_isOver cX9_isOver 1 (some .boolean) 0 [.ref 1] μ out :=
  zCt.of [some (.ref 1)] (by decide +kernel) (Nat.le_of_ble_eq_true rfl) (zLw_s zLw_0) rfl (fun X hE ho hr hC => by
    subst hE; subst ho
    exact wX9_isOver hC hr hf)
/-! X9_needs -/
def fX9_needs (F : Nat) (v1 : Int32) (μ : zMem) : Option zR :=
  zBd (fX9_sign F μ) (fun r1 m1 => if r1 = v1 then zLt (zUp m1 1 2 ((m1 1 2) + (nI 1))) (fun m3 => some ((nI 1), m3)) else zBd (fX9_fails F (nI 1) m1) (fun r4 m4 => zGb (decide (r4 = 0 ∨ r4 = 1)) (some (r4, m4))))
set_option maxRecDepth 20000 in
set_option maxHeartbeats 4000000 in
theorem wX9_needs {X : zX} {F : Nat} (hC : zCx X RX9 cX9_needs 2 1) (hret : zRt X (some .boolean)) {v1 : Int32} {μ : zMem} (hf : fX9_needs F v1 μ = some (zOut X)) : zAW X 0 [some (.ref 1), some (.int v1)] [] μ := by
  unfold fX9_needs at hf
  refine zs_al hC dX9_needs_0 rfl ?_
  refine zs_callV [] hC cw_X9_sign cl_RX9_29 zL1 rfl (by decide) rfl rfl (Nat.le_of_ble_eq_true rfl) dX9_needs_1 (fun _ h => ctX9_sign h) (fun r1 m1 _ hf => ?_) hf
  show zAW X 4 _ (.int r1 :: _) m1
  refine zs_il hC dX9_needs_4 rfl ?_
  refine zs_ic_eq hC dX9_needs_5 (fun _ hf => ?_) (fun _ hf => ?_) hf
  · refine zs_al hC dX9_needs_14 rfl ?_
    refine zs_dup hC dX9_needs_15 rfl ?_
    refine zs_getI hC fl_RX9_23 zL1 rfl dX9_needs_16 ?_
    refine zs_k hC dX9_needs_19 ?_
    refine zs_iadd hC dX9_needs_20 ?_
    refine zs_putI hC fl_RX9_23 fp_9_2 zL1 rfl dX9_needs_21 ?_
    refine zs_let (fun m3 _ hf => ?_) hf
    refine zs_k hC dX9_needs_24 ?_
    exact zs_zretK hC hret dX9_needs_25 (by decide) hf
  · refine zs_al hC dX9_needs_8 rfl ?_
    refine zs_k hC dX9_needs_9 ?_
    refine zs_callV [.int (nI 1)] hC cw_X9_fails cl_RX9_33 zL1 rfl (by decide) rfl rfl (Nat.le_of_ble_eq_true rfl) dX9_needs_10 (fun _ h => ctX9_fails h) (fun r4 m4 _ hf => ?_) hf
    show zAW X 13 _ (.int r4 :: _) m4
    exact zs_zret hC hret dX9_needs_13 hf
set_option maxRecDepth 20000 in
set_option maxHeartbeats 4000000 in
theorem ctX9_needs {E : zEV} {F : Nat} {v1 : Int32} {μ : zMem} {out : zR} (hf : fX9_needs F v1 μ = some out) : zCt E yX9_needs cX9_needs 2 (some .boolean) 1 [.ref 1, .int v1] μ out :=
  zCt.of [some (.ref 1), some (.int v1)] (by decide +kernel) (Nat.le_of_ble_eq_true rfl) (zLw_s (zLw_s zLw_0)) rfl (fun X hE ho hr hC => by
    subst hE; subst ho
    exact wX9_needs hC hr hf)
/-! X1_reads -/
def fX1_reads_28 (F : Nat) (h0 : Nat) : Nat → Int32 → zMem → Option zR
  | 0, _, _ => none
  | n + 1, v2, μ => if (nI 60) < v2 then some ((nI 0), μ) else zBd (fX1_readsWord F h0 μ) (fun r1 m1 => if r1 = 0 then some ((nI 0), m1) else zBd (fX9_isOver F m1) (fun r2 m2 => if r2 = 0 then zBd (fX9_needs F (nI 95) m2) (fun r3 m3 => if r3 = 0 then some ((nI 0), m3) else fX1_reads_28 F h0 n (v2 + (nI 1)) m3) else some ((nI 1), m2)))
def fX1_reads_7 (F : Nat) (h0 : Nat) : Nat → Int32 → zMem → Option zR
  | 0, _, _ => none
  | n + 1, v2, μ => if (nI 26) ≤ v2 then fX1_reads_28 F h0 F (nI 0) μ else zG v2 26 (zLt (zUp μ (h0 + 2) v2.toNatClampNeg (nI 0)) (fun m2 => fX1_reads_7 F h0 n (v2 + (nI 1)) m2))
def fX1_reads (F : Nat) (h0 : Nat) (μ : zMem) : Option zR :=
  zLt (zUp μ h0 2 (nI 0)) (fun m1 => fX1_reads_7 F h0 F (nI 0) m1)
set_option maxRecDepth 20000 in
set_option maxHeartbeats 4000000 in
theorem wX1_reads_28 {X : zX} {F h0 : Nat} (hC : zCx X RX1 cX1_reads 3 4) (hh0 : zIsCp h0 = true) (hret : zRt X (some .boolean)) : ∀ (n : Nat) (v2 : Int32) (μ : zMem), fX1_reads_28 F h0 n v2 μ = some (zOut X) → zAW X 28 [some (.ref h0), some (.ref 1), some (.int v2)] [] μ := by
  intro n
  induction n with
  | zero =>
    intro v2 μ hf
    rw [fX1_reads_28] at hf
    cases hf
  | succ n ih =>
    intro v2 μ hf
    rw [fX1_reads_28] at hf
    refine zs_il hC dX1_reads_28 rfl ?_
    refine zs_k hC dX1_reads_29 ?_
    refine zs_ic_gt hC dX1_reads_31 (fun _ hf => ?_) (fun _ hf => ?_) hf
    · refine zs_k hC dX1_reads_70 ?_
      exact zs_zretK hC hret dX1_reads_71 (by decide) hf
    · refine zs_al hC dX1_reads_34 rfl ?_
      refine zs_al hC dX1_reads_35 rfl ?_
      refine zs_callV [.ref 1] hC cw_X1_readsWord cl_RX1_22 (zCp0 hh0) rfl (by decide) rfl rfl (Nat.le_of_ble_eq_true rfl) dX1_reads_36 (fun _ h => ctX1_readsWord (hh0) h) (fun r1 m1 _ hf => ?_) hf
      show zAW X 39 _ (.int r1 :: _) m1
      refine zs_if_ne hC dX1_reads_39 (fun _ hf => ?_) (fun _ hf => ?_) hf
      · refine zs_k hC dX1_reads_42 ?_
        exact zs_zretK hC hret dX1_reads_43 (by decide) hf
      · refine zs_al hC dX1_reads_44 rfl ?_
        refine zs_callV [] hC cw_X9_isOver cl_RX1_26 zL1 rfl (by decide) rfl rfl (Nat.le_of_ble_eq_true rfl) dX1_reads_45 (fun _ h => ctX9_isOver h) (fun r2 m2 _ hf => ?_) hf
        show zAW X 48 _ (.int r2 :: _) m2
        refine zs_if_eq hC dX1_reads_48 (fun _ hf => ?_) (fun _ hf => ?_) hf
        · refine zs_al hC dX1_reads_53 rfl ?_
          refine zs_k hC dX1_reads_54 ?_
          refine zs_callV [.int (nI 95)] hC cw_X9_needs cl_RX1_32 zL1 rfl (by decide) rfl rfl (Nat.le_of_ble_eq_true rfl) dX1_reads_56 (fun _ h => ctX9_needs h) (fun r3 m3 _ hf => ?_) hf
          show zAW X 59 _ (.int r3 :: _) m3
          refine zs_if_ne hC dX1_reads_59 (fun _ hf => ?_) (fun _ hf => ?_) hf
          · refine zs_k hC dX1_reads_62 ?_
            exact zs_zretK hC hret dX1_reads_63 (by decide) hf
          · refine zs_iinc (nI 1) hC dX1_reads_64 (by decide) rfl (by decide) rfl ?_
            refine zs_goto hC dX1_reads_67 ?_
            exact zAW.weak (ih _ _ hf) (zLw_s (zLw_s (zLw_s zLw_0)))
        · refine zs_k hC dX1_reads_51 ?_
          exact zs_zretK hC hret dX1_reads_52 (by decide) hf
set_option maxRecDepth 20000 in
set_option maxHeartbeats 4000000 in
theorem wX1_reads_7 {X : zX} {F h0 : Nat} (hC : zCx X RX1 cX1_reads 3 4) (hh0 : zIsCp h0 = true) (hret : zRt X (some .boolean)) : ∀ (n : Nat) (v2 : Int32) (μ : zMem), fX1_reads_7 F h0 n v2 μ = some (zOut X) → zAW X 7 [some (.ref h0), some (.ref 1), some (.int v2)] [] μ := by
  intro n
  induction n with
  | zero =>
    intro v2 μ hf
    rw [fX1_reads_7] at hf
    cases hf
  | succ n ih =>
    intro v2 μ hf
    rw [fX1_reads_7] at hf
    refine zs_il hC dX1_reads_7 rfl ?_
    refine zs_k hC dX1_reads_8 ?_
    refine zs_ic_ge hC dX1_reads_10 (fun _ hf => ?_) (fun _ hf => ?_) hf
    · refine zs_k hC dX1_reads_26 ?_
      refine zs_is hC dX1_reads_27 (by decide) rfl ?_
      exact zAW.weak (wX1_reads_28 hC hh0 hret F _ _ hf) (zLw_s (zLw_s (zLw_s zLw_0)))
    · refine zs_al hC dX1_reads_13 rfl ?_
      refine zs_getR (h0 + 2) hC fl_RX1_15 (zCp0 hh0) rfl dX1_reads_14 ?_
      refine zs_il hC dX1_reads_17 rfl ?_
      refine zs_k hC dX1_reads_18 ?_
      refine zs_iast hC (zCp2 hh0) dX1_reads_19 (fun _ hf => ?_) hf
      refine zs_let (fun m2 _ hf => ?_) hf
      refine zs_iinc (nI 1) hC dX1_reads_20 (by decide) rfl (by decide) rfl ?_
      refine zs_goto hC dX1_reads_23 ?_
      exact zAW.weak (ih _ _ hf) (zLw_s (zLw_s (zLw_s zLw_0)))
set_option maxRecDepth 20000 in
set_option maxHeartbeats 4000000 in
theorem wX1_reads {X : zX} {F h0 : Nat} (hC : zCx X RX1 cX1_reads 3 4) (hh0 : zIsCp h0 = true) (hret : zRt X (some .boolean)) {μ : zMem} (hf : fX1_reads F h0 μ = some (zOut X)) : zAW X 0 [some (.ref h0), some (.ref 1), none] [] μ := by
  unfold fX1_reads at hf
  refine zs_al hC dX1_reads_0 rfl ?_
  refine zs_k hC dX1_reads_1 ?_
  refine zs_putI hC fl_RX1_18 fp_1_2 (zCp0 hh0) rfl dX1_reads_2 ?_
  refine zs_let (fun m1 _ hf => ?_) hf
  refine zs_k hC dX1_reads_5 ?_
  refine zs_is hC dX1_reads_6 (by decide) rfl ?_
  exact zAW.weak (wX1_reads_7 hC hh0 hret F _ _ hf) (zLw_s (zLw_s (zLw_s zLw_0)))
set_option maxRecDepth 20000 in
set_option maxHeartbeats 4000000 in
theorem ctX1_reads {E : zEV} {F : Nat} {h0 : Nat} {μ : zMem} {out : zR} (hh0 : zIsCp h0 = true) (hf : fX1_reads F h0 μ = some out) : zCt E yX1_reads cX1_reads 3 (some .boolean) 4 [.ref h0, .ref 1] μ out :=
  zCt.of [some (.ref h0), some (.ref 1), none] (by decide +kernel) (Nat.le_of_ble_eq_true rfl) (zLw_s (zLw_s (zLw_e zLw_0))) rfl (fun X hE ho hr hC => by
    subst hE; subst ho
    exact wX1_reads hC hh0 hr hf)
/-! J9_max_7cf53 -/
def fJ9_max_7cf53 (F : Nat) (v0 : Int32) (v1 : Int32) (μ : zMem) : Option zR :=
  if v0 < v1 then some (v1, μ) else some (v0, μ)
set_option maxRecDepth 20000 in
set_option maxHeartbeats 4000000 in
theorem wJ9_max_7cf53 {X : zX} {F : Nat} (hC : zCx X RJ9 cJ9_max_7cf53 2 0) (hret : zRt X (some .int)) {v0 : Int32} {v1 : Int32} {μ : zMem} (hf : fJ9_max_7cf53 F v0 v1 μ = some (zOut X)) : zAW X 0 [some (.int v0), some (.int v1)] [] μ := by
  unfold fJ9_max_7cf53 at hf
  refine zs_il hC dJ9_max_7cf53_0 rfl ?_
  refine zs_il hC dJ9_max_7cf53_1 rfl ?_
  refine zs_ic_lt hC dJ9_max_7cf53_2 (fun _ hf => ?_) (fun _ hf => ?_) hf
  · refine zs_il hC dJ9_max_7cf53_9 rfl ?_
    exact zs_iret hC hret dJ9_max_7cf53_10 hf
  · refine zs_il hC dJ9_max_7cf53_5 rfl ?_
    refine zs_goto hC dJ9_max_7cf53_6 ?_
    exact zs_iret hC hret dJ9_max_7cf53_10 hf
set_option maxRecDepth 20000 in
set_option maxHeartbeats 4000000 in
theorem ctJ9_max_7cf53 {E : zEV} {F : Nat} {v0 : Int32} {v1 : Int32} {μ : zMem} {out : zR} (hf : fJ9_max_7cf53 F v0 v1 μ = some out) : zCt E yJ9_max_7cf53 cJ9_max_7cf53 2 (some .int) 0 [.int v0, .int v1] μ out :=
  zCt.of [some (.int v0), some (.int v1)] (by decide +kernel) (Nat.le_of_ble_eq_true rfl) (zLw_s (zLw_s zLw_0)) rfl (fun X hE ho hr hC => by
    subst hE; subst ho
    exact wJ9_max_7cf53 hC hr hf)
/-! X1_lackingTypes -/
def fX1_lackingTypes_4 (F : Nat) (h0 : Nat) : Nat → Int32 → Int32 → Int32 → zMem → Option zR
  | 0, _, _, _, _ => none
  | n + 1, v1, v2, v3, μ => if (nI 26) ≤ v3 then some (v2, μ) else zG v3 26 (zBd (fJ9_max_7cf53 F (nI 0) ((μ (h0 + 2) v3.toNatClampNeg) - v1) μ) (fun r2 m2 => fX1_lackingTypes_4 F h0 n v1 (v2 + r2) (v3 + (nI 1)) m2))
def fX1_lackingTypes (F : Nat) (h0 : Nat) (v1 : Int32) (μ : zMem) : Option zR :=
  fX1_lackingTypes_4 F h0 F v1 (nI 0) (nI 0) μ
set_option maxRecDepth 20000 in
set_option maxHeartbeats 4000000 in
theorem wX1_lackingTypes_4 {X : zX} {F h0 : Nat} (hC : zCx X RX1 cX1_lackingTypes 4 1) (hh0 : zIsCp h0 = true) (hret : zRt X (some .int)) : ∀ (n : Nat) (v1 : Int32) (v2 : Int32) (v3 : Int32) (μ : zMem), fX1_lackingTypes_4 F h0 n v1 v2 v3 μ = some (zOut X) → zAW X 4 [some (.ref h0), some (.int v1), some (.int v2), some (.int v3)] [] μ := by
  intro n
  induction n with
  | zero =>
    intro v1 v2 v3 μ hf
    rw [fX1_lackingTypes_4] at hf
    cases hf
  | succ n ih =>
    intro v1 v2 v3 μ hf
    rw [fX1_lackingTypes_4] at hf
    refine zs_il hC dX1_lackingTypes_4 rfl ?_
    refine zs_k hC dX1_lackingTypes_5 ?_
    refine zs_ic_ge hC dX1_lackingTypes_7 (fun _ hf => ?_) (fun _ hf => ?_) hf
    · refine zs_il hC dX1_lackingTypes_31 rfl ?_
      exact zs_iret hC hret dX1_lackingTypes_32 hf
    · refine zs_il hC dX1_lackingTypes_10 rfl ?_
      refine zs_k hC dX1_lackingTypes_11 ?_
      refine zs_al hC dX1_lackingTypes_12 rfl ?_
      refine zs_getR (h0 + 2) hC fl_RX1_15 (zCp0 hh0) rfl dX1_lackingTypes_13 ?_
      refine zs_il hC dX1_lackingTypes_16 rfl ?_
      refine zs_iald hC (zCp2 hh0) dX1_lackingTypes_17 (fun _ hf => ?_) hf
      refine zs_il hC dX1_lackingTypes_18 rfl ?_
      refine zs_isub hC dX1_lackingTypes_19 ?_
      refine zs_callS [.int (nI 0), .int ((μ (h0 + 2) v3.toNatClampNeg) - v1)] hC cw_J9_max_7cf53 cl_RX1_65 (by decide) rfl rfl (Nat.le_of_ble_eq_true rfl) dX1_lackingTypes_20 (fun _ h => ctJ9_max_7cf53 h) (fun r2 m2 _ hf => ?_) hf
      show zAW X 23 _ (.int r2 :: _) m2
      refine zs_iadd hC dX1_lackingTypes_23 ?_
      refine zs_is hC dX1_lackingTypes_24 (by decide) rfl ?_
      refine zs_iinc (nI 1) hC dX1_lackingTypes_25 (by decide) rfl (by decide) rfl ?_
      refine zs_goto hC dX1_lackingTypes_28 ?_
      exact zAW.weak (ih _ _ _ _ hf) (zLw_s (zLw_s (zLw_s (zLw_s zLw_0))))
set_option maxRecDepth 20000 in
set_option maxHeartbeats 4000000 in
theorem wX1_lackingTypes {X : zX} {F h0 : Nat} (hC : zCx X RX1 cX1_lackingTypes 4 1) (hh0 : zIsCp h0 = true) (hret : zRt X (some .int)) {v1 : Int32} {μ : zMem} (hf : fX1_lackingTypes F h0 v1 μ = some (zOut X)) : zAW X 0 [some (.ref h0), some (.int v1), none, none] [] μ := by
  unfold fX1_lackingTypes at hf
  refine zs_k hC dX1_lackingTypes_0 ?_
  refine zs_is hC dX1_lackingTypes_1 (by decide) rfl ?_
  refine zs_k hC dX1_lackingTypes_2 ?_
  refine zs_is hC dX1_lackingTypes_3 (by decide) rfl ?_
  exact zAW.weak (wX1_lackingTypes_4 hC hh0 hret F _ _ _ _ hf) (zLw_s (zLw_s (zLw_s (zLw_s zLw_0))))
set_option maxRecDepth 20000 in
set_option maxHeartbeats 4000000 in
theorem ctX1_lackingTypes {E : zEV} {F : Nat} {h0 : Nat} {v1 : Int32} {μ : zMem} {out : zR} (hh0 : zIsCp h0 = true) (hf : fX1_lackingTypes F h0 v1 μ = some out) : zCt E yX1_lackingTypes cX1_lackingTypes 4 (some .int) 1 [.ref h0, .int v1] μ out :=
  zCt.of [some (.ref h0), some (.int v1), none, none] (by decide +kernel) (Nat.le_of_ble_eq_true rfl) (zLw_s (zLw_s (zLw_e (zLw_e zLw_0)))) rfl (fun X hE ho hr hC => by
    subst hE; subst ho
    exact wX1_lackingTypes hC hh0 hr hf)
/-! X1_allLetters -/
def fX1_allLetters (F : Nat) (h0 : Nat) (μ : zMem) : Option zR :=
  zBd (fX1_lackingTypes F h0 (nI 0) μ) (fun r1 m1 => some (r1, m1))
set_option maxRecDepth 20000 in
set_option maxHeartbeats 4000000 in
theorem wX1_allLetters {X : zX} {F h0 : Nat} (hC : zCx X RX1 cX1_allLetters 1 2) (hh0 : zIsCp h0 = true) (hret : zRt X (some .int)) {μ : zMem} (hf : fX1_allLetters F h0 μ = some (zOut X)) : zAW X 0 [some (.ref h0)] [] μ := by
  unfold fX1_allLetters at hf
  refine zs_al hC dX1_allLetters_0 rfl ?_
  refine zs_k hC dX1_allLetters_1 ?_
  refine zs_callV [.int (nI 0)] hC cw_X1_lackingTypes cl_RX1_61 (zCp0 hh0) rfl (by decide) rfl rfl (Nat.le_of_ble_eq_true rfl) dX1_allLetters_2 (fun _ h => ctX1_lackingTypes (hh0) h) (fun r1 m1 _ hf => ?_) hf
  show zAW X 5 _ (.int r1 :: _) m1
  exact zs_iret hC hret dX1_allLetters_5 hf
set_option maxRecDepth 20000 in
set_option maxHeartbeats 4000000 in
theorem ctX1_allLetters {E : zEV} {F : Nat} {h0 : Nat} {μ : zMem} {out : zR} (hh0 : zIsCp h0 = true) (hf : fX1_allLetters F h0 μ = some out) : zCt E yX1_allLetters cX1_allLetters 1 (some .int) 2 [.ref h0] μ out :=
  zCt.of [some (.ref h0)] (by decide +kernel) (Nat.le_of_ble_eq_true rfl) (zLw_s zLw_0) rfl (fun X hE ho hr hC => by
    subst hE; subst ho
    exact wX1_allLetters hC hh0 hr hf)
/-! X1_longestWord -/
def fX1_longestWord_4 (F : Nat) (h0 : Nat) : Nat → Int32 → Int32 → zMem → Option zR
  | 0, _, _, _ => none
  | n + 1, v1, v2, μ => if (μ h0 2) ≤ v2 then some (v1, μ) else zG v2 60 (zBd (fJ9_max_7cf53 F v1 (μ (h0 + 1) v2.toNatClampNeg) μ) (fun r3 m3 => fX1_longestWord_4 F h0 n r3 (v2 + (nI 1)) m3))
def fX1_longestWord (F : Nat) (h0 : Nat) (μ : zMem) : Option zR :=
  fX1_longestWord_4 F h0 F (nI 0) (nI 0) μ
set_option maxRecDepth 20000 in
set_option maxHeartbeats 4000000 in
theorem wX1_longestWord_4 {X : zX} {F h0 : Nat} (hC : zCx X RX1 cX1_longestWord 3 1) (hh0 : zIsCp h0 = true) (hret : zRt X (some .int)) : ∀ (n : Nat) (v1 : Int32) (v2 : Int32) (μ : zMem), fX1_longestWord_4 F h0 n v1 v2 μ = some (zOut X) → zAW X 4 [some (.ref h0), some (.int v1), some (.int v2)] [] μ := by
  intro n
  induction n with
  | zero =>
    intro v1 v2 μ hf
    rw [fX1_longestWord_4] at hf
    cases hf
  | succ n ih =>
    intro v1 v2 μ hf
    rw [fX1_longestWord_4] at hf
    refine zs_il hC dX1_longestWord_4 rfl ?_
    refine zs_al hC dX1_longestWord_5 rfl ?_
    refine zs_getI hC fl_RX1_18 (zCp0 hh0) rfl dX1_longestWord_6 ?_
    refine zs_ic_ge hC dX1_longestWord_9 (fun _ hf => ?_) (fun _ hf => ?_) hf
    · refine zs_il hC dX1_longestWord_29 rfl ?_
      exact zs_iret hC hret dX1_longestWord_30 hf
    · refine zs_il hC dX1_longestWord_12 rfl ?_
      refine zs_al hC dX1_longestWord_13 rfl ?_
      refine zs_getR (h0 + 1) hC fl_RX1_11 (zCp0 hh0) rfl dX1_longestWord_14 ?_
      refine zs_il hC dX1_longestWord_17 rfl ?_
      refine zs_iald hC (zCp1 hh0) dX1_longestWord_18 (fun _ hf => ?_) hf
      refine zs_callS [.int v1, .int (μ (h0 + 1) v2.toNatClampNeg)] hC cw_J9_max_7cf53 cl_RX1_65 (by decide) rfl rfl (Nat.le_of_ble_eq_true rfl) dX1_longestWord_19 (fun _ h => ctJ9_max_7cf53 h) (fun r3 m3 _ hf => ?_) hf
      show zAW X 22 _ (.int r3 :: _) m3
      refine zs_is hC dX1_longestWord_22 (by decide) rfl ?_
      refine zs_iinc (nI 1) hC dX1_longestWord_23 (by decide) rfl (by decide) rfl ?_
      refine zs_goto hC dX1_longestWord_26 ?_
      exact zAW.weak (ih _ _ _ hf) (zLw_s (zLw_s (zLw_s zLw_0)))
set_option maxRecDepth 20000 in
set_option maxHeartbeats 4000000 in
theorem wX1_longestWord {X : zX} {F h0 : Nat} (hC : zCx X RX1 cX1_longestWord 3 1) (hh0 : zIsCp h0 = true) (hret : zRt X (some .int)) {μ : zMem} (hf : fX1_longestWord F h0 μ = some (zOut X)) : zAW X 0 [some (.ref h0), none, none] [] μ := by
  unfold fX1_longestWord at hf
  refine zs_k hC dX1_longestWord_0 ?_
  refine zs_is hC dX1_longestWord_1 (by decide) rfl ?_
  refine zs_k hC dX1_longestWord_2 ?_
  refine zs_is hC dX1_longestWord_3 (by decide) rfl ?_
  exact zAW.weak (wX1_longestWord_4 hC hh0 hret F _ _ _ hf) (zLw_s (zLw_s (zLw_s zLw_0)))
set_option maxRecDepth 20000 in
set_option maxHeartbeats 4000000 in
theorem ctX1_longestWord {E : zEV} {F : Nat} {h0 : Nat} {μ : zMem} {out : zR} (hh0 : zIsCp h0 = true) (hf : fX1_longestWord F h0 μ = some out) : zCt E yX1_longestWord cX1_longestWord 3 (some .int) 1 [.ref h0] μ out :=
  zCt.of [some (.ref h0), none, none] (by decide +kernel) (Nat.le_of_ble_eq_true rfl) (zLw_s (zLw_e (zLw_e zLw_0))) rfl (fun X hE ho hr hC => by
    subst hE; subst ho
    exact wX1_longestWord hC hh0 hr hf)
/-! X1_unlikeLetters -/
def fX1_unlikeLetters_4 (F : Nat) (h0 : Nat) : Nat → Int32 → Int32 → zMem → Option zR
  | 0, _, _, _ => none
  | n + 1, v1, v2, μ => if (nI 26) ≤ v2 then some (v1, μ) else zG v2 26 (if (μ (h0 + 2) v2.toNatClampNeg) ≤ 0 then fX1_unlikeLetters_4 F h0 n v1 (v2 + (nI 1)) μ else fX1_unlikeLetters_4 F h0 n (v1 + (nI 1)) (v2 + (nI 1)) μ)
def fX1_unlikeLetters (F : Nat) (h0 : Nat) (μ : zMem) : Option zR :=
  fX1_unlikeLetters_4 F h0 F (nI 0) (nI 0) μ
set_option maxRecDepth 20000 in
set_option maxHeartbeats 4000000 in
theorem wX1_unlikeLetters_4 {X : zX} {F h0 : Nat} (hC : zCx X RX1 cX1_unlikeLetters 3 0) (hh0 : zIsCp h0 = true) (hret : zRt X (some .int)) : ∀ (n : Nat) (v1 : Int32) (v2 : Int32) (μ : zMem), fX1_unlikeLetters_4 F h0 n v1 v2 μ = some (zOut X) → zAW X 4 [some (.ref h0), some (.int v1), some (.int v2)] [] μ := by
  intro n
  induction n with
  | zero =>
    intro v1 v2 μ hf
    rw [fX1_unlikeLetters_4] at hf
    cases hf
  | succ n ih =>
    intro v1 v2 μ hf
    rw [fX1_unlikeLetters_4] at hf
    refine zs_il hC dX1_unlikeLetters_4 rfl ?_
    refine zs_k hC dX1_unlikeLetters_5 ?_
    refine zs_ic_ge hC dX1_unlikeLetters_7 (fun _ hf => ?_) (fun _ hf => ?_) hf
    · refine zs_il hC dX1_unlikeLetters_28 rfl ?_
      exact zs_iret hC hret dX1_unlikeLetters_29 hf
    · refine zs_al hC dX1_unlikeLetters_10 rfl ?_
      refine zs_getR (h0 + 2) hC fl_RX1_15 (zCp0 hh0) rfl dX1_unlikeLetters_11 ?_
      refine zs_il hC dX1_unlikeLetters_14 rfl ?_
      refine zs_iald hC (zCp2 hh0) dX1_unlikeLetters_15 (fun _ hf => ?_) hf
      refine zs_if_le hC dX1_unlikeLetters_16 (fun _ hf => ?_) (fun _ hf => ?_) hf
      · refine zs_iinc (nI 1) hC dX1_unlikeLetters_22 (by decide) rfl (by decide) rfl ?_
        refine zs_goto hC dX1_unlikeLetters_25 ?_
        exact zAW.weak (ih _ _ _ hf) (zLw_s (zLw_s (zLw_s zLw_0)))
      · refine zs_iinc (nI 1) hC dX1_unlikeLetters_19 (by decide) rfl (by decide) rfl ?_
        refine zs_iinc (nI 1) hC dX1_unlikeLetters_22 (by decide) rfl (by decide) rfl ?_
        refine zs_goto hC dX1_unlikeLetters_25 ?_
        exact zAW.weak (ih _ _ _ hf) (zLw_s (zLw_s (zLw_s zLw_0)))
set_option maxRecDepth 20000 in
set_option maxHeartbeats 4000000 in
theorem wX1_unlikeLetters {X : zX} {F h0 : Nat} (hC : zCx X RX1 cX1_unlikeLetters 3 0) (hh0 : zIsCp h0 = true) (hret : zRt X (some .int)) {μ : zMem} (hf : fX1_unlikeLetters F h0 μ = some (zOut X)) : zAW X 0 [some (.ref h0), none, none] [] μ := by
  unfold fX1_unlikeLetters at hf
  refine zs_k hC dX1_unlikeLetters_0 ?_
  refine zs_is hC dX1_unlikeLetters_1 (by decide) rfl ?_
  refine zs_k hC dX1_unlikeLetters_2 ?_
  refine zs_is hC dX1_unlikeLetters_3 (by decide) rfl ?_
  exact zAW.weak (wX1_unlikeLetters_4 hC hh0 hret F _ _ _ hf) (zLw_s (zLw_s (zLw_s zLw_0)))
set_option maxRecDepth 20000 in
set_option maxHeartbeats 4000000 in
theorem ctX1_unlikeLetters {E : zEV} {F : Nat} {h0 : Nat} {μ : zMem} {out : zR} (hh0 : zIsCp h0 = true) (hf : fX1_unlikeLetters F h0 μ = some out) : zCt E yX1_unlikeLetters cX1_unlikeLetters 3 (some .int) 0 [.ref h0] μ out :=
  zCt.of [some (.ref h0), none, none] (by decide +kernel) (Nat.le_of_ble_eq_true rfl) (zLw_s (zLw_e (zLw_e zLw_0))) rfl (fun X hE ho hr hC => by
    subst hE; subst ho
    exact wX1_unlikeLetters hC hh0 hr hf)
/-! J6_bitCount_0f7a4 -/
def fJ6_bitCount_0f7a4 (F : Nat) (v0 : Int32) (μ : zMem) : Option zR :=
  some (((((((((v0 - ((zUsh v0 (nI 1)) &&& (nI 1431655765))) &&& (nI 858993459)) + ((zUsh (v0 - ((zUsh v0 (nI 1)) &&& (nI 1431655765))) (nI 2)) &&& (nI 858993459))) + (zUsh (((v0 - ((zUsh v0 (nI 1)) &&& (nI 1431655765))) &&& (nI 858993459)) + ((zUsh (v0 - ((zUsh v0 (nI 1)) &&& (nI 1431655765))) (nI 2)) &&& (nI 858993459))) (nI 4))) &&& (nI 252645135)) + (zUsh (((((v0 - ((zUsh v0 (nI 1)) &&& (nI 1431655765))) &&& (nI 858993459)) + ((zUsh (v0 - ((zUsh v0 (nI 1)) &&& (nI 1431655765))) (nI 2)) &&& (nI 858993459))) + (zUsh (((v0 - ((zUsh v0 (nI 1)) &&& (nI 1431655765))) &&& (nI 858993459)) + ((zUsh (v0 - ((zUsh v0 (nI 1)) &&& (nI 1431655765))) (nI 2)) &&& (nI 858993459))) (nI 4))) &&& (nI 252645135)) (nI 8))) + (zUsh ((((((v0 - ((zUsh v0 (nI 1)) &&& (nI 1431655765))) &&& (nI 858993459)) + ((zUsh (v0 - ((zUsh v0 (nI 1)) &&& (nI 1431655765))) (nI 2)) &&& (nI 858993459))) + (zUsh (((v0 - ((zUsh v0 (nI 1)) &&& (nI 1431655765))) &&& (nI 858993459)) + ((zUsh (v0 - ((zUsh v0 (nI 1)) &&& (nI 1431655765))) (nI 2)) &&& (nI 858993459))) (nI 4))) &&& (nI 252645135)) + (zUsh (((((v0 - ((zUsh v0 (nI 1)) &&& (nI 1431655765))) &&& (nI 858993459)) + ((zUsh (v0 - ((zUsh v0 (nI 1)) &&& (nI 1431655765))) (nI 2)) &&& (nI 858993459))) + (zUsh (((v0 - ((zUsh v0 (nI 1)) &&& (nI 1431655765))) &&& (nI 858993459)) + ((zUsh (v0 - ((zUsh v0 (nI 1)) &&& (nI 1431655765))) (nI 2)) &&& (nI 858993459))) (nI 4))) &&& (nI 252645135)) (nI 8))) (nI 16))) &&& (nI 63)), μ)
set_option maxRecDepth 20000 in
set_option maxHeartbeats 4000000 in
theorem wJ6_bitCount_0f7a4 {X : zX} {F : Nat} (hC : zCx X RJ6 cJ6_bitCount_0f7a4 1 0) (hret : zRt X (some .int)) {v0 : Int32} {μ : zMem} (hf : fJ6_bitCount_0f7a4 F v0 μ = some (zOut X)) : zAW X 0 [some (.int v0)] [] μ := by
  unfold fJ6_bitCount_0f7a4 at hf
  refine zs_il hC dJ6_bitCount_0f7a4_0 rfl ?_
  refine zs_il hC dJ6_bitCount_0f7a4_1 rfl ?_
  refine zs_k hC dJ6_bitCount_0f7a4_2 ?_
  refine zs_iushr hC dJ6_bitCount_0f7a4_3 ?_
  refine zs_ldcw hC kc_RJ6_265 dJ6_bitCount_0f7a4_4 ?_
  refine zs_iand hC dJ6_bitCount_0f7a4_7 ?_
  refine zs_isub hC dJ6_bitCount_0f7a4_8 ?_
  refine zs_is hC dJ6_bitCount_0f7a4_9 (by decide) rfl ?_
  refine zs_il hC dJ6_bitCount_0f7a4_10 rfl ?_
  refine zs_ldcw hC kc_RJ6_266 dJ6_bitCount_0f7a4_11 ?_
  refine zs_iand hC dJ6_bitCount_0f7a4_14 ?_
  refine zs_il hC dJ6_bitCount_0f7a4_15 rfl ?_
  refine zs_k hC dJ6_bitCount_0f7a4_16 ?_
  refine zs_iushr hC dJ6_bitCount_0f7a4_17 ?_
  refine zs_ldcw hC kc_RJ6_266 dJ6_bitCount_0f7a4_18 ?_
  refine zs_iand hC dJ6_bitCount_0f7a4_21 ?_
  refine zs_iadd hC dJ6_bitCount_0f7a4_22 ?_
  refine zs_is hC dJ6_bitCount_0f7a4_23 (by decide) rfl ?_
  refine zs_il hC dJ6_bitCount_0f7a4_24 rfl ?_
  refine zs_il hC dJ6_bitCount_0f7a4_25 rfl ?_
  refine zs_k hC dJ6_bitCount_0f7a4_26 ?_
  refine zs_iushr hC dJ6_bitCount_0f7a4_27 ?_
  refine zs_iadd hC dJ6_bitCount_0f7a4_28 ?_
  refine zs_ldcw hC kc_RJ6_267 dJ6_bitCount_0f7a4_29 ?_
  refine zs_iand hC dJ6_bitCount_0f7a4_32 ?_
  refine zs_is hC dJ6_bitCount_0f7a4_33 (by decide) rfl ?_
  refine zs_il hC dJ6_bitCount_0f7a4_34 rfl ?_
  refine zs_il hC dJ6_bitCount_0f7a4_35 rfl ?_
  refine zs_k hC dJ6_bitCount_0f7a4_36 ?_
  refine zs_iushr hC dJ6_bitCount_0f7a4_38 ?_
  refine zs_iadd hC dJ6_bitCount_0f7a4_39 ?_
  refine zs_is hC dJ6_bitCount_0f7a4_40 (by decide) rfl ?_
  refine zs_il hC dJ6_bitCount_0f7a4_41 rfl ?_
  refine zs_il hC dJ6_bitCount_0f7a4_42 rfl ?_
  refine zs_k hC dJ6_bitCount_0f7a4_43 ?_
  refine zs_iushr hC dJ6_bitCount_0f7a4_45 ?_
  refine zs_iadd hC dJ6_bitCount_0f7a4_46 ?_
  refine zs_is hC dJ6_bitCount_0f7a4_47 (by decide) rfl ?_
  refine zs_il hC dJ6_bitCount_0f7a4_48 rfl ?_
  refine zs_k hC dJ6_bitCount_0f7a4_49 ?_
  refine zs_iand hC dJ6_bitCount_0f7a4_51 ?_
  exact zs_iret hC hret dJ6_bitCount_0f7a4_52 hf
set_option maxRecDepth 20000 in
set_option maxHeartbeats 4000000 in
theorem ctJ6_bitCount_0f7a4 {E : zEV} {F : Nat} {v0 : Int32} {μ : zMem} {out : zR} (hf : fJ6_bitCount_0f7a4 F v0 μ = some out) : zCt E yJ6_bitCount_0f7a4 cJ6_bitCount_0f7a4 1 (some .int) 0 [.int v0] μ out :=
  zCt.of [some (.int v0)] (by decide +kernel) (Nat.le_of_ble_eq_true rfl) (zLw_s zLw_0) rfl (fun X hE ho hr hC => by
    subst hE; subst ho
    exact wJ6_bitCount_0f7a4 hC hr hf)
/-! A -/
def bX2_isCovered (F : Nat) (rcisCovered : Int32 → Int32 → Int32 → zMem → Option zR) (v1 : Int32) (v2 : Int32) (v3 : Int32) (μ : zMem) : Option zR :=
  if v2 = 0 then some ((nI 1), μ) else if v1 < 0 then some ((nI 0), μ) else zG v1 20 (if (v2 &&& ((μ 52 v1.toNatClampNeg) ^^^ (-1 : Int32))) = 0 then zBd (fJ6_bitCount_0f7a4 F v2 μ) (fun r2 m2 => zG v1 20 (if r2 ≤ (v3 * (m2 53 v1.toNatClampNeg)) then zBd (rcisCovered (v1 - (nI 1)) v2 v3 m2) (fun r4 m4 => if r4 = 0 then zG v1 20 (if (v2 &&& (m4 51 v1.toNatClampNeg)) = 0 then some ((nI 0), m4) else zG v1 20 (zBd (rcisCovered (v1 - (nI 1)) (v2 &&& ((m4 51 v1.toNatClampNeg) ^^^ (-1 : Int32))) (v3 - (nI 1)) m4) (fun r7 m7 => if r7 = 0 then some ((nI 0), m7) else zLt (zUp m7 50 3 ((m7 50 3) ||| ((nI 1) <<< (v1 &&& 31)))) (fun m9 => some ((nI 1), m9))))) else some ((nI 1), m4)) else some ((nI 0), m2))) else some ((nI 0), μ))
def fX2_isCovered (F : Nat) : Nat → Int32 → Int32 → Int32 → zMem → Option zR
  | 0, _, _, _, _ => none
  | D + 1, v1, v2, v3, μ => bX2_isCovered F (fX2_isCovered F D) v1 v2 v3 μ
set_option maxRecDepth 20000 in
set_option maxHeartbeats 4000000 in
theorem wX2_isCovered {X : zX} {F : Nat} {lr lv : Nat} (hC : zCx X RX2 cX2_isCovered 4 lv) {rcisCovered : Int32 → Int32 → Int32 → zMem → Option zR} (hret : zRt X (some .boolean)) (hrcisCovered : ∀ (v1 : Int32) (v2 : Int32) (v3 : Int32) (μ : zMem) (o : zR), rcisCovered v1 v2 v3 μ = some o → zCt X.1 yX2_isCovered cX2_isCovered 4 (some .boolean) lr [.ref 50, .int v1, .int v2, .int v3] μ o) (hlr : lr + 1 ≤ lv) (hlb : 1 ≤ lv) {v1 : Int32} {v2 : Int32} {v3 : Int32} {μ : zMem} (hf : bX2_isCovered F rcisCovered v1 v2 v3 μ = some (zOut X)) : zAW X 0 [some (.ref 50), some (.int v1), some (.int v2), some (.int v3)] [] μ := by
  unfold bX2_isCovered at hf
  refine zs_il hC dX2_isCovered_0 rfl ?_
  refine zs_if_ne hC dX2_isCovered_1 (fun _ hf => ?_) (fun _ hf => ?_) hf
  · refine zs_k hC dX2_isCovered_4 ?_
    exact zs_zretK hC hret dX2_isCovered_5 (by decide) hf
  · refine zs_il hC dX2_isCovered_6 rfl ?_
    refine zs_if_lt hC dX2_isCovered_7 (fun _ hf => ?_) (fun _ hf => ?_) hf
    · refine zs_k hC dX2_isCovered_38 ?_
      exact zs_zretK hC hret dX2_isCovered_39 (by decide) hf
    · refine zs_il hC dX2_isCovered_10 rfl ?_
      refine zs_al hC dX2_isCovered_11 rfl ?_
      refine zs_getR 52 hC fl_RX2_15 zL50 rfl dX2_isCovered_12 ?_
      refine zs_il hC dX2_isCovered_15 rfl ?_
      refine zs_iald hC zL52 dX2_isCovered_16 (fun _ hf => ?_) hf
      refine zs_k hC dX2_isCovered_17 ?_
      refine zs_ixor hC dX2_isCovered_18 ?_
      refine zs_iand hC dX2_isCovered_19 ?_
      refine zs_if_ne hC dX2_isCovered_20 (fun _ hf => ?_) (fun _ hf => ?_) hf
      · refine zs_il hC dX2_isCovered_23 rfl ?_
        refine zs_callS [.int v2] hC cw_J6_bitCount_0f7a4 cl_RX2_25 (by omega) rfl rfl (Nat.le_of_ble_eq_true rfl) dX2_isCovered_24 (fun _ h => ctJ6_bitCount_0f7a4 h) (fun r2 m2 _ hf => ?_) hf
        show zAW X 27 _ (.int r2 :: _) m2
        refine zs_il hC dX2_isCovered_27 rfl ?_
        refine zs_al hC dX2_isCovered_28 rfl ?_
        refine zs_getR 53 hC fl_RX2_18 zL50 rfl dX2_isCovered_29 ?_
        refine zs_il hC dX2_isCovered_32 rfl ?_
        refine zs_iald hC zL53 dX2_isCovered_33 (fun _ hf => ?_) hf
        refine zs_imul hC dX2_isCovered_34 ?_
        refine zs_ic_le hC dX2_isCovered_35 (fun _ hf => ?_) (fun _ hf => ?_) hf
        · refine zs_al hC dX2_isCovered_40 rfl ?_
          refine zs_il hC dX2_isCovered_41 rfl ?_
          refine zs_k hC dX2_isCovered_42 ?_
          refine zs_isub hC dX2_isCovered_43 ?_
          refine zs_il hC dX2_isCovered_44 rfl ?_
          refine zs_il hC dX2_isCovered_45 rfl ?_
          refine zs_callV [.int (v1 - (nI 1)), .int v2, .int v3] hC cw_X2_isCovered cl_RX2_37 zL50 rfl hlr rfl rfl (Nat.le_of_ble_eq_true rfl) dX2_isCovered_46 (fun _ h => hrcisCovered _ _ _ _ _ h) (fun r4 m4 _ hf => ?_) hf
          show zAW X 49 _ (.int r4 :: _) m4
          refine zs_if_eq hC dX2_isCovered_49 (fun _ hf => ?_) (fun _ hf => ?_) hf
          · refine zs_il hC dX2_isCovered_54 rfl ?_
            refine zs_al hC dX2_isCovered_55 rfl ?_
            refine zs_getR 51 hC fl_RX2_11 zL50 rfl dX2_isCovered_56 ?_
            refine zs_il hC dX2_isCovered_59 rfl ?_
            refine zs_iald hC zL51 dX2_isCovered_60 (fun _ hf => ?_) hf
            refine zs_iand hC dX2_isCovered_61 ?_
            refine zs_if_eq hC dX2_isCovered_62 (fun _ hf => ?_) (fun _ hf => ?_) hf
            · refine zs_k hC dX2_isCovered_102 ?_
              exact zs_zretK hC hret dX2_isCovered_103 (by decide) hf
            · refine zs_al hC dX2_isCovered_65 rfl ?_
              refine zs_il hC dX2_isCovered_66 rfl ?_
              refine zs_k hC dX2_isCovered_67 ?_
              refine zs_isub hC dX2_isCovered_68 ?_
              refine zs_il hC dX2_isCovered_69 rfl ?_
              refine zs_al hC dX2_isCovered_70 rfl ?_
              refine zs_getR 51 hC fl_RX2_11 zL50 rfl dX2_isCovered_71 ?_
              refine zs_il hC dX2_isCovered_74 rfl ?_
              refine zs_iald hC zL51 dX2_isCovered_75 (fun _ hf => ?_) hf
              refine zs_k hC dX2_isCovered_76 ?_
              refine zs_ixor hC dX2_isCovered_77 ?_
              refine zs_iand hC dX2_isCovered_78 ?_
              refine zs_il hC dX2_isCovered_79 rfl ?_
              refine zs_k hC dX2_isCovered_80 ?_
              refine zs_isub hC dX2_isCovered_81 ?_
              refine zs_callV [.int (v1 - (nI 1)), .int (v2 &&& ((m4 51 v1.toNatClampNeg) ^^^ (-1 : Int32))), .int (v3 - (nI 1))] hC cw_X2_isCovered cl_RX2_37 zL50 rfl hlr rfl rfl (Nat.le_of_ble_eq_true rfl) dX2_isCovered_82 (fun _ h => hrcisCovered _ _ _ _ _ h) (fun r7 m7 _ hf => ?_) hf
              show zAW X 85 _ (.int r7 :: _) m7
              refine zs_if_eq hC dX2_isCovered_85 (fun _ hf => ?_) (fun _ hf => ?_) hf
              · refine zs_k hC dX2_isCovered_102 ?_
                exact zs_zretK hC hret dX2_isCovered_103 (by decide) hf
              · refine zs_al hC dX2_isCovered_88 rfl ?_
                refine zs_dup hC dX2_isCovered_89 rfl ?_
                refine zs_getI hC fl_RX2_21 zL50 rfl dX2_isCovered_90 ?_
                refine zs_k hC dX2_isCovered_93 ?_
                refine zs_il hC dX2_isCovered_94 rfl ?_
                refine zs_ishl hC dX2_isCovered_95 ?_
                refine zs_ior hC dX2_isCovered_96 ?_
                refine zs_putI hC fl_RX2_21 fp_2_3 zL50 rfl dX2_isCovered_97 ?_
                refine zs_let (fun m9 _ hf => ?_) hf
                refine zs_k hC dX2_isCovered_100 ?_
                exact zs_zretK hC hret dX2_isCovered_101 (by decide) hf
          · refine zs_k hC dX2_isCovered_52 ?_
            exact zs_zretK hC hret dX2_isCovered_53 (by decide) hf
        · refine zs_k hC dX2_isCovered_38 ?_
          exact zs_zretK hC hret dX2_isCovered_39 (by decide) hf
      · refine zs_k hC dX2_isCovered_38 ?_
        exact zs_zretK hC hret dX2_isCovered_39 (by decide) hf
set_option maxRecDepth 20000 in
set_option maxHeartbeats 4000000 in
theorem ctX2_isCovered_D {E : zEV} {F : Nat} : ∀ (D : Nat) (v1 : Int32) (v2 : Int32) (v3 : Int32) (μ : zMem) (out : zR), fX2_isCovered F D v1 v2 v3 μ = some out → zCt E yX2_isCovered cX2_isCovered 4 (some .boolean) (D + 1) [.ref 50, .int v1, .int v2, .int v3] μ out := by
  intro D
  induction D with
  | zero =>
    intro v1 v2 v3 μ out hf
    rw [fX2_isCovered] at hf
    cases hf
  | succ D ih =>
    intro v1 v2 v3 μ out hf
    rw [fX2_isCovered] at hf
    exact zCt.of [some (.ref 50), some (.int v1), some (.int v2), some (.int v3)] (by decide +kernel) (Nat.le_of_ble_eq_true rfl) (zLw_s (zLw_s (zLw_s (zLw_s zLw_0)))) rfl (fun X hE ho hr hC => by
      subst hE; subst ho
      exact wX2_isCovered (lr := D + 1) hC hr ih (by omega) (by omega) hf)
set_option maxRecDepth 20000 in
set_option maxHeartbeats 4000000 in
theorem ctX2_isCovered {E : zEV} {F : Nat} {v1 : Int32} {v2 : Int32} {v3 : Int32} {μ : zMem} {out : zR} (hf : fX2_isCovered F 40 v1 v2 v3 μ = some out) : zCt E yX2_isCovered cX2_isCovered 4 (some .boolean) 41 [.ref 50, .int v1, .int v2, .int v3] μ out := ctX2_isCovered_D _ _ _ _ _ _ hf
/-! X2_finds -/
def fX2_finds_74 (F : Nat) : Nat → Int32 → Int32 → Int32 → zMem → Option zR
  | 0, _, _, _, _ => none
  | n + 1, v1, v2, v5, μ => if (nI 16) < v5 then some ((nI 0), μ) else zBd (fX2_isCovered F 40 (v1 - (nI 1)) v2 v5 μ) (fun r1 m1 => if r1 = 0 then fX2_finds_74 F n v1 v2 (v5 + (nI 1)) m1 else some ((nI 1), m1))
def fX2_finds_13 (F : Nat) : Nat → Int32 → Int32 → Int32 → Int32 → Int32 → zMem → Option zR
  | 0, _, _, _, _, _, _ => none
  | n + 1, v1, v2, v3, v4, v5, μ => if v1 ≤ v5 then fX2_finds_74 F F v1 v2 (nI 0) μ else zG v5 20 (zG v5 20 (zBd (fJ6_bitCount_0f7a4 F ((μ 51 v5.toNatClampNeg) &&& v2) μ) (fun r3 m3 => zBd (fJ9_max_7cf53 F v4 r3 m3) (fun r4 m4 => zG v5 20 (zLt (zUp m4 52 v5.toNatClampNeg (v3 ||| (μ 51 v5.toNatClampNeg))) (fun m6 => zG v5 20 (zLt (zUp m6 53 v5.toNatClampNeg r4) (fun m8 => fX2_finds_13 F n v1 v2 (v3 ||| (μ 51 v5.toNatClampNeg)) r4 (v5 + (nI 1)) m8))))))))
def fX2_finds (F : Nat) (v1 : Int32) (v2 : Int32) (μ : zMem) : Option zR :=
  zLt (zUp μ 50 3 (nI 0)) (fun m1 => fX2_finds_13 F F v1 v2 (nI 0) (nI 0) (nI 0) m1)
set_option maxRecDepth 20000 in
set_option maxHeartbeats 4000000 in
theorem wX2_finds_74 {X : zX} {F : Nat} (hC : zCx X RX2 cX2_finds 6 42) (hret : zRt X (some .boolean)) : ∀ (n : Nat) (v1 : Int32) (v2 : Int32) (v5 : Int32) (μ : zMem), fX2_finds_74 F n v1 v2 v5 μ = some (zOut X) → zAW X 74 [some (.ref 50), some (.int v1), some (.int v2), none, none, some (.int v5)] [] μ := by
  intro n
  induction n with
  | zero =>
    intro v1 v2 v5 μ hf
    rw [fX2_finds_74] at hf
    cases hf
  | succ n ih =>
    intro v1 v2 v5 μ hf
    rw [fX2_finds_74] at hf
    refine zs_il hC dX2_finds_74 rfl ?_
    refine zs_k hC dX2_finds_76 ?_
    refine zs_ic_gt hC dX2_finds_78 (fun _ hf => ?_) (fun _ hf => ?_) hf
    · refine zs_k hC dX2_finds_102 ?_
      exact zs_zretK hC hret dX2_finds_103 (by decide) hf
    · refine zs_al hC dX2_finds_81 rfl ?_
      refine zs_il hC dX2_finds_82 rfl ?_
      refine zs_k hC dX2_finds_83 ?_
      refine zs_isub hC dX2_finds_84 ?_
      refine zs_il hC dX2_finds_85 rfl ?_
      refine zs_il hC dX2_finds_86 rfl ?_
      refine zs_callV [.int (v1 - (nI 1)), .int v2, .int v5] hC cw_X2_isCovered cl_RX2_37 zL50 rfl (by decide) rfl rfl (Nat.le_of_ble_eq_true rfl) dX2_finds_88 (fun _ h => ctX2_isCovered h) (fun r1 m1 _ hf => ?_) hf
      show zAW X 91 _ (.int r1 :: _) m1
      refine zs_if_eq hC dX2_finds_91 (fun _ hf => ?_) (fun _ hf => ?_) hf
      · refine zs_iinc (nI 1) hC dX2_finds_96 (by decide) rfl (by decide) rfl ?_
        refine zs_goto hC dX2_finds_99 ?_
        exact zAW.weak (ih _ _ _ _ hf) (zLw_s (zLw_s (zLw_s (zLw_n (zLw_n (zLw_s zLw_0))))))
      · refine zs_k hC dX2_finds_94 ?_
        exact zs_zretK hC hret dX2_finds_95 (by decide) hf
set_option maxRecDepth 20000 in
set_option maxHeartbeats 4000000 in
theorem wX2_finds_13 {X : zX} {F : Nat} (hC : zCx X RX2 cX2_finds 6 42) (hret : zRt X (some .boolean)) : ∀ (n : Nat) (v1 : Int32) (v2 : Int32) (v3 : Int32) (v4 : Int32) (v5 : Int32) (μ : zMem), fX2_finds_13 F n v1 v2 v3 v4 v5 μ = some (zOut X) → zAW X 13 [some (.ref 50), some (.int v1), some (.int v2), some (.int v3), some (.int v4), some (.int v5)] [] μ := by
  intro n
  induction n with
  | zero =>
    intro v1 v2 v3 v4 v5 μ hf
    rw [fX2_finds_13] at hf
    cases hf
  | succ n ih =>
    intro v1 v2 v3 v4 v5 μ hf
    rw [fX2_finds_13] at hf
    refine zs_il hC dX2_finds_13 rfl ?_
    refine zs_il hC dX2_finds_15 rfl ?_
    refine zs_ic_ge hC dX2_finds_16 (fun _ hf => ?_) (fun _ hf => ?_) hf
    · refine zs_k hC dX2_finds_71 ?_
      refine zs_is hC dX2_finds_72 (by decide) rfl ?_
      exact zAW.weak (wX2_finds_74 hC hret F _ _ _ _ hf) (zLw_s (zLw_s (zLw_s (zLw_n (zLw_n (zLw_s zLw_0))))))
    · refine zs_il hC dX2_finds_19 rfl ?_
      refine zs_al hC dX2_finds_20 rfl ?_
      refine zs_getR 51 hC fl_RX2_11 zL50 rfl dX2_finds_21 ?_
      refine zs_il hC dX2_finds_24 rfl ?_
      refine zs_iald hC zL51 dX2_finds_26 (fun _ hf => ?_) hf
      refine zs_ior hC dX2_finds_27 ?_
      refine zs_is hC dX2_finds_28 (by decide) rfl ?_
      refine zs_il hC dX2_finds_29 rfl ?_
      refine zs_al hC dX2_finds_31 rfl ?_
      refine zs_getR 51 hC fl_RX2_11 zL50 rfl dX2_finds_32 ?_
      refine zs_il hC dX2_finds_35 rfl ?_
      refine zs_iald hC zL51 dX2_finds_37 (fun _ hf => ?_) hf
      refine zs_il hC dX2_finds_38 rfl ?_
      refine zs_iand hC dX2_finds_39 ?_
      refine zs_callS [.int ((μ 51 v5.toNatClampNeg) &&& v2)] hC cw_J6_bitCount_0f7a4 cl_RX2_25 (by decide) rfl rfl (Nat.le_of_ble_eq_true rfl) dX2_finds_40 (fun _ h => ctJ6_bitCount_0f7a4 h) (fun r3 m3 _ hf => ?_) hf
      show zAW X 43 _ (.int r3 :: _) m3
      refine zs_callS [.int v4, .int r3] hC cw_J9_max_7cf53 cl_RX2_31 (by decide) rfl rfl (Nat.le_of_ble_eq_true rfl) dX2_finds_43 (fun _ h => ctJ9_max_7cf53 h) (fun r4 m4 _ hf => ?_) hf
      show zAW X 46 _ (.int r4 :: _) m4
      refine zs_is hC dX2_finds_46 (by decide) rfl ?_
      refine zs_al hC dX2_finds_48 rfl ?_
      refine zs_getR 52 hC fl_RX2_15 zL50 rfl dX2_finds_49 ?_
      refine zs_il hC dX2_finds_52 rfl ?_
      refine zs_il hC dX2_finds_54 rfl ?_
      refine zs_iast hC zL52 dX2_finds_55 (fun _ hf => ?_) hf
      refine zs_let (fun m6 _ hf => ?_) hf
      refine zs_al hC dX2_finds_56 rfl ?_
      refine zs_getR 53 hC fl_RX2_18 zL50 rfl dX2_finds_57 ?_
      refine zs_il hC dX2_finds_60 rfl ?_
      refine zs_il hC dX2_finds_62 rfl ?_
      refine zs_iast hC zL53 dX2_finds_64 (fun _ hf => ?_) hf
      refine zs_let (fun m8 _ hf => ?_) hf
      refine zs_iinc (nI 1) hC dX2_finds_65 (by decide) rfl (by decide) rfl ?_
      refine zs_goto hC dX2_finds_68 ?_
      exact zAW.weak (ih _ _ _ _ _ _ hf) (zLw_s (zLw_s (zLw_s (zLw_s (zLw_s (zLw_s zLw_0))))))
set_option maxRecDepth 20000 in
set_option maxHeartbeats 4000000 in
theorem wX2_finds {X : zX} {F : Nat} (hC : zCx X RX2 cX2_finds 6 42) (hret : zRt X (some .boolean)) {v1 : Int32} {v2 : Int32} {μ : zMem} (hf : fX2_finds F v1 v2 μ = some (zOut X)) : zAW X 0 [some (.ref 50), some (.int v1), some (.int v2), none, none, none] [] μ := by
  unfold fX2_finds at hf
  refine zs_al hC dX2_finds_0 rfl ?_
  refine zs_k hC dX2_finds_1 ?_
  refine zs_putI hC fl_RX2_21 fp_2_3 zL50 rfl dX2_finds_2 ?_
  refine zs_let (fun m1 _ hf => ?_) hf
  refine zs_k hC dX2_finds_5 ?_
  refine zs_is hC dX2_finds_6 (by decide) rfl ?_
  refine zs_k hC dX2_finds_7 ?_
  refine zs_is hC dX2_finds_8 (by decide) rfl ?_
  refine zs_k hC dX2_finds_10 ?_
  refine zs_is hC dX2_finds_11 (by decide) rfl ?_
  exact zAW.weak (wX2_finds_13 hC hret F _ _ _ _ _ _ hf) (zLw_s (zLw_s (zLw_s (zLw_s (zLw_s (zLw_s zLw_0))))))
set_option maxRecDepth 20000 in
set_option maxHeartbeats 4000000 in
theorem ctX2_finds {E : zEV} {F : Nat} {v1 : Int32} {v2 : Int32} {μ : zMem} {out : zR} (hf : fX2_finds F v1 v2 μ = some out) : zCt E yX2_finds cX2_finds 6 (some .boolean) 42 [.ref 50, .int v1, .int v2] μ out :=
  zCt.of [some (.ref 50), some (.int v1), some (.int v2), none, none, none] (by decide +kernel) (Nat.le_of_ble_eq_true rfl) (zLw_s (zLw_s (zLw_s (zLw_e (zLw_e (zLw_e zLw_0)))))) rfl (fun X hE ho hr hC => by
    subst hE; subst ho
    exact wX2_finds hC hr hf)
/-! X9_byteAt -/
def fX9_byteAt (F : Nat) (v1 : Int32) (μ : zMem) : Option zR :=
  if v1 < 0 then some ((-1 : Int32), μ) else if (μ 1 1) ≤ v1 then some ((-1 : Int32), μ) else zG v1 260 (some ((μ 2 v1.toNatClampNeg), μ))
set_option maxRecDepth 20000 in
set_option maxHeartbeats 4000000 in
theorem wX9_byteAt {X : zX} {F : Nat} (hC : zCx X RX9 cX9_byteAt 2 0) (hret : zRt X (some .int)) {v1 : Int32} {μ : zMem} (hf : fX9_byteAt F v1 μ = some (zOut X)) : zAW X 0 [some (.ref 1), some (.int v1)] [] μ := by
  unfold fX9_byteAt at hf
  refine zs_il hC dX9_byteAt_0 rfl ?_
  refine zs_if_lt hC dX9_byteAt_1 (fun _ hf => ?_) (fun _ hf => ?_) hf
  · refine zs_k hC dX9_byteAt_21 ?_
    exact zs_iret hC hret dX9_byteAt_22 hf
  · refine zs_il hC dX9_byteAt_4 rfl ?_
    refine zs_al hC dX9_byteAt_5 rfl ?_
    refine zs_getI hC fl_RX9_15 zL1 rfl dX9_byteAt_6 ?_
    refine zs_ic_ge hC dX9_byteAt_9 (fun _ hf => ?_) (fun _ hf => ?_) hf
    · refine zs_k hC dX9_byteAt_21 ?_
      exact zs_iret hC hret dX9_byteAt_22 hf
    · refine zs_al hC dX9_byteAt_12 rfl ?_
      refine zs_getR 2 hC fl_RX9_9 zL1 rfl dX9_byteAt_13 ?_
      refine zs_il hC dX9_byteAt_16 rfl ?_
      refine zs_iald hC zL2 dX9_byteAt_17 (fun _ hf => ?_) hf
      refine zs_goto hC dX9_byteAt_18 ?_
      exact zs_iret hC hret dX9_byteAt_22 hf
set_option maxRecDepth 20000 in
set_option maxHeartbeats 4000000 in
theorem ctX9_byteAt {E : zEV} {F : Nat} {v1 : Int32} {μ : zMem} {out : zR} (hf : fX9_byteAt F v1 μ = some out) : zCt E yX9_byteAt cX9_byteAt 2 (some .int) 0 [.ref 1, .int v1] μ out :=
  zCt.of [some (.ref 1), some (.int v1)] (by decide +kernel) (Nat.le_of_ble_eq_true rfl) (zLw_s (zLw_s zLw_0)) rfl (fun X hE ho hr hC => by
    subst hE; subst ho
    exact wX9_byteAt hC hr hf)
/-! B -/
def fX3_shares_32 (F : Nat) (rcshares : Int32 → Int32 → Int32 → Int32 → zMem → Option zR) : Nat → Int32 → Int32 → Int32 → Int32 → Int32 → Int32 → zMem → Option zR
  | 0, _, _, _, _, _, _, _ => none
  | n + 1, v2, v3, v4, v5, v6, v7, μ => if v4 ≤ v7 then some ((nI 0), μ) else zG v7 3 (zG v7 3 (zLt (zUp μ 57 v7.toNatClampNeg ((μ 57 v7.toNatClampNeg) + v6)) (fun m2 => zG v7 3 (zBd (fJ9_max_7cf53 F v5 (m2 57 v7.toNatClampNeg) m2) (fun r4 m4 => zBd (rcshares (v2 + (nI 1)) v3 v4 r4 m4) (fun r5 m5 => zG v7 3 (zG v7 3 (zLt (zUp m5 57 v7.toNatClampNeg ((m5 57 v7.toNatClampNeg) - v6)) (fun m7 => fX3_shares_32 F rcshares n v2 v3 v4 v5 v6 (v7 + (nI 1)) m7)))))))))
def bX3_shares (F : Nat) (rcshares : Int32 → Int32 → Int32 → Int32 → zMem → Option zR) (v2 : Int32) (v3 : Int32) (v4 : Int32) (v5 : Int32) (μ : zMem) : Option zR :=
  if v5 < (μ 56 1) then if v2 < v3 then zBd (fX9_byteAt F v2 μ) (fun r2 m2 => fX3_shares_32 F rcshares F v2 v3 v4 v5 r2 (nI 0) m2) else zLt (zUp μ 56 1 v5) (fun m3 => some ((nI 0), m3)) else some ((nI 0), μ)
def fX3_shares (F : Nat) : Nat → Int32 → Int32 → Int32 → Int32 → zMem → Option zR
  | 0, _, _, _, _, _ => none
  | D + 1, v2, v3, v4, v5, μ => bX3_shares F (fX3_shares F D) v2 v3 v4 v5 μ
set_option maxRecDepth 20000 in
set_option maxHeartbeats 4000000 in
theorem wX3_shares_32 {X : zX} {F : Nat} {lr lv : Nat} (hC : zCx X RX3 cX3_shares 8 lv) {rcshares : Int32 → Int32 → Int32 → Int32 → zMem → Option zR} (hret : zRt X none) (hrcshares : ∀ (v2 : Int32) (v3 : Int32) (v4 : Int32) (v5 : Int32) (μ : zMem) (o : zR), rcshares v2 v3 v4 v5 μ = some o → zCt X.1 yX3_shares cX3_shares 8 none lr [.ref 56, .ref 1, .int v2, .int v3, .int v4, .int v5] μ o) (hlr : lr + 1 ≤ lv) (hlb : 1 ≤ lv) : ∀ (n : Nat) (v2 : Int32) (v3 : Int32) (v4 : Int32) (v5 : Int32) (v6 : Int32) (v7 : Int32) (μ : zMem), fX3_shares_32 F rcshares n v2 v3 v4 v5 v6 v7 μ = some (zOut X) → zAW X 32 [some (.ref 56), some (.ref 1), some (.int v2), some (.int v3), some (.int v4), some (.int v5), some (.int v6), some (.int v7)] [] μ := by
  intro n
  induction n with
  | zero =>
    intro v2 v3 v4 v5 v6 v7 μ hf
    rw [fX3_shares_32] at hf
    cases hf
  | succ n ih =>
    intro v2 v3 v4 v5 v6 v7 μ hf
    rw [fX3_shares_32] at hf
    refine zs_il hC dX3_shares_32 rfl ?_
    refine zs_il hC dX3_shares_34 rfl ?_
    refine zs_ic_ge hC dX3_shares_36 (fun _ hf => ?_) (fun _ hf => ?_) hf
    · exact zs_vret hC hret dX3_shares_92 hf
    · refine zs_al hC dX3_shares_39 rfl ?_
      refine zs_getR 57 hC fl_RX3_9 zL56 rfl dX3_shares_40 ?_
      refine zs_il hC dX3_shares_43 rfl ?_
      refine zs_dup2 hC dX3_shares_45 rfl rfl ?_
      refine zs_iald hC zL57 dX3_shares_46 (fun _ hf => ?_) hf
      refine zs_il hC dX3_shares_47 rfl ?_
      refine zs_iadd hC dX3_shares_49 ?_
      refine zs_iast hC zL57 dX3_shares_50 (fun _ hf => ?_) hf
      refine zs_let (fun m2 _ hf => ?_) hf
      refine zs_al hC dX3_shares_51 rfl ?_
      refine zs_al hC dX3_shares_52 rfl ?_
      refine zs_il hC dX3_shares_53 rfl ?_
      refine zs_k hC dX3_shares_54 ?_
      refine zs_iadd hC dX3_shares_55 ?_
      refine zs_il hC dX3_shares_56 rfl ?_
      refine zs_il hC dX3_shares_57 rfl ?_
      refine zs_il hC dX3_shares_59 rfl ?_
      refine zs_al hC dX3_shares_61 rfl ?_
      refine zs_getR 57 hC fl_RX3_9 zL56 rfl dX3_shares_62 ?_
      refine zs_il hC dX3_shares_65 rfl ?_
      refine zs_iald hC zL57 dX3_shares_67 (fun _ hf => ?_) hf
      refine zs_callS [.int v5, .int (m2 57 v7.toNatClampNeg)] hC cw_J9_max_7cf53 cl_RX3_35 (by omega) rfl rfl (Nat.le_of_ble_eq_true rfl) dX3_shares_68 (fun _ h => ctJ9_max_7cf53 h) (fun r4 m4 _ hf => ?_) hf
      show zAW X 71 _ (.int r4 :: _) m4
      refine zs_callV [.ref 1, .int (v2 + (nI 1)), .int v3, .int v4, .int r4] hC cw_X3_shares cl_RX3_25 zL56 rfl hlr rfl rfl (Nat.le_of_ble_eq_true rfl) dX3_shares_71 (fun _ h => hrcshares _ _ _ _ _ _ h) (fun r5 m5 _ hf => ?_) hf
      show zAW X 74 _ _ m5
      refine zs_al hC dX3_shares_74 rfl ?_
      refine zs_getR 57 hC fl_RX3_9 zL56 rfl dX3_shares_75 ?_
      refine zs_il hC dX3_shares_78 rfl ?_
      refine zs_dup2 hC dX3_shares_80 rfl rfl ?_
      refine zs_iald hC zL57 dX3_shares_81 (fun _ hf => ?_) hf
      refine zs_il hC dX3_shares_82 rfl ?_
      refine zs_isub hC dX3_shares_84 ?_
      refine zs_iast hC zL57 dX3_shares_85 (fun _ hf => ?_) hf
      refine zs_let (fun m7 _ hf => ?_) hf
      refine zs_iinc (nI 1) hC dX3_shares_86 (by decide) rfl (by decide) rfl ?_
      refine zs_goto hC dX3_shares_89 ?_
      exact zAW.weak (ih _ _ _ _ _ _ _ hf) (zLw_s (zLw_s (zLw_s (zLw_s (zLw_s (zLw_s (zLw_s (zLw_s zLw_0))))))))
set_option maxRecDepth 20000 in
set_option maxHeartbeats 4000000 in
theorem wX3_shares {X : zX} {F : Nat} {lr lv : Nat} (hC : zCx X RX3 cX3_shares 8 lv) {rcshares : Int32 → Int32 → Int32 → Int32 → zMem → Option zR} (hret : zRt X none) (hrcshares : ∀ (v2 : Int32) (v3 : Int32) (v4 : Int32) (v5 : Int32) (μ : zMem) (o : zR), rcshares v2 v3 v4 v5 μ = some o → zCt X.1 yX3_shares cX3_shares 8 none lr [.ref 56, .ref 1, .int v2, .int v3, .int v4, .int v5] μ o) (hlr : lr + 1 ≤ lv) (hlb : 1 ≤ lv) {v2 : Int32} {v3 : Int32} {v4 : Int32} {v5 : Int32} {μ : zMem} (hf : bX3_shares F rcshares v2 v3 v4 v5 μ = some (zOut X)) : zAW X 0 [some (.ref 56), some (.ref 1), some (.int v2), some (.int v3), some (.int v4), some (.int v5), none, none] [] μ := by
  unfold bX3_shares at hf
  refine zs_il hC dX3_shares_0 rfl ?_
  refine zs_al hC dX3_shares_2 rfl ?_
  refine zs_getI hC fl_RX3_21 zL56 rfl dX3_shares_3 ?_
  refine zs_ic_lt hC dX3_shares_6 (fun _ hf => ?_) (fun _ hf => ?_) hf
  · refine zs_il hC dX3_shares_10 rfl ?_
    refine zs_il hC dX3_shares_11 rfl ?_
    refine zs_ic_lt hC dX3_shares_12 (fun _ hf => ?_) (fun _ hf => ?_) hf
    · refine zs_al hC dX3_shares_22 rfl ?_
      refine zs_il hC dX3_shares_23 rfl ?_
      refine zs_callV [.int v2] hC cw_X9_byteAt cl_RX3_29 zL1 rfl (by omega) rfl rfl (Nat.le_of_ble_eq_true rfl) dX3_shares_24 (fun _ h => ctX9_byteAt h) (fun r2 m2 _ hf => ?_) hf
      show zAW X 27 _ (.int r2 :: _) m2
      refine zs_is hC dX3_shares_27 (by decide) rfl ?_
      refine zs_k hC dX3_shares_29 ?_
      refine zs_is hC dX3_shares_30 (by decide) rfl ?_
      exact zAW.weak (wX3_shares_32 hC hret hrcshares hlr hlb F _ _ _ _ _ _ _ hf) (zLw_s (zLw_s (zLw_s (zLw_s (zLw_s (zLw_s (zLw_s (zLw_s zLw_0))))))))
    · refine zs_al hC dX3_shares_15 rfl ?_
      refine zs_il hC dX3_shares_16 rfl ?_
      refine zs_putI hC fl_RX3_21 fp_3_1 zL56 rfl dX3_shares_18 ?_
      refine zs_let (fun m3 _ hf => ?_) hf
      exact zs_vret hC hret dX3_shares_21 hf
  · exact zs_vret hC hret dX3_shares_9 hf
set_option maxRecDepth 20000 in
set_option maxHeartbeats 4000000 in
theorem ctX3_shares_D {E : zEV} {F : Nat} : ∀ (D : Nat) (v2 : Int32) (v3 : Int32) (v4 : Int32) (v5 : Int32) (μ : zMem) (out : zR), fX3_shares F D v2 v3 v4 v5 μ = some out → zCt E yX3_shares cX3_shares 8 none (D + 1) [.ref 56, .ref 1, .int v2, .int v3, .int v4, .int v5] μ out := by
  intro D
  induction D with
  | zero =>
    intro v2 v3 v4 v5 μ out hf
    rw [fX3_shares] at hf
    cases hf
  | succ D ih =>
    intro v2 v3 v4 v5 μ out hf
    rw [fX3_shares] at hf
    exact zCt.of [some (.ref 56), some (.ref 1), some (.int v2), some (.int v3), some (.int v4), some (.int v5), none, none] (by decide +kernel) (Nat.le_of_ble_eq_true rfl) (zLw_s (zLw_s (zLw_s (zLw_s (zLw_s (zLw_s (zLw_e (zLw_e zLw_0)))))))) rfl (fun X hE ho hr hC => by
      subst hE; subst ho
      exact wX3_shares (lr := D + 1) hC hr ih (by omega) (by omega) hf)
set_option maxRecDepth 20000 in
set_option maxHeartbeats 4000000 in
theorem ctX3_shares {E : zEV} {F : Nat} {v2 : Int32} {v3 : Int32} {v4 : Int32} {v5 : Int32} {μ : zMem} {out : zR} (hf : fX3_shares F 20 v2 v3 v4 v5 μ = some out) : zCt E yX3_shares cX3_shares 8 none 21 [.ref 56, .ref 1, .int v2, .int v3, .int v4, .int v5] μ out := ctX3_shares_D _ _ _ _ _ _ _ hf
/-! X3_timeOfNuns -/
def fX3_timeOfNuns_3 (F : Nat) : Nat → Int32 → Int32 → Int32 → zMem → Option zR
  | 0, _, _, _, _ => none
  | n + 1, v2, v3, v4, μ => if (nI 3) ≤ v4 then zLt (zUp μ 56 1 ((v2 * (nI 255)) + (nI 1))) (fun m2 => zBd (fX3_shares F 20 (nI 0) v2 v3 (nI 0) m2) (fun r3 m3 => some ((m3 56 1), m3))) else zG v4 3 (zLt (zUp μ 57 v4.toNatClampNeg (nI 0)) (fun m6 => fX3_timeOfNuns_3 F n v2 v3 (v4 + (nI 1)) m6))
def fX3_timeOfNuns (F : Nat) (v2 : Int32) (v3 : Int32) (μ : zMem) : Option zR :=
  fX3_timeOfNuns_3 F F v2 v3 (nI 0) μ
set_option maxRecDepth 20000 in
set_option maxHeartbeats 4000000 in
theorem wX3_timeOfNuns_3 {X : zX} {F : Nat} (hC : zCx X RX3 cX3_timeOfNuns 5 22) (hret : zRt X (some .int)) : ∀ (n : Nat) (v2 : Int32) (v3 : Int32) (v4 : Int32) (μ : zMem), fX3_timeOfNuns_3 F n v2 v3 v4 μ = some (zOut X) → zAW X 3 [some (.ref 56), some (.ref 1), some (.int v2), some (.int v3), some (.int v4)] [] μ := by
  intro n
  induction n with
  | zero =>
    intro v2 v3 v4 μ hf
    rw [fX3_timeOfNuns_3] at hf
    cases hf
  | succ n ih =>
    intro v2 v3 v4 μ hf
    rw [fX3_timeOfNuns_3] at hf
    refine zs_il hC dX3_timeOfNuns_3 rfl ?_
    refine zs_al hC dX3_timeOfNuns_5 rfl ?_
    refine zs_getR 57 hC fl_RX3_9 zL56 rfl dX3_timeOfNuns_6 ?_
    refine zs_alen (nI 3) hC zL57 (by decide) dX3_timeOfNuns_9 ?_
    refine zs_ic_ge hC dX3_timeOfNuns_10 (fun _ hf => ?_) (fun _ hf => ?_) hf
    · refine zs_al hC dX3_timeOfNuns_27 rfl ?_
      refine zs_il hC dX3_timeOfNuns_28 rfl ?_
      refine zs_k hC dX3_timeOfNuns_29 ?_
      refine zs_imul hC dX3_timeOfNuns_32 ?_
      refine zs_k hC dX3_timeOfNuns_33 ?_
      refine zs_iadd hC dX3_timeOfNuns_34 ?_
      refine zs_putI hC fl_RX3_21 fp_3_1 zL56 rfl dX3_timeOfNuns_35 ?_
      refine zs_let (fun m2 _ hf => ?_) hf
      refine zs_al hC dX3_timeOfNuns_38 rfl ?_
      refine zs_al hC dX3_timeOfNuns_39 rfl ?_
      refine zs_k hC dX3_timeOfNuns_40 ?_
      refine zs_il hC dX3_timeOfNuns_41 rfl ?_
      refine zs_il hC dX3_timeOfNuns_42 rfl ?_
      refine zs_k hC dX3_timeOfNuns_43 ?_
      refine zs_callV [.ref 1, .int (nI 0), .int v2, .int v3, .int (nI 0)] hC cw_X3_shares cl_RX3_25 zL56 rfl (by decide) rfl rfl (Nat.le_of_ble_eq_true rfl) dX3_timeOfNuns_44 (fun _ h => ctX3_shares h) (fun r3 m3 _ hf => ?_) hf
      show zAW X 47 _ _ m3
      refine zs_al hC dX3_timeOfNuns_47 rfl ?_
      refine zs_getI hC fl_RX3_21 zL56 rfl dX3_timeOfNuns_48 ?_
      exact zs_iret hC hret dX3_timeOfNuns_51 hf
    · refine zs_al hC dX3_timeOfNuns_13 rfl ?_
      refine zs_getR 57 hC fl_RX3_9 zL56 rfl dX3_timeOfNuns_14 ?_
      refine zs_il hC dX3_timeOfNuns_17 rfl ?_
      refine zs_k hC dX3_timeOfNuns_19 ?_
      refine zs_iast hC zL57 dX3_timeOfNuns_20 (fun _ hf => ?_) hf
      refine zs_let (fun m6 _ hf => ?_) hf
      refine zs_iinc (nI 1) hC dX3_timeOfNuns_21 (by decide) rfl (by decide) rfl ?_
      refine zs_goto hC dX3_timeOfNuns_24 ?_
      exact zAW.weak (ih _ _ _ _ hf) (zLw_s (zLw_s (zLw_s (zLw_s (zLw_s zLw_0)))))
set_option maxRecDepth 20000 in
set_option maxHeartbeats 4000000 in
theorem wX3_timeOfNuns {X : zX} {F : Nat} (hC : zCx X RX3 cX3_timeOfNuns 5 22) (hret : zRt X (some .int)) {v2 : Int32} {v3 : Int32} {μ : zMem} (hf : fX3_timeOfNuns F v2 v3 μ = some (zOut X)) : zAW X 0 [some (.ref 56), some (.ref 1), some (.int v2), some (.int v3), none] [] μ := by
  unfold fX3_timeOfNuns at hf
  refine zs_k hC dX3_timeOfNuns_0 ?_
  refine zs_is hC dX3_timeOfNuns_1 (by decide) rfl ?_
  exact zAW.weak (wX3_timeOfNuns_3 hC hret F _ _ _ _ hf) (zLw_s (zLw_s (zLw_s (zLw_s (zLw_s zLw_0)))))
set_option maxRecDepth 20000 in
set_option maxHeartbeats 4000000 in
theorem ctX3_timeOfNuns {E : zEV} {F : Nat} {v2 : Int32} {v3 : Int32} {μ : zMem} {out : zR} (hf : fX3_timeOfNuns F v2 v3 μ = some out) : zCt E yX3_timeOfNuns cX3_timeOfNuns 5 (some .int) 22 [.ref 56, .ref 1, .int v2, .int v3] μ out :=
  zCt.of [some (.ref 56), some (.ref 1), some (.int v2), some (.int v3), none] (by decide +kernel) (Nat.le_of_ble_eq_true rfl) (zLw_s (zLw_s (zLw_s (zLw_s (zLw_e zLw_0))))) rfl (fun X hE ho hr hC => by
    subst hE; subst ho
    exact wX3_timeOfNuns hC hr hf)
/-! X3_added -/
def fX3_added_6 (F : Nat) : Nat → Int32 → Int32 → Int32 → Int32 → Int32 → zMem → Option zR
  | 0, _, _, _, _, _, _ => none
  | n + 1, v1, v2, v3, v4, v5, μ => if v1 ≤ v5 then some (v4, μ) else zBd (fX11_hasBit F v2 v5 μ) (fun r1 m1 => if r1 = 0 then fX3_added_6 F n v1 v2 v3 v4 (v5 + (nI 1)) m1 else zBd (fX9_byteAt F (((nI 2) * v5) + v3) m1) (fun r2 m2 => fX3_added_6 F n v1 v2 v3 (v4 + r2) (v5 + (nI 1)) m2))
def fX3_added (F : Nat) (v1 : Int32) (v2 : Int32) (v3 : Int32) (μ : zMem) : Option zR :=
  fX3_added_6 F F v1 v2 v3 (nI 0) (nI 0) μ
set_option maxRecDepth 20000 in
set_option maxHeartbeats 4000000 in
theorem wX3_added_6 {X : zX} {F : Nat} (hC : zCx X RX3 cX3_added 6 1) (hret : zRt X (some .int)) : ∀ (n : Nat) (v1 : Int32) (v2 : Int32) (v3 : Int32) (v4 : Int32) (v5 : Int32) (μ : zMem), fX3_added_6 F n v1 v2 v3 v4 v5 μ = some (zOut X) → zAW X 6 [some (.ref 1), some (.int v1), some (.int v2), some (.int v3), some (.int v4), some (.int v5)] [] μ := by
  intro n
  induction n with
  | zero =>
    intro v1 v2 v3 v4 v5 μ hf
    rw [fX3_added_6] at hf
    cases hf
  | succ n ih =>
    intro v1 v2 v3 v4 v5 μ hf
    rw [fX3_added_6] at hf
    refine zs_il hC dX3_added_6 rfl ?_
    refine zs_il hC dX3_added_8 rfl ?_
    refine zs_ic_ge hC dX3_added_9 (fun _ hf => ?_) (fun _ hf => ?_) hf
    · refine zs_il hC dX3_added_42 rfl ?_
      exact zs_iret hC hret dX3_added_44 hf
    · refine zs_il hC dX3_added_12 rfl ?_
      refine zs_il hC dX3_added_13 rfl ?_
      refine zs_callN [.int v2, .int v5] hC cw_X11_hasBit cl_RX3_53 (by decide) rfl rfl (Nat.le_of_ble_eq_true rfl) dX3_added_15 (fun _ h => ctX11_hasBit h) (fun r1 m1 _ hf => ?_) hf
      show zAW X 18 _ (.int r1 :: _) m1
      refine zs_if_eq hC dX3_added_18 (fun _ hf => ?_) (fun _ hf => ?_) hf
      · refine zs_iinc (nI 1) hC dX3_added_36 (by decide) rfl (by decide) rfl ?_
        refine zs_goto hC dX3_added_39 ?_
        exact zAW.weak (ih _ _ _ _ _ _ hf) (zLw_s (zLw_s (zLw_s (zLw_s (zLw_s (zLw_s zLw_0))))))
      · refine zs_il hC dX3_added_21 rfl ?_
        refine zs_al hC dX3_added_23 rfl ?_
        refine zs_k hC dX3_added_24 ?_
        refine zs_il hC dX3_added_25 rfl ?_
        refine zs_imul hC dX3_added_27 ?_
        refine zs_il hC dX3_added_28 rfl ?_
        refine zs_iadd hC dX3_added_29 ?_
        refine zs_callV [.int (((nI 2) * v5) + v3)] hC cw_X9_byteAt cl_RX3_29 zL1 rfl (by decide) rfl rfl (Nat.le_of_ble_eq_true rfl) dX3_added_30 (fun _ h => ctX9_byteAt h) (fun r2 m2 _ hf => ?_) hf
        show zAW X 33 _ (.int r2 :: _) m2
        refine zs_iadd hC dX3_added_33 ?_
        refine zs_is hC dX3_added_34 (by decide) rfl ?_
        refine zs_iinc (nI 1) hC dX3_added_36 (by decide) rfl (by decide) rfl ?_
        refine zs_goto hC dX3_added_39 ?_
        exact zAW.weak (ih _ _ _ _ _ _ hf) (zLw_s (zLw_s (zLw_s (zLw_s (zLw_s (zLw_s zLw_0))))))
set_option maxRecDepth 20000 in
set_option maxHeartbeats 4000000 in
theorem wX3_added {X : zX} {F : Nat} (hC : zCx X RX3 cX3_added 6 1) (hret : zRt X (some .int)) {v1 : Int32} {v2 : Int32} {v3 : Int32} {μ : zMem} (hf : fX3_added F v1 v2 v3 μ = some (zOut X)) : zAW X 0 [some (.ref 1), some (.int v1), some (.int v2), some (.int v3), none, none] [] μ := by
  unfold fX3_added at hf
  refine zs_k hC dX3_added_0 ?_
  refine zs_is hC dX3_added_1 (by decide) rfl ?_
  refine zs_k hC dX3_added_3 ?_
  refine zs_is hC dX3_added_4 (by decide) rfl ?_
  exact zAW.weak (wX3_added_6 hC hret F _ _ _ _ _ _ hf) (zLw_s (zLw_s (zLw_s (zLw_s (zLw_s (zLw_s zLw_0))))))
set_option maxRecDepth 20000 in
set_option maxHeartbeats 4000000 in
theorem ctX3_added {E : zEV} {F : Nat} {v1 : Int32} {v2 : Int32} {v3 : Int32} {μ : zMem} {out : zR} (hf : fX3_added F v1 v2 v3 μ = some out) : zCt E yX3_added cX3_added 6 (some .int) 1 [.ref 1, .int v1, .int v2, .int v3] μ out :=
  zCt.of [some (.ref 1), some (.int v1), some (.int v2), some (.int v3), none, none] (by decide +kernel) (Nat.le_of_ble_eq_true rfl) (zLw_s (zLw_s (zLw_s (zLw_s (zLw_e (zLw_e zLw_0)))))) rfl (fun X hE ho hr hC => by
    subst hE; subst ho
    exact wX3_added hC hr hf)
/-! X3_paidFor -/
def fX3_paidFor (F : Nat) (v1 : Int32) (v2 : Int32) (μ : zMem) : Option zR :=
  zBd (fX3_added F v1 v2 (nI 1) μ) (fun r1 m1 => some (r1, m1))
set_option maxRecDepth 20000 in
set_option maxHeartbeats 4000000 in
theorem wX3_paidFor {X : zX} {F : Nat} (hC : zCx X RX3 cX3_paidFor 3 2) (hret : zRt X (some .int)) {v1 : Int32} {v2 : Int32} {μ : zMem} (hf : fX3_paidFor F v1 v2 μ = some (zOut X)) : zAW X 0 [some (.ref 1), some (.int v1), some (.int v2)] [] μ := by
  unfold fX3_paidFor at hf
  refine zs_al hC dX3_paidFor_0 rfl ?_
  refine zs_il hC dX3_paidFor_1 rfl ?_
  refine zs_il hC dX3_paidFor_2 rfl ?_
  refine zs_k hC dX3_paidFor_3 ?_
  refine zs_callS [.ref 1, .int v1, .int v2, .int (nI 1)] hC cw_X3_added cl_RX3_49 (by decide) rfl rfl (Nat.le_of_ble_eq_true rfl) dX3_paidFor_4 (fun _ h => ctX3_added h) (fun r1 m1 _ hf => ?_) hf
  show zAW X 7 _ (.int r1 :: _) m1
  exact zs_iret hC hret dX3_paidFor_7 hf
set_option maxRecDepth 20000 in
set_option maxHeartbeats 4000000 in
theorem ctX3_paidFor {E : zEV} {F : Nat} {v1 : Int32} {v2 : Int32} {μ : zMem} {out : zR} (hf : fX3_paidFor F v1 v2 μ = some out) : zCt E yX3_paidFor cX3_paidFor 3 (some .int) 2 [.ref 1, .int v1, .int v2] μ out :=
  zCt.of [some (.ref 1), some (.int v1), some (.int v2)] (by decide +kernel) (Nat.le_of_ble_eq_true rfl) (zLw_s (zLw_s (zLw_s zLw_0))) rfl (fun X hE ho hr hC => by
    subst hE; subst ho
    exact wX3_paidFor hC hr hf)
/-! X3_noticesThatPayMost -/
def fX3_noticesThatPayMost_40 (F : Nat) : Nat → Int32 → Int32 → Int32 → Int32 → Int32 → zMem → Option zR
  | 0, _, _, _, _, _, _ => none
  | n + 1, v1, v2, v3, v4, v5, μ => if ((nI 1) <<< (v1 &&& 31)) ≤ v5 then some (v3, μ) else zBd (fX3_paidFor F v1 v5 μ) (fun r1 m1 => if r1 ≤ v4 then fX3_noticesThatPayMost_40 F n v1 v2 v3 v4 (v5 + (nI 1)) m1 else zBd (fX3_added F v1 v5 (nI 0) m1) (fun r2 m2 => if v2 < r2 then fX3_noticesThatPayMost_40 F n v1 v2 v3 v4 (v5 + (nI 1)) m2 else fX3_noticesThatPayMost_40 F n v1 v2 v5 r1 (v5 + (nI 1)) m2))
def fX3_noticesThatPayMost_2 (F : Nat) : Nat → Int32 → Int32 → Int32 → zMem → Option zR
  | 0, _, _, _, _ => none
  | n + 1, v1, v2, v3, μ => if v1 ≤ v3 then fX3_noticesThatPayMost_40 F F v1 v2 (nI 0) (nI 0) (nI 1) μ else zBd (fX9_byteAt F ((nI 2) * v3) μ) (fun r1 m1 => zBd (fX11_isWithin F r1 (nI 1) (nI 60) m1) (fun r2 m2 => if r2 = 0 then some ((-3 : Int32), m2) else fX3_noticesThatPayMost_2 F n v1 v2 (v3 + (nI 1)) m2))
def fX3_noticesThatPayMost (F : Nat) (v1 : Int32) (v2 : Int32) (μ : zMem) : Option zR :=
  fX3_noticesThatPayMost_2 F F v1 v2 (nI 0) μ
set_option maxRecDepth 20000 in
set_option maxHeartbeats 4000000 in
theorem wX3_noticesThatPayMost_40 {X : zX} {F : Nat} (hC : zCx X RX3 cX3_noticesThatPayMost 7 3) (hret : zRt X (some .int)) : ∀ (n : Nat) (v1 : Int32) (v2 : Int32) (v3 : Int32) (v4 : Int32) (v5 : Int32) (μ : zMem), fX3_noticesThatPayMost_40 F n v1 v2 v3 v4 v5 μ = some (zOut X) → zAW X 40 [some (.ref 1), some (.int v1), some (.int v2), some (.int v3), some (.int v4), some (.int v5), none] [] μ := by
  intro n
  induction n with
  | zero =>
    intro v1 v2 v3 v4 v5 μ hf
    rw [fX3_noticesThatPayMost_40] at hf
    cases hf
  | succ n ih =>
    intro v1 v2 v3 v4 v5 μ hf
    rw [fX3_noticesThatPayMost_40] at hf
    refine zs_il hC dX3_noticesThatPayMost_40 rfl ?_
    refine zs_k hC dX3_noticesThatPayMost_42 ?_
    refine zs_il hC dX3_noticesThatPayMost_43 rfl ?_
    refine zs_ishl hC dX3_noticesThatPayMost_44 ?_
    refine zs_ic_ge hC dX3_noticesThatPayMost_45 (fun _ hf => ?_) (fun _ hf => ?_) hf
    · refine zs_il hC dX3_noticesThatPayMost_89 rfl ?_
      exact zs_iret hC hret dX3_noticesThatPayMost_90 hf
    · refine zs_al hC dX3_noticesThatPayMost_48 rfl ?_
      refine zs_il hC dX3_noticesThatPayMost_49 rfl ?_
      refine zs_il hC dX3_noticesThatPayMost_50 rfl ?_
      refine zs_callS [.ref 1, .int v1, .int v5] hC cw_X3_paidFor cl_RX3_45 (by decide) rfl rfl (Nat.le_of_ble_eq_true rfl) dX3_noticesThatPayMost_52 (fun _ h => ctX3_paidFor h) (fun r1 m1 _ hf => ?_) hf
      show zAW X 55 _ (.int r1 :: _) m1
      refine zs_is hC dX3_noticesThatPayMost_55 (by decide) rfl ?_
      refine zs_il hC dX3_noticesThatPayMost_57 rfl ?_
      refine zs_il hC dX3_noticesThatPayMost_59 rfl ?_
      refine zs_ic_le hC dX3_noticesThatPayMost_61 (fun _ hf => ?_) (fun _ hf => ?_) hf
      · refine zs_iinc (nI 1) hC dX3_noticesThatPayMost_83 (by decide) rfl (by decide) rfl ?_
        refine zs_goto hC dX3_noticesThatPayMost_86 ?_
        exact zAW.weak (ih _ _ _ _ _ _ hf) (zLw_s (zLw_s (zLw_s (zLw_s (zLw_s (zLw_s (zLw_n zLw_0)))))))
      · refine zs_al hC dX3_noticesThatPayMost_64 rfl ?_
        refine zs_il hC dX3_noticesThatPayMost_65 rfl ?_
        refine zs_il hC dX3_noticesThatPayMost_66 rfl ?_
        refine zs_k hC dX3_noticesThatPayMost_68 ?_
        refine zs_callS [.ref 1, .int v1, .int v5, .int (nI 0)] hC cw_X3_added cl_RX3_49 (by decide) rfl rfl (Nat.le_of_ble_eq_true rfl) dX3_noticesThatPayMost_69 (fun _ h => ctX3_added h) (fun r2 m2 _ hf => ?_) hf
        show zAW X 72 _ (.int r2 :: _) m2
        refine zs_il hC dX3_noticesThatPayMost_72 rfl ?_
        refine zs_ic_gt hC dX3_noticesThatPayMost_73 (fun _ hf => ?_) (fun _ hf => ?_) hf
        · refine zs_iinc (nI 1) hC dX3_noticesThatPayMost_83 (by decide) rfl (by decide) rfl ?_
          refine zs_goto hC dX3_noticesThatPayMost_86 ?_
          exact zAW.weak (ih _ _ _ _ _ _ hf) (zLw_s (zLw_s (zLw_s (zLw_s (zLw_s (zLw_s (zLw_n zLw_0)))))))
        · refine zs_il hC dX3_noticesThatPayMost_76 rfl ?_
          refine zs_is hC dX3_noticesThatPayMost_78 (by decide) rfl ?_
          refine zs_il hC dX3_noticesThatPayMost_80 rfl ?_
          refine zs_is hC dX3_noticesThatPayMost_82 (by decide) rfl ?_
          refine zs_iinc (nI 1) hC dX3_noticesThatPayMost_83 (by decide) rfl (by decide) rfl ?_
          refine zs_goto hC dX3_noticesThatPayMost_86 ?_
          exact zAW.weak (ih _ _ _ _ _ _ hf) (zLw_s (zLw_s (zLw_s (zLw_s (zLw_s (zLw_s (zLw_n zLw_0)))))))
set_option maxRecDepth 20000 in
set_option maxHeartbeats 4000000 in
theorem wX3_noticesThatPayMost_2 {X : zX} {F : Nat} (hC : zCx X RX3 cX3_noticesThatPayMost 7 3) (hret : zRt X (some .int)) : ∀ (n : Nat) (v1 : Int32) (v2 : Int32) (v3 : Int32) (μ : zMem), fX3_noticesThatPayMost_2 F n v1 v2 v3 μ = some (zOut X) → zAW X 2 [some (.ref 1), some (.int v1), some (.int v2), some (.int v3), none, none, none] [] μ := by
  intro n
  induction n with
  | zero =>
    intro v1 v2 v3 μ hf
    rw [fX3_noticesThatPayMost_2] at hf
    cases hf
  | succ n ih =>
    intro v1 v2 v3 μ hf
    rw [fX3_noticesThatPayMost_2] at hf
    refine zs_il hC dX3_noticesThatPayMost_2 rfl ?_
    refine zs_il hC dX3_noticesThatPayMost_3 rfl ?_
    refine zs_ic_ge hC dX3_noticesThatPayMost_4 (fun _ hf => ?_) (fun _ hf => ?_) hf
    · refine zs_k hC dX3_noticesThatPayMost_32 ?_
      refine zs_is hC dX3_noticesThatPayMost_33 (by decide) rfl ?_
      refine zs_k hC dX3_noticesThatPayMost_34 ?_
      refine zs_is hC dX3_noticesThatPayMost_35 (by decide) rfl ?_
      refine zs_k hC dX3_noticesThatPayMost_37 ?_
      refine zs_is hC dX3_noticesThatPayMost_38 (by decide) rfl ?_
      exact zAW.weak (wX3_noticesThatPayMost_40 hC hret F _ _ _ _ _ _ hf) (zLw_s (zLw_s (zLw_s (zLw_s (zLw_s (zLw_s (zLw_n zLw_0)))))))
    · refine zs_al hC dX3_noticesThatPayMost_7 rfl ?_
      refine zs_k hC dX3_noticesThatPayMost_8 ?_
      refine zs_il hC dX3_noticesThatPayMost_9 rfl ?_
      refine zs_imul hC dX3_noticesThatPayMost_10 ?_
      refine zs_callV [.int ((nI 2) * v3)] hC cw_X9_byteAt cl_RX3_29 zL1 rfl (by decide) rfl rfl (Nat.le_of_ble_eq_true rfl) dX3_noticesThatPayMost_11 (fun _ h => ctX9_byteAt h) (fun r1 m1 _ hf => ?_) hf
      show zAW X 14 _ (.int r1 :: _) m1
      refine zs_k hC dX3_noticesThatPayMost_14 ?_
      refine zs_k hC dX3_noticesThatPayMost_15 ?_
      refine zs_callN [.int r1, .int (nI 1), .int (nI 60)] hC cw_X11_isWithin cl_RX3_41 (by decide) rfl rfl (Nat.le_of_ble_eq_true rfl) dX3_noticesThatPayMost_17 (fun _ h => ctX11_isWithin h) (fun r2 m2 _ hf => ?_) hf
      show zAW X 20 _ (.int r2 :: _) m2
      refine zs_if_ne hC dX3_noticesThatPayMost_20 (fun _ hf => ?_) (fun _ hf => ?_) hf
      · refine zs_k hC dX3_noticesThatPayMost_23 ?_
        exact zs_iret hC hret dX3_noticesThatPayMost_25 hf
      · refine zs_iinc (nI 1) hC dX3_noticesThatPayMost_26 (by decide) rfl (by decide) rfl ?_
        refine zs_goto hC dX3_noticesThatPayMost_29 ?_
        exact zAW.weak (ih _ _ _ _ hf) (zLw_s (zLw_s (zLw_s (zLw_s (zLw_n (zLw_n (zLw_n zLw_0)))))))
set_option maxRecDepth 20000 in
set_option maxHeartbeats 4000000 in
theorem wX3_noticesThatPayMost {X : zX} {F : Nat} (hC : zCx X RX3 cX3_noticesThatPayMost 7 3) (hret : zRt X (some .int)) {v1 : Int32} {v2 : Int32} {μ : zMem} (hf : fX3_noticesThatPayMost F v1 v2 μ = some (zOut X)) : zAW X 0 [some (.ref 1), some (.int v1), some (.int v2), none, none, none, none] [] μ := by
  unfold fX3_noticesThatPayMost at hf
  refine zs_k hC dX3_noticesThatPayMost_0 ?_
  refine zs_is hC dX3_noticesThatPayMost_1 (by decide) rfl ?_
  exact zAW.weak (wX3_noticesThatPayMost_2 hC hret F _ _ _ _ hf) (zLw_s (zLw_s (zLw_s (zLw_s (zLw_n (zLw_n (zLw_n zLw_0)))))))
set_option maxRecDepth 20000 in
set_option maxHeartbeats 4000000 in
theorem ctX3_noticesThatPayMost {E : zEV} {F : Nat} {v1 : Int32} {v2 : Int32} {μ : zMem} {out : zR} (hf : fX3_noticesThatPayMost F v1 v2 μ = some out) : zCt E yX3_noticesThatPayMost cX3_noticesThatPayMost 7 (some .int) 3 [.ref 1, .int v1, .int v2] μ out :=
  zCt.of [some (.ref 1), some (.int v1), some (.int v2), none, none, none, none] (by decide +kernel) (Nat.le_of_ble_eq_true rfl) (zLw_s (zLw_s (zLw_s (zLw_e (zLw_e (zLw_e (zLw_e zLw_0))))))) rfl (fun X hE ho hr hC => by
    subst hE; subst ho
    exact wX3_noticesThatPayMost hC hr hf)
/-! J9_abs_0f7a4 -/
def fJ9_abs_0f7a4 (F : Nat) (v0 : Int32) (μ : zMem) : Option zR :=
  if 0 ≤ v0 then some (v0, μ) else some ((-v0), μ)
set_option maxRecDepth 20000 in
set_option maxHeartbeats 4000000 in
theorem wJ9_abs_0f7a4 {X : zX} {F : Nat} (hC : zCx X RJ9 cJ9_abs_0f7a4 1 0) (hret : zRt X (some .int)) {v0 : Int32} {μ : zMem} (hf : fJ9_abs_0f7a4 F v0 μ = some (zOut X)) : zAW X 0 [some (.int v0)] [] μ := by
  unfold fJ9_abs_0f7a4 at hf
  refine zs_il hC dJ9_abs_0f7a4_0 rfl ?_
  refine zs_if_ge hC dJ9_abs_0f7a4_1 (fun _ hf => ?_) (fun _ hf => ?_) hf
  · refine zs_il hC dJ9_abs_0f7a4_9 rfl ?_
    exact zs_iret hC hret dJ9_abs_0f7a4_10 hf
  · refine zs_il hC dJ9_abs_0f7a4_4 rfl ?_
    refine zs_ineg hC dJ9_abs_0f7a4_5 ?_
    refine zs_goto hC dJ9_abs_0f7a4_6 ?_
    exact zs_iret hC hret dJ9_abs_0f7a4_10 hf
set_option maxRecDepth 20000 in
set_option maxHeartbeats 4000000 in
theorem ctJ9_abs_0f7a4 {E : zEV} {F : Nat} {v0 : Int32} {μ : zMem} {out : zR} (hf : fJ9_abs_0f7a4 F v0 μ = some out) : zCt E yJ9_abs_0f7a4 cJ9_abs_0f7a4 1 (some .int) 0 [.int v0] μ out :=
  zCt.of [some (.int v0)] (by decide +kernel) (Nat.le_of_ble_eq_true rfl) (zLw_s zLw_0) rfl (fun X hE ho hr hC => by
    subst hE; subst ho
    exact wJ9_abs_0f7a4 hC hr hf)
/-! X3_differenceOf -/
def fX3_differenceOf_5 (F : Nat) : Nat → Int32 → Int32 → Int32 → Int32 → zMem → Option zR
  | 0, _, _, _, _, _ => none
  | n + 1, v1, v2, v3, v4, μ => if (nI 4) ≤ v4 then some (v3, μ) else zBd (fX9_byteAt F (((nI 4) * v2) + v4) μ) (fun r1 m1 => zBd (fX9_byteAt F (((nI 4) * v1) + v4) m1) (fun r2 m2 => zBd (fJ9_abs_0f7a4 F (r1 - r2) m2) (fun r3 m3 => fX3_differenceOf_5 F n v1 v2 (v3 + r3) (v4 + (nI 1)) m3)))
def fX3_differenceOf (F : Nat) (v1 : Int32) (v2 : Int32) (μ : zMem) : Option zR :=
  fX3_differenceOf_5 F F v1 v2 (nI 0) (nI 0) μ
set_option maxRecDepth 20000 in
set_option maxHeartbeats 4000000 in
theorem wX3_differenceOf_5 {X : zX} {F : Nat} (hC : zCx X RX3 cX3_differenceOf 6 1) (hret : zRt X (some .int)) : ∀ (n : Nat) (v1 : Int32) (v2 : Int32) (v3 : Int32) (v4 : Int32) (μ : zMem), fX3_differenceOf_5 F n v1 v2 v3 v4 μ = some (zOut X) → zAW X 5 [some (.ref 1), some (.int v1), some (.int v2), some (.int v3), some (.int v4), none] [] μ := by
  intro n
  induction n with
  | zero =>
    intro v1 v2 v3 v4 μ hf
    rw [fX3_differenceOf_5] at hf
    cases hf
  | succ n ih =>
    intro v1 v2 v3 v4 μ hf
    rw [fX3_differenceOf_5] at hf
    refine zs_il hC dX3_differenceOf_5 rfl ?_
    refine zs_k hC dX3_differenceOf_7 ?_
    refine zs_ic_ge hC dX3_differenceOf_8 (fun _ hf => ?_) (fun _ hf => ?_) hf
    · refine zs_il hC dX3_differenceOf_48 rfl ?_
      exact zs_iret hC hret dX3_differenceOf_49 hf
    · refine zs_al hC dX3_differenceOf_11 rfl ?_
      refine zs_k hC dX3_differenceOf_12 ?_
      refine zs_il hC dX3_differenceOf_13 rfl ?_
      refine zs_imul hC dX3_differenceOf_14 ?_
      refine zs_il hC dX3_differenceOf_15 rfl ?_
      refine zs_iadd hC dX3_differenceOf_17 ?_
      refine zs_callV [.int (((nI 4) * v2) + v4)] hC cw_X9_byteAt cl_RX3_29 zL1 rfl (by decide) rfl rfl (Nat.le_of_ble_eq_true rfl) dX3_differenceOf_18 (fun _ h => ctX9_byteAt h) (fun r1 m1 _ hf => ?_) hf
      show zAW X 21 _ (.int r1 :: _) m1
      refine zs_is hC dX3_differenceOf_21 (by decide) rfl ?_
      refine zs_il hC dX3_differenceOf_23 rfl ?_
      refine zs_il hC dX3_differenceOf_24 rfl ?_
      refine zs_al hC dX3_differenceOf_26 rfl ?_
      refine zs_k hC dX3_differenceOf_27 ?_
      refine zs_il hC dX3_differenceOf_28 rfl ?_
      refine zs_imul hC dX3_differenceOf_29 ?_
      refine zs_il hC dX3_differenceOf_30 rfl ?_
      refine zs_iadd hC dX3_differenceOf_32 ?_
      refine zs_callV [.int (((nI 4) * v1) + v4)] hC cw_X9_byteAt cl_RX3_29 zL1 rfl (by decide) rfl rfl (Nat.le_of_ble_eq_true rfl) dX3_differenceOf_33 (fun _ h => ctX9_byteAt h) (fun r2 m2 _ hf => ?_) hf
      show zAW X 36 _ (.int r2 :: _) m2
      refine zs_isub hC dX3_differenceOf_36 ?_
      refine zs_callS [.int (r1 - r2)] hC cw_J9_abs_0f7a4 cl_RX3_60 (by decide) rfl rfl (Nat.le_of_ble_eq_true rfl) dX3_differenceOf_37 (fun _ h => ctJ9_abs_0f7a4 h) (fun r3 m3 _ hf => ?_) hf
      show zAW X 40 _ (.int r3 :: _) m3
      refine zs_iadd hC dX3_differenceOf_40 ?_
      refine zs_is hC dX3_differenceOf_41 (by decide) rfl ?_
      refine zs_iinc (nI 1) hC dX3_differenceOf_42 (by decide) rfl (by decide) rfl ?_
      refine zs_goto hC dX3_differenceOf_45 ?_
      exact zAW.weak (ih _ _ _ _ _ hf) (zLw_s (zLw_s (zLw_s (zLw_s (zLw_s (zLw_n zLw_0))))))
set_option maxRecDepth 20000 in
set_option maxHeartbeats 4000000 in
theorem wX3_differenceOf {X : zX} {F : Nat} (hC : zCx X RX3 cX3_differenceOf 6 1) (hret : zRt X (some .int)) {v1 : Int32} {v2 : Int32} {μ : zMem} (hf : fX3_differenceOf F v1 v2 μ = some (zOut X)) : zAW X 0 [some (.ref 1), some (.int v1), some (.int v2), none, none, none] [] μ := by
  unfold fX3_differenceOf at hf
  refine zs_k hC dX3_differenceOf_0 ?_
  refine zs_is hC dX3_differenceOf_1 (by decide) rfl ?_
  refine zs_k hC dX3_differenceOf_2 ?_
  refine zs_is hC dX3_differenceOf_3 (by decide) rfl ?_
  exact zAW.weak (wX3_differenceOf_5 hC hret F _ _ _ _ _ hf) (zLw_s (zLw_s (zLw_s (zLw_s (zLw_s (zLw_n zLw_0))))))
set_option maxRecDepth 20000 in
set_option maxHeartbeats 4000000 in
theorem ctX3_differenceOf {E : zEV} {F : Nat} {v1 : Int32} {v2 : Int32} {μ : zMem} {out : zR} (hf : fX3_differenceOf F v1 v2 μ = some out) : zCt E yX3_differenceOf cX3_differenceOf 6 (some .int) 1 [.ref 1, .int v1, .int v2] μ out :=
  zCt.of [some (.ref 1), some (.int v1), some (.int v2), none, none, none] (by decide +kernel) (Nat.le_of_ble_eq_true rfl) (zLw_s (zLw_s (zLw_s (zLw_e (zLw_e (zLw_e zLw_0)))))) rfl (fun X hE ho hr hC => by
    subst hE; subst ho
    exact wX3_differenceOf hC hr hf)
/-! X3_nearestWriter -/
def fX3_nearestWriter_4 (F : Nat) : Nat → Int32 → Int32 → Int32 → zMem → Option zR
  | 0, _, _, _, _ => none
  | n + 1, v1, v2, v3, μ => if v1 ≤ v3 then some (v2, μ) else zBd (fX3_differenceOf F v1 v3 μ) (fun r1 m1 => zBd (fX3_differenceOf F v1 v2 m1) (fun r2 m2 => if r2 ≤ r1 then fX3_nearestWriter_4 F n v1 v2 (v3 + (nI 1)) m2 else fX3_nearestWriter_4 F n v1 v3 (v3 + (nI 1)) m2))
def fX3_nearestWriter (F : Nat) (v1 : Int32) (μ : zMem) : Option zR :=
  fX3_nearestWriter_4 F F v1 (nI 0) (nI 1) μ
set_option maxRecDepth 20000 in
set_option maxHeartbeats 4000000 in
theorem wX3_nearestWriter_4 {X : zX} {F : Nat} (hC : zCx X RX3 cX3_nearestWriter 4 2) (hret : zRt X (some .int)) : ∀ (n : Nat) (v1 : Int32) (v2 : Int32) (v3 : Int32) (μ : zMem), fX3_nearestWriter_4 F n v1 v2 v3 μ = some (zOut X) → zAW X 4 [some (.ref 1), some (.int v1), some (.int v2), some (.int v3)] [] μ := by
  intro n
  induction n with
  | zero =>
    intro v1 v2 v3 μ hf
    rw [fX3_nearestWriter_4] at hf
    cases hf
  | succ n ih =>
    intro v1 v2 v3 μ hf
    rw [fX3_nearestWriter_4] at hf
    refine zs_il hC dX3_nearestWriter_4 rfl ?_
    refine zs_il hC dX3_nearestWriter_5 rfl ?_
    refine zs_ic_ge hC dX3_nearestWriter_6 (fun _ hf => ?_) (fun _ hf => ?_) hf
    · refine zs_il hC dX3_nearestWriter_32 rfl ?_
      exact zs_iret hC hret dX3_nearestWriter_33 hf
    · refine zs_al hC dX3_nearestWriter_9 rfl ?_
      refine zs_il hC dX3_nearestWriter_10 rfl ?_
      refine zs_il hC dX3_nearestWriter_11 rfl ?_
      refine zs_callS [.ref 1, .int v1, .int v3] hC cw_X3_differenceOf cl_RX3_57 (by decide) rfl rfl (Nat.le_of_ble_eq_true rfl) dX3_nearestWriter_12 (fun _ h => ctX3_differenceOf h) (fun r1 m1 _ hf => ?_) hf
      show zAW X 15 _ (.int r1 :: _) m1
      refine zs_al hC dX3_nearestWriter_15 rfl ?_
      refine zs_il hC dX3_nearestWriter_16 rfl ?_
      refine zs_il hC dX3_nearestWriter_17 rfl ?_
      refine zs_callS [.ref 1, .int v1, .int v2] hC cw_X3_differenceOf cl_RX3_57 (by decide) rfl rfl (Nat.le_of_ble_eq_true rfl) dX3_nearestWriter_18 (fun _ h => ctX3_differenceOf h) (fun r2 m2 _ hf => ?_) hf
      show zAW X 21 _ (.int r2 :: _) m2
      refine zs_ic_ge hC dX3_nearestWriter_21 (fun _ hf => ?_) (fun _ hf => ?_) hf
      · refine zs_iinc (nI 1) hC dX3_nearestWriter_26 (by decide) rfl (by decide) rfl ?_
        refine zs_goto hC dX3_nearestWriter_29 ?_
        exact zAW.weak (ih _ _ _ _ hf) (zLw_s (zLw_s (zLw_s (zLw_s zLw_0))))
      · refine zs_il hC dX3_nearestWriter_24 rfl ?_
        refine zs_is hC dX3_nearestWriter_25 (by decide) rfl ?_
        refine zs_iinc (nI 1) hC dX3_nearestWriter_26 (by decide) rfl (by decide) rfl ?_
        refine zs_goto hC dX3_nearestWriter_29 ?_
        exact zAW.weak (ih _ _ _ _ hf) (zLw_s (zLw_s (zLw_s (zLw_s zLw_0))))
set_option maxRecDepth 20000 in
set_option maxHeartbeats 4000000 in
theorem wX3_nearestWriter {X : zX} {F : Nat} (hC : zCx X RX3 cX3_nearestWriter 4 2) (hret : zRt X (some .int)) {v1 : Int32} {μ : zMem} (hf : fX3_nearestWriter F v1 μ = some (zOut X)) : zAW X 0 [some (.ref 1), some (.int v1), none, none] [] μ := by
  unfold fX3_nearestWriter at hf
  refine zs_k hC dX3_nearestWriter_0 ?_
  refine zs_is hC dX3_nearestWriter_1 (by decide) rfl ?_
  refine zs_k hC dX3_nearestWriter_2 ?_
  refine zs_is hC dX3_nearestWriter_3 (by decide) rfl ?_
  exact zAW.weak (wX3_nearestWriter_4 hC hret F _ _ _ _ hf) (zLw_s (zLw_s (zLw_s (zLw_s zLw_0))))
set_option maxRecDepth 20000 in
set_option maxHeartbeats 4000000 in
theorem ctX3_nearestWriter {E : zEV} {F : Nat} {v1 : Int32} {μ : zMem} {out : zR} (hf : fX3_nearestWriter F v1 μ = some out) : zCt E yX3_nearestWriter cX3_nearestWriter 4 (some .int) 2 [.ref 1, .int v1] μ out :=
  zCt.of [some (.ref 1), some (.int v1), none, none] (by decide +kernel) (Nat.le_of_ble_eq_true rfl) (zLw_s (zLw_s (zLw_e (zLw_e zLw_0)))) rfl (fun X hE ho hr hC => by
    subst hE; subst ho
    exact wX3_nearestWriter hC hr hf)
/-! X3_lettersApartAt -/
def fX3_lettersApartAt_135 (F : Nat) (v5 : Int32) (v6 : Int32) (v9 : Int32) (s0 : Int32) (μ : zMem) : Option zR :=
  if s0 = 0 then some (v9, μ) else zG ((v6 - ((nI 2) * v5)) - (nI 2)) 169 (zBd (fJ9_min_7cf53 F v9 ((nI 1) + (μ 59 ((v6 - ((nI 2) * v5)) - (nI 2)).toNatClampNeg)) μ) (fun r2 m2 => some (r2, m2)))
def fX3_lettersApartAt_134 (F : Nat) (v5 : Int32) (v6 : Int32) (v9 : Int32) (μ : zMem) : Option zR :=
  fX3_lettersApartAt_135 F v5 v6 v9 (nI 0) μ
def fX3_lettersApartAt_58 (F : Nat) (v2 : Int32) (v3 : Int32) (v4 : Int32) (v5 : Int32) (v6 : Int32) (v7 : Int32) (v8 : Int32) (s0 : Int32) (s1 : Int32) (μ : zMem) : Option zR :=
  zG (v6 - v5) 169 (zG (v6 - (nI 1)) 169 (zBd (fJ9_min_7cf53 F (μ 59 (v6 - v5).toNatClampNeg) (μ 59 (v6 - (nI 1)).toNatClampNeg) μ) (fun r3 m3 => zBd (fJ9_min_7cf53 F (s1 + s0) ((nI 1) + r3) m3) (fun r4 m4 => if v3 ≤ (nI 1) then fX3_lettersApartAt_134 F v5 v6 r4 m4 else if v4 ≤ (nI 1) then fX3_lettersApartAt_134 F v5 v6 r4 m4 else zBd (fX9_byteAt F ((v2 + v4) - (nI 2)) m4) (fun r5 m5 => if v7 = r5 then zBd (fX9_byteAt F (v3 - (nI 2)) m5) (fun r6 m6 => if r6 = v8 then fX3_lettersApartAt_135 F v5 v6 r4 (nI 1) m6 else fX3_lettersApartAt_134 F v5 v6 r4 m6) else fX3_lettersApartAt_134 F v5 v6 r4 m5)))))
def fX3_lettersApartAt (F : Nat) (v2 : Int32) (v3 : Int32) (v4 : Int32) (μ : zMem) : Option zR :=
  zBd (fX9_byteAt F (v3 - (nI 1)) μ) (fun r1 m1 => zBd (fX9_byteAt F ((v2 + v4) - (nI 1)) m1) (fun r2 m2 => zG ((((v3 * (nI 13)) + v4) - (nI 13)) - (nI 1)) 169 (if r1 = r2 then fX3_lettersApartAt_58 F v2 v3 v4 (nI 13) ((v3 * (nI 13)) + v4) r1 r2 (nI 0) (m2 59 ((((v3 * (nI 13)) + v4) - (nI 13)) - (nI 1)).toNatClampNeg) m2 else fX3_lettersApartAt_58 F v2 v3 v4 (nI 13) ((v3 * (nI 13)) + v4) r1 r2 (nI 1) (m2 59 ((((v3 * (nI 13)) + v4) - (nI 13)) - (nI 1)).toNatClampNeg) m2)))
set_option maxRecDepth 20000 in
set_option maxHeartbeats 4000000 in
theorem wX3_lettersApartAt_135 {X : zX} {F : Nat} (hC : zCx X RX3 cX3_lettersApartAt 11 1) (hret : zRt X (some .int)) {v5 : Int32} {v6 : Int32} {v9 : Int32} {s0 : Int32} {μ : zMem} (hf : fX3_lettersApartAt_135 F v5 v6 v9 s0 μ = some (zOut X)) : zAW X 135 [some (.ref 56), none, none, none, none, some (.int v5), some (.int v6), none, none, some (.int v9), none] [.int s0] μ := by
  unfold fX3_lettersApartAt_135 at hf
  refine zs_is hC dX3_lettersApartAt_135 (by decide) rfl ?_
  refine zs_il hC dX3_lettersApartAt_137 rfl ?_
  refine zs_if_eq hC dX3_lettersApartAt_139 (fun _ hf => ?_) (fun _ hf => ?_) hf
  · refine zs_il hC dX3_lettersApartAt_166 rfl ?_
    exact zs_iret hC hret dX3_lettersApartAt_168 hf
  · refine zs_il hC dX3_lettersApartAt_142 rfl ?_
    refine zs_k hC dX3_lettersApartAt_144 ?_
    refine zs_al hC dX3_lettersApartAt_145 rfl ?_
    refine zs_getR 59 hC fl_RX3_18 zL56 rfl dX3_lettersApartAt_146 ?_
    refine zs_il hC dX3_lettersApartAt_149 rfl ?_
    refine zs_k hC dX3_lettersApartAt_151 ?_
    refine zs_il hC dX3_lettersApartAt_152 rfl ?_
    refine zs_imul hC dX3_lettersApartAt_154 ?_
    refine zs_isub hC dX3_lettersApartAt_155 ?_
    refine zs_k hC dX3_lettersApartAt_156 ?_
    refine zs_isub hC dX3_lettersApartAt_157 ?_
    refine zs_iald hC zL59 dX3_lettersApartAt_158 (fun _ hf => ?_) hf
    refine zs_iadd hC dX3_lettersApartAt_159 ?_
    refine zs_callS [.int v9, .int ((nI 1) + (μ 59 ((v6 - ((nI 2) * v5)) - (nI 2)).toNatClampNeg))] hC cw_J9_min_7cf53 cl_RX3_66 (by decide) rfl rfl (Nat.le_of_ble_eq_true rfl) dX3_lettersApartAt_160 (fun _ h => ctJ9_min_7cf53 h) (fun r2 m2 _ hf => ?_) hf
    show zAW X 163 _ (.int r2 :: _) m2
    refine zs_goto hC dX3_lettersApartAt_163 ?_
    exact zs_iret hC hret dX3_lettersApartAt_168 hf
set_option maxRecDepth 20000 in
set_option maxHeartbeats 4000000 in
theorem wX3_lettersApartAt_134 {X : zX} {F : Nat} (hC : zCx X RX3 cX3_lettersApartAt 11 1) (hret : zRt X (some .int)) {v5 : Int32} {v6 : Int32} {v9 : Int32} {μ : zMem} (hf : fX3_lettersApartAt_134 F v5 v6 v9 μ = some (zOut X)) : zAW X 134 [some (.ref 56), none, none, none, none, some (.int v5), some (.int v6), none, none, some (.int v9), none] [] μ := by
  unfold fX3_lettersApartAt_134 at hf
  refine zs_k hC dX3_lettersApartAt_134 ?_
  exact zAW.weak (wX3_lettersApartAt_135 hC hret hf) (zLw_s (zLw_n (zLw_n (zLw_n (zLw_n (zLw_s (zLw_s (zLw_n (zLw_n (zLw_s (zLw_n zLw_0)))))))))))
set_option maxRecDepth 20000 in
set_option maxHeartbeats 4000000 in
theorem wX3_lettersApartAt_58 {X : zX} {F : Nat} (hC : zCx X RX3 cX3_lettersApartAt 11 1) (hret : zRt X (some .int)) {v2 : Int32} {v3 : Int32} {v4 : Int32} {v5 : Int32} {v6 : Int32} {v7 : Int32} {v8 : Int32} {s0 : Int32} {s1 : Int32} {μ : zMem} (hf : fX3_lettersApartAt_58 F v2 v3 v4 v5 v6 v7 v8 s0 s1 μ = some (zOut X)) : zAW X 58 [some (.ref 56), some (.ref 1), some (.int v2), some (.int v3), some (.int v4), some (.int v5), some (.int v6), some (.int v7), some (.int v8), none, none] [.int s0, .int s1] μ := by
  unfold fX3_lettersApartAt_58 at hf
  refine zs_iadd hC dX3_lettersApartAt_58 ?_
  refine zs_is hC dX3_lettersApartAt_59 (by decide) rfl ?_
  refine zs_il hC dX3_lettersApartAt_61 rfl ?_
  refine zs_k hC dX3_lettersApartAt_63 ?_
  refine zs_al hC dX3_lettersApartAt_64 rfl ?_
  refine zs_getR 59 hC fl_RX3_18 zL56 rfl dX3_lettersApartAt_65 ?_
  refine zs_il hC dX3_lettersApartAt_68 rfl ?_
  refine zs_il hC dX3_lettersApartAt_70 rfl ?_
  refine zs_isub hC dX3_lettersApartAt_72 ?_
  refine zs_iald hC zL59 dX3_lettersApartAt_73 (fun _ hf => ?_) hf
  refine zs_al hC dX3_lettersApartAt_74 rfl ?_
  refine zs_getR 59 hC fl_RX3_18 zL56 rfl dX3_lettersApartAt_75 ?_
  refine zs_il hC dX3_lettersApartAt_78 rfl ?_
  refine zs_k hC dX3_lettersApartAt_80 ?_
  refine zs_isub hC dX3_lettersApartAt_81 ?_
  refine zs_iald hC zL59 dX3_lettersApartAt_82 (fun _ hf => ?_) hf
  refine zs_callS [.int (μ 59 (v6 - v5).toNatClampNeg), .int (μ 59 (v6 - (nI 1)).toNatClampNeg)] hC cw_J9_min_7cf53 cl_RX3_66 (by decide) rfl rfl (Nat.le_of_ble_eq_true rfl) dX3_lettersApartAt_83 (fun _ h => ctJ9_min_7cf53 h) (fun r3 m3 _ hf => ?_) hf
  show zAW X 86 _ (.int r3 :: _) m3
  refine zs_iadd hC dX3_lettersApartAt_86 ?_
  refine zs_callS [.int (s1 + s0), .int ((nI 1) + r3)] hC cw_J9_min_7cf53 cl_RX3_66 (by decide) rfl rfl (Nat.le_of_ble_eq_true rfl) dX3_lettersApartAt_87 (fun _ h => ctJ9_min_7cf53 h) (fun r4 m4 _ hf => ?_) hf
  show zAW X 90 _ (.int r4 :: _) m4
  refine zs_is hC dX3_lettersApartAt_90 (by decide) rfl ?_
  refine zs_il hC dX3_lettersApartAt_92 rfl ?_
  refine zs_k hC dX3_lettersApartAt_93 ?_
  refine zs_ic_le hC dX3_lettersApartAt_94 (fun _ hf => ?_) (fun _ hf => ?_) hf
  · exact zAW.weak (wX3_lettersApartAt_134 hC hret hf) (zLw_s (zLw_n (zLw_n (zLw_n (zLw_n (zLw_s (zLw_s (zLw_n (zLw_n (zLw_s (zLw_n zLw_0)))))))))))
  · refine zs_il hC dX3_lettersApartAt_97 rfl ?_
    refine zs_k hC dX3_lettersApartAt_99 ?_
    refine zs_ic_le hC dX3_lettersApartAt_100 (fun _ hf => ?_) (fun _ hf => ?_) hf
    · exact zAW.weak (wX3_lettersApartAt_134 hC hret hf) (zLw_s (zLw_n (zLw_n (zLw_n (zLw_n (zLw_s (zLw_s (zLw_n (zLw_n (zLw_s (zLw_n zLw_0)))))))))))
    · refine zs_il hC dX3_lettersApartAt_103 rfl ?_
      refine zs_al hC dX3_lettersApartAt_105 rfl ?_
      refine zs_il hC dX3_lettersApartAt_106 rfl ?_
      refine zs_il hC dX3_lettersApartAt_107 rfl ?_
      refine zs_iadd hC dX3_lettersApartAt_109 ?_
      refine zs_k hC dX3_lettersApartAt_110 ?_
      refine zs_isub hC dX3_lettersApartAt_111 ?_
      refine zs_callV [.int ((v2 + v4) - (nI 2))] hC cw_X9_byteAt cl_RX3_29 zL1 rfl (by decide) rfl rfl (Nat.le_of_ble_eq_true rfl) dX3_lettersApartAt_112 (fun _ h => ctX9_byteAt h) (fun r5 m5 _ hf => ?_) hf
      show zAW X 115 _ (.int r5 :: _) m5
      refine zs_ic_ne hC dX3_lettersApartAt_115 (fun _ hf => ?_) (fun _ hf => ?_) hf
      · refine zs_al hC dX3_lettersApartAt_118 rfl ?_
        refine zs_il hC dX3_lettersApartAt_119 rfl ?_
        refine zs_k hC dX3_lettersApartAt_120 ?_
        refine zs_isub hC dX3_lettersApartAt_121 ?_
        refine zs_callV [.int (v3 - (nI 2))] hC cw_X9_byteAt cl_RX3_29 zL1 rfl (by decide) rfl rfl (Nat.le_of_ble_eq_true rfl) dX3_lettersApartAt_122 (fun _ h => ctX9_byteAt h) (fun r6 m6 _ hf => ?_) hf
        show zAW X 125 _ (.int r6 :: _) m6
        refine zs_il hC dX3_lettersApartAt_125 rfl ?_
        refine zs_ic_ne hC dX3_lettersApartAt_127 (fun _ hf => ?_) (fun _ hf => ?_) hf
        · refine zs_k hC dX3_lettersApartAt_130 ?_
          refine zs_goto hC dX3_lettersApartAt_131 ?_
          exact zAW.weak (wX3_lettersApartAt_135 hC hret hf) (zLw_s (zLw_n (zLw_n (zLw_n (zLw_n (zLw_s (zLw_s (zLw_n (zLw_n (zLw_s (zLw_n zLw_0)))))))))))
        · exact zAW.weak (wX3_lettersApartAt_134 hC hret hf) (zLw_s (zLw_n (zLw_n (zLw_n (zLw_n (zLw_s (zLw_s (zLw_n (zLw_n (zLw_s (zLw_n zLw_0)))))))))))
      · exact zAW.weak (wX3_lettersApartAt_134 hC hret hf) (zLw_s (zLw_n (zLw_n (zLw_n (zLw_n (zLw_s (zLw_s (zLw_n (zLw_n (zLw_s (zLw_n zLw_0)))))))))))
set_option maxRecDepth 20000 in
set_option maxHeartbeats 4000000 in
theorem wX3_lettersApartAt {X : zX} {F : Nat} (hC : zCx X RX3 cX3_lettersApartAt 11 1) (hret : zRt X (some .int)) {v2 : Int32} {v3 : Int32} {v4 : Int32} {μ : zMem} (hf : fX3_lettersApartAt F v2 v3 v4 μ = some (zOut X)) : zAW X 0 [some (.ref 56), some (.ref 1), some (.int v2), some (.int v3), some (.int v4), none, none, none, none, none, none] [] μ := by
  unfold fX3_lettersApartAt at hf
  refine zs_k hC dX3_lettersApartAt_0 ?_
  refine zs_is hC dX3_lettersApartAt_2 (by decide) rfl ?_
  refine zs_il hC dX3_lettersApartAt_4 rfl ?_
  refine zs_il hC dX3_lettersApartAt_5 rfl ?_
  refine zs_imul hC dX3_lettersApartAt_7 ?_
  refine zs_il hC dX3_lettersApartAt_8 rfl ?_
  refine zs_iadd hC dX3_lettersApartAt_10 ?_
  refine zs_is hC dX3_lettersApartAt_11 (by decide) rfl ?_
  refine zs_al hC dX3_lettersApartAt_13 rfl ?_
  refine zs_il hC dX3_lettersApartAt_14 rfl ?_
  refine zs_k hC dX3_lettersApartAt_15 ?_
  refine zs_isub hC dX3_lettersApartAt_16 ?_
  refine zs_callV [.int (v3 - (nI 1))] hC cw_X9_byteAt cl_RX3_29 zL1 rfl (by decide) rfl rfl (Nat.le_of_ble_eq_true rfl) dX3_lettersApartAt_17 (fun _ h => ctX9_byteAt h) (fun r1 m1 _ hf => ?_) hf
  show zAW X 20 _ (.int r1 :: _) m1
  refine zs_is hC dX3_lettersApartAt_20 (by decide) rfl ?_
  refine zs_al hC dX3_lettersApartAt_22 rfl ?_
  refine zs_il hC dX3_lettersApartAt_23 rfl ?_
  refine zs_il hC dX3_lettersApartAt_24 rfl ?_
  refine zs_iadd hC dX3_lettersApartAt_26 ?_
  refine zs_k hC dX3_lettersApartAt_27 ?_
  refine zs_isub hC dX3_lettersApartAt_28 ?_
  refine zs_callV [.int ((v2 + v4) - (nI 1))] hC cw_X9_byteAt cl_RX3_29 zL1 rfl (by decide) rfl rfl (Nat.le_of_ble_eq_true rfl) dX3_lettersApartAt_29 (fun _ h => ctX9_byteAt h) (fun r2 m2 _ hf => ?_) hf
  show zAW X 32 _ (.int r2 :: _) m2
  refine zs_is hC dX3_lettersApartAt_32 (by decide) rfl ?_
  refine zs_al hC dX3_lettersApartAt_34 rfl ?_
  refine zs_getR 59 hC fl_RX3_18 zL56 rfl dX3_lettersApartAt_35 ?_
  refine zs_il hC dX3_lettersApartAt_38 rfl ?_
  refine zs_il hC dX3_lettersApartAt_40 rfl ?_
  refine zs_isub hC dX3_lettersApartAt_42 ?_
  refine zs_k hC dX3_lettersApartAt_43 ?_
  refine zs_isub hC dX3_lettersApartAt_44 ?_
  refine zs_iald hC zL59 dX3_lettersApartAt_45 (fun _ hf => ?_) hf
  refine zs_il hC dX3_lettersApartAt_46 rfl ?_
  refine zs_il hC dX3_lettersApartAt_48 rfl ?_
  refine zs_ic_ne hC dX3_lettersApartAt_50 (fun _ hf => ?_) (fun _ hf => ?_) hf
  · refine zs_k hC dX3_lettersApartAt_53 ?_
    refine zs_goto hC dX3_lettersApartAt_54 ?_
    exact zAW.weak (wX3_lettersApartAt_58 hC hret hf) (zLw_s (zLw_s (zLw_s (zLw_s (zLw_s (zLw_s (zLw_s (zLw_s (zLw_s (zLw_n (zLw_n zLw_0)))))))))))
  · refine zs_k hC dX3_lettersApartAt_57 ?_
    exact zAW.weak (wX3_lettersApartAt_58 hC hret hf) (zLw_s (zLw_s (zLw_s (zLw_s (zLw_s (zLw_s (zLw_s (zLw_s (zLw_s (zLw_n (zLw_n zLw_0)))))))))))
set_option maxRecDepth 20000 in
set_option maxHeartbeats 4000000 in
theorem ctX3_lettersApartAt {E : zEV} {F : Nat} {v2 : Int32} {v3 : Int32} {v4 : Int32} {μ : zMem} {out : zR} (hf : fX3_lettersApartAt F v2 v3 v4 μ = some out) : zCt E yX3_lettersApartAt cX3_lettersApartAt 11 (some .int) 1 [.ref 56, .ref 1, .int v2, .int v3, .int v4] μ out :=
  zCt.of [some (.ref 56), some (.ref 1), some (.int v2), some (.int v3), some (.int v4), none, none, none, none, none, none] (by decide +kernel) (Nat.le_of_ble_eq_true rfl) (zLw_s (zLw_s (zLw_s (zLw_s (zLw_s (zLw_e (zLw_e (zLw_e (zLw_e (zLw_e (zLw_e zLw_0))))))))))) rfl (fun X hE ho hr hC => by
    subst hE; subst ho
    exact wX3_lettersApartAt hC hr hf)
/-! X3_lettersApart -/
def fX3_lettersApart_16 (F : Nat) (k7 : Int32 → Int32 → Int32 → Int32 → zMem → Option zR) : Nat → Int32 → Int32 → Int32 → Int32 → Int32 → zMem → Option zR
  | 0, _, _, _, _, _, _ => none
  | n + 1, v2, v3, v4, v5, v6, μ => if v3 < v6 then k7 v2 v3 v4 (v5 + (nI 1)) μ else if v5 = 0 then zG ((v5 * v4) + v6) 169 (zLt (zUp μ 59 ((v5 * v4) + v6).toNatClampNeg (v5 + v6)) (fun m2 => fX3_lettersApart_16 F k7 n v2 v3 v4 v5 (v6 + (nI 1)) m2)) else if v6 = 0 then zG ((v5 * v4) + v6) 169 (zLt (zUp μ 59 ((v5 * v4) + v6).toNatClampNeg (v5 + v6)) (fun m3 => fX3_lettersApart_16 F k7 n v2 v3 v4 v5 (v6 + (nI 1)) m3)) else zBd (fX3_lettersApartAt F v2 v5 v6 μ) (fun r4 m4 => zG ((v5 * v4) + v6) 169 (zLt (zUp m4 59 ((v5 * v4) + v6).toNatClampNeg r4) (fun m5 => fX3_lettersApart_16 F k7 n v2 v3 v4 v5 (v6 + (nI 1)) m5)))
def fX3_lettersApart_7 (F : Nat) : Nat → Int32 → Int32 → Int32 → Int32 → zMem → Option zR
  | 0, _, _, _, _, _ => none
  | n + 1, v2, v3, v4, v5, μ => if v2 < v5 then zG ((v2 * v4) + v3) 169 (some ((μ 59 ((v2 * v4) + v3).toNatClampNeg), μ)) else fX3_lettersApart_16 F (fX3_lettersApart_7 F n) F v2 v3 v4 v5 (nI 0) μ
def fX3_lettersApart (F : Nat) (v2 : Int32) (v3 : Int32) (μ : zMem) : Option zR :=
  fX3_lettersApart_7 F F v2 v3 (nI 13) (nI 0) μ
set_option maxRecDepth 20000 in
set_option maxHeartbeats 4000000 in
theorem wX3_lettersApart_16 {X : zX} {F : Nat} (hC : zCx X RX3 cX3_lettersApart 7 2) (hret : zRt X (some .int)) {k7 : Int32 → Int32 → Int32 → Int32 → zMem → Option zR} (hk7 : ∀ v2 v3 v4 v5 μ, k7 v2 v3 v4 v5 μ = some (zOut X) → zAW X 7 [some (.ref 56), some (.ref 1), some (.int v2), some (.int v3), some (.int v4), some (.int v5), none] [] μ) : ∀ (n : Nat) (v2 : Int32) (v3 : Int32) (v4 : Int32) (v5 : Int32) (v6 : Int32) (μ : zMem), fX3_lettersApart_16 F k7 n v2 v3 v4 v5 v6 μ = some (zOut X) → zAW X 16 [some (.ref 56), some (.ref 1), some (.int v2), some (.int v3), some (.int v4), some (.int v5), some (.int v6)] [] μ := by
  intro n
  induction n with
  | zero =>
    intro v2 v3 v4 v5 v6 μ hf
    rw [fX3_lettersApart_16] at hf
    cases hf
  | succ n ih =>
    intro v2 v3 v4 v5 v6 μ hf
    rw [fX3_lettersApart_16] at hf
    refine zs_il hC dX3_lettersApart_16 rfl ?_
    refine zs_il hC dX3_lettersApart_18 rfl ?_
    refine zs_ic_gt hC dX3_lettersApart_19 (fun _ hf => ?_) (fun _ hf => ?_) hf
    · refine zs_iinc (nI 1) hC dX3_lettersApart_69 (by decide) rfl (by decide) rfl ?_
      refine zs_goto hC dX3_lettersApart_72 ?_
      exact zAW.weak (hk7 _ _ _ _ _ hf) (zLw_s (zLw_s (zLw_s (zLw_s (zLw_s (zLw_s (zLw_n zLw_0)))))))
    · refine zs_al hC dX3_lettersApart_22 rfl ?_
      refine zs_getR 59 hC fl_RX3_18 zL56 rfl dX3_lettersApart_23 ?_
      refine zs_il hC dX3_lettersApart_26 rfl ?_
      refine zs_il hC dX3_lettersApart_28 rfl ?_
      refine zs_imul hC dX3_lettersApart_30 ?_
      refine zs_il hC dX3_lettersApart_31 rfl ?_
      refine zs_iadd hC dX3_lettersApart_33 ?_
      refine zs_il hC dX3_lettersApart_34 rfl ?_
      refine zs_if_eq hC dX3_lettersApart_36 (fun _ hf => ?_) (fun _ hf => ?_) hf
      · refine zs_il hC dX3_lettersApart_44 rfl ?_
        refine zs_il hC dX3_lettersApart_46 rfl ?_
        refine zs_iadd hC dX3_lettersApart_48 ?_
        refine zs_goto hC dX3_lettersApart_49 ?_
        refine zs_iast hC zL59 dX3_lettersApart_62 (fun _ hf => ?_) hf
        refine zs_let (fun m2 _ hf => ?_) hf
        refine zs_iinc (nI 1) hC dX3_lettersApart_63 (by decide) rfl (by decide) rfl ?_
        refine zs_goto hC dX3_lettersApart_66 ?_
        exact zAW.weak (ih _ _ _ _ _ _ hf) (zLw_s (zLw_s (zLw_s (zLw_s (zLw_s (zLw_s (zLw_s zLw_0)))))))
      · refine zs_il hC dX3_lettersApart_39 rfl ?_
        refine zs_if_ne hC dX3_lettersApart_41 (fun _ hf => ?_) (fun _ hf => ?_) hf
        · refine zs_il hC dX3_lettersApart_44 rfl ?_
          refine zs_il hC dX3_lettersApart_46 rfl ?_
          refine zs_iadd hC dX3_lettersApart_48 ?_
          refine zs_goto hC dX3_lettersApart_49 ?_
          refine zs_iast hC zL59 dX3_lettersApart_62 (fun _ hf => ?_) hf
          refine zs_let (fun m3 _ hf => ?_) hf
          refine zs_iinc (nI 1) hC dX3_lettersApart_63 (by decide) rfl (by decide) rfl ?_
          refine zs_goto hC dX3_lettersApart_66 ?_
          exact zAW.weak (ih _ _ _ _ _ _ hf) (zLw_s (zLw_s (zLw_s (zLw_s (zLw_s (zLw_s (zLw_s zLw_0)))))))
        · refine zs_al hC dX3_lettersApart_52 rfl ?_
          refine zs_al hC dX3_lettersApart_53 rfl ?_
          refine zs_il hC dX3_lettersApart_54 rfl ?_
          refine zs_il hC dX3_lettersApart_55 rfl ?_
          refine zs_il hC dX3_lettersApart_57 rfl ?_
          refine zs_callV [.ref 1, .int v2, .int v5, .int v6] hC cw_X3_lettersApartAt cl_RX3_63 zL56 rfl (by decide) rfl rfl (Nat.le_of_ble_eq_true rfl) dX3_lettersApart_59 (fun _ h => ctX3_lettersApartAt h) (fun r4 m4 _ hf => ?_) hf
          show zAW X 62 _ (.int r4 :: _) m4
          refine zs_iast hC zL59 dX3_lettersApart_62 (fun _ hf => ?_) hf
          refine zs_let (fun m5 _ hf => ?_) hf
          refine zs_iinc (nI 1) hC dX3_lettersApart_63 (by decide) rfl (by decide) rfl ?_
          refine zs_goto hC dX3_lettersApart_66 ?_
          exact zAW.weak (ih _ _ _ _ _ _ hf) (zLw_s (zLw_s (zLw_s (zLw_s (zLw_s (zLw_s (zLw_s zLw_0)))))))
set_option maxRecDepth 20000 in
set_option maxHeartbeats 4000000 in
theorem wX3_lettersApart_7 {X : zX} {F : Nat} (hC : zCx X RX3 cX3_lettersApart 7 2) (hret : zRt X (some .int)) : ∀ (n : Nat) (v2 : Int32) (v3 : Int32) (v4 : Int32) (v5 : Int32) (μ : zMem), fX3_lettersApart_7 F n v2 v3 v4 v5 μ = some (zOut X) → zAW X 7 [some (.ref 56), some (.ref 1), some (.int v2), some (.int v3), some (.int v4), some (.int v5), none] [] μ := by
  intro n
  induction n with
  | zero =>
    intro v2 v3 v4 v5 μ hf
    rw [fX3_lettersApart_7] at hf
    cases hf
  | succ n ih =>
    intro v2 v3 v4 v5 μ hf
    rw [fX3_lettersApart_7] at hf
    refine zs_il hC dX3_lettersApart_7 rfl ?_
    refine zs_il hC dX3_lettersApart_9 rfl ?_
    refine zs_ic_gt hC dX3_lettersApart_10 (fun _ hf => ?_) (fun _ hf => ?_) hf
    · refine zs_al hC dX3_lettersApart_75 rfl ?_
      refine zs_getR 59 hC fl_RX3_18 zL56 rfl dX3_lettersApart_76 ?_
      refine zs_il hC dX3_lettersApart_79 rfl ?_
      refine zs_il hC dX3_lettersApart_80 rfl ?_
      refine zs_imul hC dX3_lettersApart_82 ?_
      refine zs_il hC dX3_lettersApart_83 rfl ?_
      refine zs_iadd hC dX3_lettersApart_84 ?_
      refine zs_iald hC zL59 dX3_lettersApart_85 (fun _ hf => ?_) hf
      exact zs_iret hC hret dX3_lettersApart_86 hf
    · refine zs_k hC dX3_lettersApart_13 ?_
      refine zs_is hC dX3_lettersApart_14 (by decide) rfl ?_
      exact zAW.weak (wX3_lettersApart_16 hC hret (ih) F _ _ _ _ _ _ hf) (zLw_s (zLw_s (zLw_s (zLw_s (zLw_s (zLw_s (zLw_s zLw_0)))))))
set_option maxRecDepth 20000 in
set_option maxHeartbeats 4000000 in
theorem wX3_lettersApart {X : zX} {F : Nat} (hC : zCx X RX3 cX3_lettersApart 7 2) (hret : zRt X (some .int)) {v2 : Int32} {v3 : Int32} {μ : zMem} (hf : fX3_lettersApart F v2 v3 μ = some (zOut X)) : zAW X 0 [some (.ref 56), some (.ref 1), some (.int v2), some (.int v3), none, none, none] [] μ := by
  unfold fX3_lettersApart at hf
  refine zs_k hC dX3_lettersApart_0 ?_
  refine zs_is hC dX3_lettersApart_2 (by decide) rfl ?_
  refine zs_k hC dX3_lettersApart_4 ?_
  refine zs_is hC dX3_lettersApart_5 (by decide) rfl ?_
  exact zAW.weak (wX3_lettersApart_7 hC hret F _ _ _ _ _ hf) (zLw_s (zLw_s (zLw_s (zLw_s (zLw_s (zLw_s (zLw_n zLw_0)))))))
set_option maxRecDepth 20000 in
set_option maxHeartbeats 4000000 in
theorem ctX3_lettersApart {E : zEV} {F : Nat} {v2 : Int32} {v3 : Int32} {μ : zMem} {out : zR} (hf : fX3_lettersApart F v2 v3 μ = some out) : zCt E yX3_lettersApart cX3_lettersApart 7 (some .int) 2 [.ref 56, .ref 1, .int v2, .int v3] μ out :=
  zCt.of [some (.ref 56), some (.ref 1), some (.int v2), some (.int v3), none, none, none] (by decide +kernel) (Nat.le_of_ble_eq_true rfl) (zLw_s (zLw_s (zLw_s (zLw_s (zLw_e (zLw_e (zLw_e zLw_0))))))) rfl (fun X hE ho hr hC => by
    subst hE; subst ho
    exact wX3_lettersApart hC hr hf)
/-! X3_dutyOn -/
def fX3_dutyOn_8 (F : Nat) : Nat → Int32 → Int32 → Int32 → Int32 → Int32 → zMem → Option zR
  | 0, _, _, _, _, _, _ => none
  | n + 1, v1, v2, v3, v4, v5, μ => if v1 ≤ v5 then some (v4, μ) else zBd (fX9_byteAt F ((nI 2) * v5) μ) (fun r1 m1 => if v3 < ((nI 10) * r1) then zBd (fJ9_min_7cf53 F v2 ((nI 10) * r1) m1) (fun r2 m2 => zBd (fJ9_max_7cf53 F (nI 0) (r2 - v3) m2) (fun r3 m3 => zBd (fX9_byteAt F (((nI 2) * v5) + (nI 1)) m3) (fun r4 m4 => fX3_dutyOn_8 F n v1 v2 ((nI 10) * r1) (v4 + (r3 * r4)) (v5 + (nI 1)) m4))) else some ((-3 : Int32), m1))
def fX3_dutyOn (F : Nat) (v1 : Int32) (v2 : Int32) (μ : zMem) : Option zR :=
  fX3_dutyOn_8 F F v1 v2 (nI 0) (nI 0) (nI 0) μ
set_option maxRecDepth 20000 in
set_option maxHeartbeats 4000000 in
theorem wX3_dutyOn_8 {X : zX} {F : Nat} (hC : zCx X RX3 cX3_dutyOn 7 1) (hret : zRt X (some .int)) : ∀ (n : Nat) (v1 : Int32) (v2 : Int32) (v3 : Int32) (v4 : Int32) (v5 : Int32) (μ : zMem), fX3_dutyOn_8 F n v1 v2 v3 v4 v5 μ = some (zOut X) → zAW X 8 [some (.ref 1), some (.int v1), some (.int v2), some (.int v3), some (.int v4), some (.int v5), none] [] μ := by
  intro n
  induction n with
  | zero =>
    intro v1 v2 v3 v4 v5 μ hf
    rw [fX3_dutyOn_8] at hf
    cases hf
  | succ n ih =>
    intro v1 v2 v3 v4 v5 μ hf
    rw [fX3_dutyOn_8] at hf
    refine zs_il hC dX3_dutyOn_8 rfl ?_
    refine zs_il hC dX3_dutyOn_10 rfl ?_
    refine zs_ic_ge hC dX3_dutyOn_11 (fun _ hf => ?_) (fun _ hf => ?_) hf
    · refine zs_il hC dX3_dutyOn_73 rfl ?_
      exact zs_iret hC hret dX3_dutyOn_75 hf
    · refine zs_k hC dX3_dutyOn_14 ?_
      refine zs_al hC dX3_dutyOn_16 rfl ?_
      refine zs_k hC dX3_dutyOn_17 ?_
      refine zs_il hC dX3_dutyOn_18 rfl ?_
      refine zs_imul hC dX3_dutyOn_20 ?_
      refine zs_callV [.int ((nI 2) * v5)] hC cw_X9_byteAt cl_RX3_29 zL1 rfl (by decide) rfl rfl (Nat.le_of_ble_eq_true rfl) dX3_dutyOn_21 (fun _ h => ctX9_byteAt h) (fun r1 m1 _ hf => ?_) hf
      show zAW X 24 _ (.int r1 :: _) m1
      refine zs_imul hC dX3_dutyOn_24 ?_
      refine zs_is hC dX3_dutyOn_25 (by decide) rfl ?_
      refine zs_il hC dX3_dutyOn_27 rfl ?_
      refine zs_il hC dX3_dutyOn_29 rfl ?_
      refine zs_ic_gt hC dX3_dutyOn_30 (fun _ hf => ?_) (fun _ hf => ?_) hf
      · refine zs_il hC dX3_dutyOn_36 rfl ?_
        refine zs_k hC dX3_dutyOn_38 ?_
        refine zs_il hC dX3_dutyOn_39 rfl ?_
        refine zs_il hC dX3_dutyOn_40 rfl ?_
        refine zs_callS [.int v2, .int ((nI 10) * r1)] hC cw_J9_min_7cf53 cl_RX3_66 (by decide) rfl rfl (Nat.le_of_ble_eq_true rfl) dX3_dutyOn_42 (fun _ h => ctJ9_min_7cf53 h) (fun r2 m2 _ hf => ?_) hf
        show zAW X 45 _ (.int r2 :: _) m2
        refine zs_il hC dX3_dutyOn_45 rfl ?_
        refine zs_isub hC dX3_dutyOn_46 ?_
        refine zs_callS [.int (nI 0), .int (r2 - v3)] hC cw_J9_max_7cf53 cl_RX3_35 (by decide) rfl rfl (Nat.le_of_ble_eq_true rfl) dX3_dutyOn_47 (fun _ h => ctJ9_max_7cf53 h) (fun r3 m3 _ hf => ?_) hf
        show zAW X 50 _ (.int r3 :: _) m3
        refine zs_al hC dX3_dutyOn_50 rfl ?_
        refine zs_k hC dX3_dutyOn_51 ?_
        refine zs_il hC dX3_dutyOn_52 rfl ?_
        refine zs_imul hC dX3_dutyOn_54 ?_
        refine zs_k hC dX3_dutyOn_55 ?_
        refine zs_iadd hC dX3_dutyOn_56 ?_
        refine zs_callV [.int (((nI 2) * v5) + (nI 1))] hC cw_X9_byteAt cl_RX3_29 zL1 rfl (by decide) rfl rfl (Nat.le_of_ble_eq_true rfl) dX3_dutyOn_57 (fun _ h => ctX9_byteAt h) (fun r4 m4 _ hf => ?_) hf
        show zAW X 60 _ (.int r4 :: _) m4
        refine zs_imul hC dX3_dutyOn_60 ?_
        refine zs_iadd hC dX3_dutyOn_61 ?_
        refine zs_is hC dX3_dutyOn_62 (by decide) rfl ?_
        refine zs_il hC dX3_dutyOn_64 rfl ?_
        refine zs_is hC dX3_dutyOn_66 (by decide) rfl ?_
        refine zs_iinc (nI 1) hC dX3_dutyOn_67 (by decide) rfl (by decide) rfl ?_
        refine zs_goto hC dX3_dutyOn_70 ?_
        exact zAW.weak (ih _ _ _ _ _ _ hf) (zLw_s (zLw_s (zLw_s (zLw_s (zLw_s (zLw_s (zLw_n zLw_0)))))))
      · refine zs_k hC dX3_dutyOn_33 ?_
        exact zs_iret hC hret dX3_dutyOn_35 hf
set_option maxRecDepth 20000 in
set_option maxHeartbeats 4000000 in
theorem wX3_dutyOn {X : zX} {F : Nat} (hC : zCx X RX3 cX3_dutyOn 7 1) (hret : zRt X (some .int)) {v1 : Int32} {v2 : Int32} {μ : zMem} (hf : fX3_dutyOn F v1 v2 μ = some (zOut X)) : zAW X 0 [some (.ref 1), some (.int v1), some (.int v2), none, none, none, none] [] μ := by
  unfold fX3_dutyOn at hf
  refine zs_k hC dX3_dutyOn_0 ?_
  refine zs_is hC dX3_dutyOn_1 (by decide) rfl ?_
  refine zs_k hC dX3_dutyOn_2 ?_
  refine zs_is hC dX3_dutyOn_3 (by decide) rfl ?_
  refine zs_k hC dX3_dutyOn_5 ?_
  refine zs_is hC dX3_dutyOn_6 (by decide) rfl ?_
  exact zAW.weak (wX3_dutyOn_8 hC hret F _ _ _ _ _ _ hf) (zLw_s (zLw_s (zLw_s (zLw_s (zLw_s (zLw_s (zLw_n zLw_0)))))))
set_option maxRecDepth 20000 in
set_option maxHeartbeats 4000000 in
theorem ctX3_dutyOn {E : zEV} {F : Nat} {v1 : Int32} {v2 : Int32} {μ : zMem} {out : zR} (hf : fX3_dutyOn F v1 v2 μ = some out) : zCt E yX3_dutyOn cX3_dutyOn 7 (some .int) 1 [.ref 1, .int v1, .int v2] μ out :=
  zCt.of [some (.ref 1), some (.int v1), some (.int v2), none, none, none, none] (by decide +kernel) (Nat.le_of_ble_eq_true rfl) (zLw_s (zLw_s (zLw_s (zLw_e (zLw_e (zLw_e (zLw_e zLw_0))))))) rfl (fun X hE ho hr hC => by
    subst hE; subst ho
    exact wX3_dutyOn hC hr hf)
/-! X3_lastToGetIt -/
def fX3_lastToGetIt_12 (F : Nat) : Nat → Int32 → Int32 → Int32 → zMem → Option zR
  | 0, _, _, _, _ => none
  | n + 1, v2, v3, v4, μ => if v2 ≤ v4 then some (v3, μ) else zBd (fX9_byteAt F ((nI 2) * v4) μ) (fun r1 m1 => zBd (fX9_byteAt F (((nI 2) * v4) + (nI 1)) m1) (fun r2 m2 => zBd (fX11_isWithin F r1 (nI 0) (v4 - (nI 1)) m2) (fun r3 m3 => if r3 = 0 then some ((-2 : Int32), m3) else zBd (fX11_isWithin F r2 (nI 0) (nI 15) m3) (fun r4 m4 => if r4 = 0 then some ((-2 : Int32), m4) else zG r1 16 (zG v4 16 (zLt (zUp m4 58 v4.toNatClampNeg ((m4 58 r1.toNatClampNeg) + r2)) (fun m7 => zG v4 16 (zG v3 16 (if (m7 58 v4.toNatClampNeg) ≤ (m7 58 v3.toNatClampNeg) then fX3_lastToGetIt_12 F n v2 v3 (v4 + (nI 1)) m7 else fX3_lastToGetIt_12 F n v2 v4 (v4 + (nI 1)) m7)))))))))
def fX3_lastToGetIt (F : Nat) (v2 : Int32) (μ : zMem) : Option zR :=
  zG (nI 0) 16 (zLt (zUp μ 58 (nI 0).toNatClampNeg (nI 0)) (fun m2 => fX3_lastToGetIt_12 F F v2 (nI 0) (nI 1) m2))
set_option maxRecDepth 20000 in
set_option maxHeartbeats 4000000 in
theorem wX3_lastToGetIt_12 {X : zX} {F : Nat} (hC : zCx X RX3 cX3_lastToGetIt 7 1) (hret : zRt X (some .int)) : ∀ (n : Nat) (v2 : Int32) (v3 : Int32) (v4 : Int32) (μ : zMem), fX3_lastToGetIt_12 F n v2 v3 v4 μ = some (zOut X) → zAW X 12 [some (.ref 56), some (.ref 1), some (.int v2), some (.int v3), some (.int v4), none, none] [] μ := by
  intro n
  induction n with
  | zero =>
    intro v2 v3 v4 μ hf
    rw [fX3_lastToGetIt_12] at hf
    cases hf
  | succ n ih =>
    intro v2 v3 v4 μ hf
    rw [fX3_lastToGetIt_12] at hf
    refine zs_il hC dX3_lastToGetIt_12 rfl ?_
    refine zs_il hC dX3_lastToGetIt_14 rfl ?_
    refine zs_ic_ge hC dX3_lastToGetIt_15 (fun _ hf => ?_) (fun _ hf => ?_) hf
    · refine zs_il hC dX3_lastToGetIt_109 rfl ?_
      exact zs_iret hC hret dX3_lastToGetIt_110 hf
    · refine zs_al hC dX3_lastToGetIt_18 rfl ?_
      refine zs_k hC dX3_lastToGetIt_19 ?_
      refine zs_il hC dX3_lastToGetIt_20 rfl ?_
      refine zs_imul hC dX3_lastToGetIt_22 ?_
      refine zs_callV [.int ((nI 2) * v4)] hC cw_X9_byteAt cl_RX3_29 zL1 rfl (by decide) rfl rfl (Nat.le_of_ble_eq_true rfl) dX3_lastToGetIt_23 (fun _ h => ctX9_byteAt h) (fun r1 m1 _ hf => ?_) hf
      show zAW X 26 _ (.int r1 :: _) m1
      refine zs_is hC dX3_lastToGetIt_26 (by decide) rfl ?_
      refine zs_al hC dX3_lastToGetIt_28 rfl ?_
      refine zs_k hC dX3_lastToGetIt_29 ?_
      refine zs_il hC dX3_lastToGetIt_30 rfl ?_
      refine zs_imul hC dX3_lastToGetIt_32 ?_
      refine zs_k hC dX3_lastToGetIt_33 ?_
      refine zs_iadd hC dX3_lastToGetIt_34 ?_
      refine zs_callV [.int (((nI 2) * v4) + (nI 1))] hC cw_X9_byteAt cl_RX3_29 zL1 rfl (by decide) rfl rfl (Nat.le_of_ble_eq_true rfl) dX3_lastToGetIt_35 (fun _ h => ctX9_byteAt h) (fun r2 m2 _ hf => ?_) hf
      show zAW X 38 _ (.int r2 :: _) m2
      refine zs_is hC dX3_lastToGetIt_38 (by decide) rfl ?_
      refine zs_il hC dX3_lastToGetIt_40 rfl ?_
      refine zs_k hC dX3_lastToGetIt_42 ?_
      refine zs_il hC dX3_lastToGetIt_43 rfl ?_
      refine zs_k hC dX3_lastToGetIt_45 ?_
      refine zs_isub hC dX3_lastToGetIt_46 ?_
      refine zs_callN [.int r1, .int (nI 0), .int (v4 - (nI 1))] hC cw_X11_isWithin cl_RX3_41 (by decide) rfl rfl (Nat.le_of_ble_eq_true rfl) dX3_lastToGetIt_47 (fun _ h => ctX11_isWithin h) (fun r3 m3 _ hf => ?_) hf
      show zAW X 50 _ (.int r3 :: _) m3
      refine zs_if_eq hC dX3_lastToGetIt_50 (fun _ hf => ?_) (fun _ hf => ?_) hf
      · refine zs_k hC dX3_lastToGetIt_64 ?_
        exact zs_iret hC hret dX3_lastToGetIt_66 hf
      · refine zs_il hC dX3_lastToGetIt_53 rfl ?_
        refine zs_k hC dX3_lastToGetIt_55 ?_
        refine zs_k hC dX3_lastToGetIt_56 ?_
        refine zs_callN [.int r2, .int (nI 0), .int (nI 15)] hC cw_X11_isWithin cl_RX3_41 (by decide) rfl rfl (Nat.le_of_ble_eq_true rfl) dX3_lastToGetIt_58 (fun _ h => ctX11_isWithin h) (fun r4 m4 _ hf => ?_) hf
        show zAW X 61 _ (.int r4 :: _) m4
        refine zs_if_ne hC dX3_lastToGetIt_61 (fun _ hf => ?_) (fun _ hf => ?_) hf
        · refine zs_k hC dX3_lastToGetIt_64 ?_
          exact zs_iret hC hret dX3_lastToGetIt_66 hf
        · refine zs_al hC dX3_lastToGetIt_67 rfl ?_
          refine zs_getR 58 hC fl_RX3_15 zL56 rfl dX3_lastToGetIt_68 ?_
          refine zs_il hC dX3_lastToGetIt_71 rfl ?_
          refine zs_al hC dX3_lastToGetIt_73 rfl ?_
          refine zs_getR 58 hC fl_RX3_15 zL56 rfl dX3_lastToGetIt_74 ?_
          refine zs_il hC dX3_lastToGetIt_77 rfl ?_
          refine zs_iald hC zL58 dX3_lastToGetIt_79 (fun _ hf => ?_) hf
          refine zs_il hC dX3_lastToGetIt_80 rfl ?_
          refine zs_iadd hC dX3_lastToGetIt_82 ?_
          refine zs_iast hC zL58 dX3_lastToGetIt_83 (fun _ hf => ?_) hf
          refine zs_let (fun m7 _ hf => ?_) hf
          refine zs_al hC dX3_lastToGetIt_84 rfl ?_
          refine zs_getR 58 hC fl_RX3_15 zL56 rfl dX3_lastToGetIt_85 ?_
          refine zs_il hC dX3_lastToGetIt_88 rfl ?_
          refine zs_iald hC zL58 dX3_lastToGetIt_90 (fun _ hf => ?_) hf
          refine zs_al hC dX3_lastToGetIt_91 rfl ?_
          refine zs_getR 58 hC fl_RX3_15 zL56 rfl dX3_lastToGetIt_92 ?_
          refine zs_il hC dX3_lastToGetIt_95 rfl ?_
          refine zs_iald hC zL58 dX3_lastToGetIt_96 (fun _ hf => ?_) hf
          refine zs_ic_le hC dX3_lastToGetIt_97 (fun _ hf => ?_) (fun _ hf => ?_) hf
          · refine zs_iinc (nI 1) hC dX3_lastToGetIt_103 (by decide) rfl (by decide) rfl ?_
            refine zs_goto hC dX3_lastToGetIt_106 ?_
            exact zAW.weak (ih _ _ _ _ hf) (zLw_s (zLw_s (zLw_s (zLw_s (zLw_s (zLw_n (zLw_n zLw_0)))))))
          · refine zs_il hC dX3_lastToGetIt_100 rfl ?_
            refine zs_is hC dX3_lastToGetIt_102 (by decide) rfl ?_
            refine zs_iinc (nI 1) hC dX3_lastToGetIt_103 (by decide) rfl (by decide) rfl ?_
            refine zs_goto hC dX3_lastToGetIt_106 ?_
            exact zAW.weak (ih _ _ _ _ hf) (zLw_s (zLw_s (zLw_s (zLw_s (zLw_s (zLw_n (zLw_n zLw_0)))))))
set_option maxRecDepth 20000 in
set_option maxHeartbeats 4000000 in
theorem wX3_lastToGetIt {X : zX} {F : Nat} (hC : zCx X RX3 cX3_lastToGetIt 7 1) (hret : zRt X (some .int)) {v2 : Int32} {μ : zMem} (hf : fX3_lastToGetIt F v2 μ = some (zOut X)) : zAW X 0 [some (.ref 56), some (.ref 1), some (.int v2), none, none, none, none] [] μ := by
  unfold fX3_lastToGetIt at hf
  refine zs_al hC dX3_lastToGetIt_0 rfl ?_
  refine zs_getR 58 hC fl_RX3_15 zL56 rfl dX3_lastToGetIt_1 ?_
  refine zs_k hC dX3_lastToGetIt_4 ?_
  refine zs_k hC dX3_lastToGetIt_5 ?_
  refine zs_iast hC zL58 dX3_lastToGetIt_6 (fun _ hf => ?_) hf
  refine zs_let (fun m2 _ hf => ?_) hf
  refine zs_k hC dX3_lastToGetIt_7 ?_
  refine zs_is hC dX3_lastToGetIt_8 (by decide) rfl ?_
  refine zs_k hC dX3_lastToGetIt_9 ?_
  refine zs_is hC dX3_lastToGetIt_10 (by decide) rfl ?_
  exact zAW.weak (wX3_lastToGetIt_12 hC hret F _ _ _ _ hf) (zLw_s (zLw_s (zLw_s (zLw_s (zLw_s (zLw_n (zLw_n zLw_0)))))))
set_option maxRecDepth 20000 in
set_option maxHeartbeats 4000000 in
theorem ctX3_lastToGetIt {E : zEV} {F : Nat} {v2 : Int32} {μ : zMem} {out : zR} (hf : fX3_lastToGetIt F v2 μ = some out) : zCt E yX3_lastToGetIt cX3_lastToGetIt 7 (some .int) 1 [.ref 56, .ref 1, .int v2] μ out :=
  zCt.of [some (.ref 56), some (.ref 1), some (.int v2), none, none, none, none] (by decide +kernel) (Nat.le_of_ble_eq_true rfl) (zLw_s (zLw_s (zLw_s (zLw_e (zLw_e (zLw_e (zLw_e zLw_0))))))) rfl (fun X hE ho hr hC => by
    subst hE; subst ho
    exact wX3_lastToGetIt hC hr hf)
/-! X11_isPerson -/
def fX11_isPerson (F : Nat) (v0 : Int32) (μ : zMem) : Option zR :=
  zBd (fX11_isWithin F v0 (nI 0) (nI 15) μ) (fun r1 m1 => zGb (decide (r1 = 0 ∨ r1 = 1)) (some (r1, m1)))
set_option maxRecDepth 20000 in
set_option maxHeartbeats 4000000 in
theorem wX11_isPerson {X : zX} {F : Nat} (hC : zCx X RX11 cX11_isPerson 1 1) (hret : zRt X (some .boolean)) {v0 : Int32} {μ : zMem} (hf : fX11_isPerson F v0 μ = some (zOut X)) : zAW X 0 [some (.int v0)] [] μ := by
  unfold fX11_isPerson at hf
  refine zs_il hC dX11_isPerson_0 rfl ?_
  refine zs_k hC dX11_isPerson_1 ?_
  refine zs_k hC dX11_isPerson_2 ?_
  refine zs_callS [.int v0, .int (nI 0), .int (nI 15)] hC cw_X11_isWithin cl_RX11_97 (by decide) rfl rfl (Nat.le_of_ble_eq_true rfl) dX11_isPerson_4 (fun _ h => ctX11_isWithin h) (fun r1 m1 _ hf => ?_) hf
  show zAW X 7 _ (.int r1 :: _) m1
  exact zs_zret hC hret dX11_isPerson_7 hf
set_option maxRecDepth 20000 in
set_option maxHeartbeats 4000000 in
theorem ctX11_isPerson {E : zEV} {F : Nat} {v0 : Int32} {μ : zMem} {out : zR} (hf : fX11_isPerson F v0 μ = some out) : zCt E yX11_isPerson cX11_isPerson 1 (some .boolean) 1 [.int v0] μ out :=
  zCt.of [some (.int v0)] (by decide +kernel) (Nat.le_of_ble_eq_true rfl) (zLw_s zLw_0) rfl (fun X hE ho hr hC => by
    subst hE; subst ho
    exact wX11_isPerson hC hr hf)
/-! X4_readsWho -/
def fX4_readsWho (F : Nat) (v2 : Int32) (μ : zMem) : Option zR :=
  zBd (fX9_sign F μ) (fun r1 m1 => zBd (fX11_isPerson F (r1 - (nI 97)) m1) (fun r2 m2 => if r2 = 0 then zBd (fX9_fails F (nI 1) m2) (fun r3 m3 => zGb (decide (r3 = 0 ∨ r3 = 1)) (some (r3, m3))) else if (m2 36 3) < (nI 20) then zBd (fX11_hasBit F v2 (r1 - (nI 97)) m2) (fun r5 m5 => if r5 = 0 then zBd (fX9_fails F (nI 7) m5) (fun r6 m6 => zGb (decide (r6 = 0 ∨ r6 = 1)) (some (r6, m6))) else zLt (zUp m5 1 2 ((m5 1 2) + (nI 1))) (fun m8 => zG (m8 36 3) 20 (zLt (zUp m8 37 (m8 36 3).toNatClampNeg (r1 - (nI 97))) (fun m11 => some ((nI 1), m11))))) else zBd (fX9_fails F (nI 4) m2) (fun r12 m12 => zGb (decide (r12 = 0 ∨ r12 = 1)) (some (r12, m12)))))
set_option maxRecDepth 20000 in
set_option maxHeartbeats 4000000 in
theorem wX4_readsWho {X : zX} {F : Nat} (hC : zCx X RX4 cX4_readsWho 4 2) (hret : zRt X (some .boolean)) {v2 : Int32} {μ : zMem} (hf : fX4_readsWho F v2 μ = some (zOut X)) : zAW X 0 [some (.ref 36), some (.ref 1), some (.int v2), none] [] μ := by
  unfold fX4_readsWho at hf
  refine zs_al hC dX4_readsWho_0 rfl ?_
  refine zs_callV [] hC cw_X9_sign cl_RX4_42 zL1 rfl (by decide) rfl rfl (Nat.le_of_ble_eq_true rfl) dX4_readsWho_1 (fun _ h => ctX9_sign h) (fun r1 m1 _ hf => ?_) hf
  show zAW X 4 _ (.int r1 :: _) m1
  refine zs_k hC dX4_readsWho_4 ?_
  refine zs_isub hC dX4_readsWho_6 ?_
  refine zs_is hC dX4_readsWho_7 (by decide) rfl ?_
  refine zs_il hC dX4_readsWho_8 rfl ?_
  refine zs_callN [.int (r1 - (nI 97))] hC cw_X11_isPerson cl_RX4_46 (by decide) rfl rfl (Nat.le_of_ble_eq_true rfl) dX4_readsWho_9 (fun _ h => ctX11_isPerson h) (fun r2 m2 _ hf => ?_) hf
  show zAW X 12 _ (.int r2 :: _) m2
  refine zs_if_ne hC dX4_readsWho_12 (fun _ hf => ?_) (fun _ hf => ?_) hf
  · refine zs_al hC dX4_readsWho_15 rfl ?_
    refine zs_k hC dX4_readsWho_16 ?_
    refine zs_callV [.int (nI 1)] hC cw_X9_fails cl_RX4_49 zL1 rfl (by decide) rfl rfl (Nat.le_of_ble_eq_true rfl) dX4_readsWho_17 (fun _ h => ctX9_fails h) (fun r3 m3 _ hf => ?_) hf
    show zAW X 20 _ (.int r3 :: _) m3
    exact zs_zret hC hret dX4_readsWho_20 hf
  · refine zs_al hC dX4_readsWho_21 rfl ?_
    refine zs_getI hC fl_RX4_21 zL36 rfl dX4_readsWho_22 ?_
    refine zs_k hC dX4_readsWho_25 ?_
    refine zs_ic_lt hC dX4_readsWho_27 (fun _ hf => ?_) (fun _ hf => ?_) hf
    · refine zs_il hC dX4_readsWho_36 rfl ?_
      refine zs_il hC dX4_readsWho_37 rfl ?_
      refine zs_callN [.int v2, .int (r1 - (nI 97))] hC cw_X11_hasBit cl_RX4_52 (by decide) rfl rfl (Nat.le_of_ble_eq_true rfl) dX4_readsWho_38 (fun _ h => ctX11_hasBit h) (fun r5 m5 _ hf => ?_) hf
      show zAW X 41 _ (.int r5 :: _) m5
      refine zs_if_ne hC dX4_readsWho_41 (fun _ hf => ?_) (fun _ hf => ?_) hf
      · refine zs_al hC dX4_readsWho_44 rfl ?_
        refine zs_k hC dX4_readsWho_45 ?_
        refine zs_callV [.int (nI 7)] hC cw_X9_fails cl_RX4_49 zL1 rfl (by decide) rfl rfl (Nat.le_of_ble_eq_true rfl) dX4_readsWho_47 (fun _ h => ctX9_fails h) (fun r6 m6 _ hf => ?_) hf
        show zAW X 50 _ (.int r6 :: _) m6
        exact zs_zret hC hret dX4_readsWho_50 hf
      · refine zs_al hC dX4_readsWho_51 rfl ?_
        refine zs_dup hC dX4_readsWho_52 rfl ?_
        refine zs_getI hC fl_RX4_56 zL1 rfl dX4_readsWho_53 ?_
        refine zs_k hC dX4_readsWho_56 ?_
        refine zs_iadd hC dX4_readsWho_57 ?_
        refine zs_putI hC fl_RX4_56 fp_9_2 zL1 rfl dX4_readsWho_58 ?_
        refine zs_let (fun m8 _ hf => ?_) hf
        refine zs_al hC dX4_readsWho_61 rfl ?_
        refine zs_getR 37 hC fl_RX4_11 zL36 rfl dX4_readsWho_62 ?_
        refine zs_al hC dX4_readsWho_65 rfl ?_
        refine zs_getI hC fl_RX4_21 zL36 rfl dX4_readsWho_66 ?_
        refine zs_il hC dX4_readsWho_69 rfl ?_
        refine zs_iast hC zL37 dX4_readsWho_70 (fun _ hf => ?_) hf
        refine zs_let (fun m11 _ hf => ?_) hf
        refine zs_k hC dX4_readsWho_71 ?_
        exact zs_zretK hC hret dX4_readsWho_72 (by decide) hf
    · refine zs_al hC dX4_readsWho_30 rfl ?_
      refine zs_k hC dX4_readsWho_31 ?_
      refine zs_callV [.int (nI 4)] hC cw_X9_fails cl_RX4_49 zL1 rfl (by decide) rfl rfl (Nat.le_of_ble_eq_true rfl) dX4_readsWho_32 (fun _ h => ctX9_fails h) (fun r12 m12 _ hf => ?_) hf
      show zAW X 35 _ (.int r12 :: _) m12
      exact zs_zret hC hret dX4_readsWho_35 hf
set_option maxRecDepth 20000 in
set_option maxHeartbeats 4000000 in
theorem ctX4_readsWho {E : zEV} {F : Nat} {v2 : Int32} {μ : zMem} {out : zR} (hf : fX4_readsWho F v2 μ = some out) : zCt E yX4_readsWho cX4_readsWho 4 (some .boolean) 2 [.ref 36, .ref 1, .int v2] μ out :=
  zCt.of [some (.ref 36), some (.ref 1), some (.int v2), none] (by decide +kernel) (Nat.le_of_ble_eq_true rfl) (zLw_s (zLw_s (zLw_s (zLw_e zLw_0)))) rfl (fun X hE ho hr hC => by
    subst hE; subst ho
    exact wX4_readsWho hC hr hf)
/-! X11_isSecret -/
def fX11_isSecret (F : Nat) (v0 : Int32) (μ : zMem) : Option zR :=
  zBd (fX11_isWithin F v0 (nI 0) (nI 15) μ) (fun r1 m1 => zGb (decide (r1 = 0 ∨ r1 = 1)) (some (r1, m1)))
set_option maxRecDepth 20000 in
set_option maxHeartbeats 4000000 in
theorem wX11_isSecret {X : zX} {F : Nat} (hC : zCx X RX11 cX11_isSecret 1 1) (hret : zRt X (some .boolean)) {v0 : Int32} {μ : zMem} (hf : fX11_isSecret F v0 μ = some (zOut X)) : zAW X 0 [some (.int v0)] [] μ := by
  unfold fX11_isSecret at hf
  refine zs_il hC dX11_isSecret_0 rfl ?_
  refine zs_k hC dX11_isSecret_1 ?_
  refine zs_k hC dX11_isSecret_2 ?_
  refine zs_callS [.int v0, .int (nI 0), .int (nI 15)] hC cw_X11_isWithin cl_RX11_97 (by decide) rfl rfl (Nat.le_of_ble_eq_true rfl) dX11_isSecret_4 (fun _ h => ctX11_isWithin h) (fun r1 m1 _ hf => ?_) hf
  show zAW X 7 _ (.int r1 :: _) m1
  exact zs_zret hC hret dX11_isSecret_7 hf
set_option maxRecDepth 20000 in
set_option maxHeartbeats 4000000 in
theorem ctX11_isSecret {E : zEV} {F : Nat} {v0 : Int32} {μ : zMem} {out : zR} (hf : fX11_isSecret F v0 μ = some out) : zCt E yX11_isSecret cX11_isSecret 1 (some .boolean) 1 [.int v0] μ out :=
  zCt.of [some (.int v0)] (by decide +kernel) (Nat.le_of_ble_eq_true rfl) (zLw_s zLw_0) rfl (fun X hE ho hr hC => by
    subst hE; subst ho
    exact wX11_isSecret hC hr hf)
/-! X4_readsSecret -/
def fX4_readsSecret (F : Nat) (μ : zMem) : Option zR :=
  zBd (fX9_sign F μ) (fun r1 m1 => zBd (fX11_isSecret F (r1 - (nI 65)) m1) (fun r2 m2 => if r2 = 0 then zBd (fX9_fails F (nI 1) m2) (fun r3 m3 => zGb (decide (r3 = 0 ∨ r3 = 1)) (some (r3, m3))) else zLt (zUp m2 1 2 ((m2 1 2) + (nI 1))) (fun m5 => zG (m5 36 3) 20 (zLt (zUp m5 39 (m5 36 3).toNatClampNeg (r1 - (nI 65))) (fun m8 => some ((nI 1), m8))))))
set_option maxRecDepth 20000 in
set_option maxHeartbeats 4000000 in
theorem wX4_readsSecret {X : zX} {F : Nat} (hC : zCx X RX4 cX4_readsSecret 3 2) (hret : zRt X (some .boolean)) {μ : zMem} (hf : fX4_readsSecret F μ = some (zOut X)) : zAW X 0 [some (.ref 36), some (.ref 1), none] [] μ := by
  unfold fX4_readsSecret at hf
  refine zs_al hC dX4_readsSecret_0 rfl ?_
  refine zs_callV [] hC cw_X9_sign cl_RX4_42 zL1 rfl (by decide) rfl rfl (Nat.le_of_ble_eq_true rfl) dX4_readsSecret_1 (fun _ h => ctX9_sign h) (fun r1 m1 _ hf => ?_) hf
  show zAW X 4 _ (.int r1 :: _) m1
  refine zs_k hC dX4_readsSecret_4 ?_
  refine zs_isub hC dX4_readsSecret_6 ?_
  refine zs_is hC dX4_readsSecret_7 (by decide) rfl ?_
  refine zs_il hC dX4_readsSecret_8 rfl ?_
  refine zs_callN [.int (r1 - (nI 65))] hC cw_X11_isSecret cl_RX4_70 (by decide) rfl rfl (Nat.le_of_ble_eq_true rfl) dX4_readsSecret_9 (fun _ h => ctX11_isSecret h) (fun r2 m2 _ hf => ?_) hf
  show zAW X 12 _ (.int r2 :: _) m2
  refine zs_if_ne hC dX4_readsSecret_12 (fun _ hf => ?_) (fun _ hf => ?_) hf
  · refine zs_al hC dX4_readsSecret_15 rfl ?_
    refine zs_k hC dX4_readsSecret_16 ?_
    refine zs_callV [.int (nI 1)] hC cw_X9_fails cl_RX4_49 zL1 rfl (by decide) rfl rfl (Nat.le_of_ble_eq_true rfl) dX4_readsSecret_17 (fun _ h => ctX9_fails h) (fun r3 m3 _ hf => ?_) hf
    show zAW X 20 _ (.int r3 :: _) m3
    exact zs_zret hC hret dX4_readsSecret_20 hf
  · refine zs_al hC dX4_readsSecret_21 rfl ?_
    refine zs_dup hC dX4_readsSecret_22 rfl ?_
    refine zs_getI hC fl_RX4_56 zL1 rfl dX4_readsSecret_23 ?_
    refine zs_k hC dX4_readsSecret_26 ?_
    refine zs_iadd hC dX4_readsSecret_27 ?_
    refine zs_putI hC fl_RX4_56 fp_9_2 zL1 rfl dX4_readsSecret_28 ?_
    refine zs_let (fun m5 _ hf => ?_) hf
    refine zs_al hC dX4_readsSecret_31 rfl ?_
    refine zs_getR 39 hC fl_RX4_18 zL36 rfl dX4_readsSecret_32 ?_
    refine zs_al hC dX4_readsSecret_35 rfl ?_
    refine zs_getI hC fl_RX4_21 zL36 rfl dX4_readsSecret_36 ?_
    refine zs_il hC dX4_readsSecret_39 rfl ?_
    refine zs_iast hC zL39 dX4_readsSecret_40 (fun _ hf => ?_) hf
    refine zs_let (fun m8 _ hf => ?_) hf
    refine zs_k hC dX4_readsSecret_41 ?_
    exact zs_zretK hC hret dX4_readsSecret_42 (by decide) hf
set_option maxRecDepth 20000 in
set_option maxHeartbeats 4000000 in
theorem ctX4_readsSecret {E : zEV} {F : Nat} {μ : zMem} {out : zR} (hf : fX4_readsSecret F μ = some out) : zCt E yX4_readsSecret cX4_readsSecret 3 (some .boolean) 2 [.ref 36, .ref 1] μ out :=
  zCt.of [some (.ref 36), some (.ref 1), none] (by decide +kernel) (Nat.le_of_ble_eq_true rfl) (zLw_s (zLw_s (zLw_e zLw_0))) rfl (fun X hE ho hr hC => by
    subst hE; subst ho
    exact wX4_readsSecret hC hr hf)
/-! X4_readsOther -/
def fX4_readsOther (F : Nat) (v2 : Int32) (μ : zMem) : Option zR :=
  zBd (fX9_sign F μ) (fun r1 m1 => zBd (fX11_isPerson F (r1 - (nI 97)) m1) (fun r2 m2 => if r2 = 0 then zBd (fX9_fails F (nI 1) m2) (fun r3 m3 => zGb (decide (r3 = 0 ∨ r3 = 1)) (some (r3, m3))) else zG (m2 36 3) 20 (if (r1 - (nI 97)) = (m2 37 (m2 36 3).toNatClampNeg) then zBd (fX9_fails F (nI 6) m2) (fun r6 m6 => zGb (decide (r6 = 0 ∨ r6 = 1)) (some (r6, m6))) else zBd (fX11_hasBit F v2 (r1 - (nI 97)) m2) (fun r7 m7 => if r7 = 0 then zBd (fX9_fails F (nI 7) m7) (fun r8 m8 => zGb (decide (r8 = 0 ∨ r8 = 1)) (some (r8, m8))) else zLt (zUp m7 1 2 ((m7 1 2) + (nI 1))) (fun m10 => zG (m10 36 3) 20 (zLt (zUp m10 39 (m10 36 3).toNatClampNeg (r1 - (nI 97))) (fun m13 => some ((nI 1), m13))))))))
set_option maxRecDepth 20000 in
set_option maxHeartbeats 4000000 in
theorem wX4_readsOther {X : zX} {F : Nat} (hC : zCx X RX4 cX4_readsOther 4 2) (hret : zRt X (some .boolean)) {v2 : Int32} {μ : zMem} (hf : fX4_readsOther F v2 μ = some (zOut X)) : zAW X 0 [some (.ref 36), some (.ref 1), some (.int v2), none] [] μ := by
  unfold fX4_readsOther at hf
  refine zs_al hC dX4_readsOther_0 rfl ?_
  refine zs_callV [] hC cw_X9_sign cl_RX4_42 zL1 rfl (by decide) rfl rfl (Nat.le_of_ble_eq_true rfl) dX4_readsOther_1 (fun _ h => ctX9_sign h) (fun r1 m1 _ hf => ?_) hf
  show zAW X 4 _ (.int r1 :: _) m1
  refine zs_k hC dX4_readsOther_4 ?_
  refine zs_isub hC dX4_readsOther_6 ?_
  refine zs_is hC dX4_readsOther_7 (by decide) rfl ?_
  refine zs_il hC dX4_readsOther_8 rfl ?_
  refine zs_callN [.int (r1 - (nI 97))] hC cw_X11_isPerson cl_RX4_46 (by decide) rfl rfl (Nat.le_of_ble_eq_true rfl) dX4_readsOther_9 (fun _ h => ctX11_isPerson h) (fun r2 m2 _ hf => ?_) hf
  show zAW X 12 _ (.int r2 :: _) m2
  refine zs_if_ne hC dX4_readsOther_12 (fun _ hf => ?_) (fun _ hf => ?_) hf
  · refine zs_al hC dX4_readsOther_15 rfl ?_
    refine zs_k hC dX4_readsOther_16 ?_
    refine zs_callV [.int (nI 1)] hC cw_X9_fails cl_RX4_49 zL1 rfl (by decide) rfl rfl (Nat.le_of_ble_eq_true rfl) dX4_readsOther_17 (fun _ h => ctX9_fails h) (fun r3 m3 _ hf => ?_) hf
    show zAW X 20 _ (.int r3 :: _) m3
    exact zs_zret hC hret dX4_readsOther_20 hf
  · refine zs_il hC dX4_readsOther_21 rfl ?_
    refine zs_al hC dX4_readsOther_22 rfl ?_
    refine zs_getR 37 hC fl_RX4_11 zL36 rfl dX4_readsOther_23 ?_
    refine zs_al hC dX4_readsOther_26 rfl ?_
    refine zs_getI hC fl_RX4_21 zL36 rfl dX4_readsOther_27 ?_
    refine zs_iald hC zL37 dX4_readsOther_30 (fun _ hf => ?_) hf
    refine zs_ic_ne hC dX4_readsOther_31 (fun _ hf => ?_) (fun _ hf => ?_) hf
    · refine zs_al hC dX4_readsOther_34 rfl ?_
      refine zs_k hC dX4_readsOther_35 ?_
      refine zs_callV [.int (nI 6)] hC cw_X9_fails cl_RX4_49 zL1 rfl (by decide) rfl rfl (Nat.le_of_ble_eq_true rfl) dX4_readsOther_37 (fun _ h => ctX9_fails h) (fun r6 m6 _ hf => ?_) hf
      show zAW X 40 _ (.int r6 :: _) m6
      exact zs_zret hC hret dX4_readsOther_40 hf
    · refine zs_il hC dX4_readsOther_41 rfl ?_
      refine zs_il hC dX4_readsOther_42 rfl ?_
      refine zs_callN [.int v2, .int (r1 - (nI 97))] hC cw_X11_hasBit cl_RX4_52 (by decide) rfl rfl (Nat.le_of_ble_eq_true rfl) dX4_readsOther_43 (fun _ h => ctX11_hasBit h) (fun r7 m7 _ hf => ?_) hf
      show zAW X 46 _ (.int r7 :: _) m7
      refine zs_if_ne hC dX4_readsOther_46 (fun _ hf => ?_) (fun _ hf => ?_) hf
      · refine zs_al hC dX4_readsOther_49 rfl ?_
        refine zs_k hC dX4_readsOther_50 ?_
        refine zs_callV [.int (nI 7)] hC cw_X9_fails cl_RX4_49 zL1 rfl (by decide) rfl rfl (Nat.le_of_ble_eq_true rfl) dX4_readsOther_52 (fun _ h => ctX9_fails h) (fun r8 m8 _ hf => ?_) hf
        show zAW X 55 _ (.int r8 :: _) m8
        exact zs_zret hC hret dX4_readsOther_55 hf
      · refine zs_al hC dX4_readsOther_56 rfl ?_
        refine zs_dup hC dX4_readsOther_57 rfl ?_
        refine zs_getI hC fl_RX4_56 zL1 rfl dX4_readsOther_58 ?_
        refine zs_k hC dX4_readsOther_61 ?_
        refine zs_iadd hC dX4_readsOther_62 ?_
        refine zs_putI hC fl_RX4_56 fp_9_2 zL1 rfl dX4_readsOther_63 ?_
        refine zs_let (fun m10 _ hf => ?_) hf
        refine zs_al hC dX4_readsOther_66 rfl ?_
        refine zs_getR 39 hC fl_RX4_18 zL36 rfl dX4_readsOther_67 ?_
        refine zs_al hC dX4_readsOther_70 rfl ?_
        refine zs_getI hC fl_RX4_21 zL36 rfl dX4_readsOther_71 ?_
        refine zs_il hC dX4_readsOther_74 rfl ?_
        refine zs_iast hC zL39 dX4_readsOther_75 (fun _ hf => ?_) hf
        refine zs_let (fun m13 _ hf => ?_) hf
        refine zs_k hC dX4_readsOther_76 ?_
        exact zs_zretK hC hret dX4_readsOther_77 (by decide) hf
set_option maxRecDepth 20000 in
set_option maxHeartbeats 4000000 in
theorem ctX4_readsOther {E : zEV} {F : Nat} {v2 : Int32} {μ : zMem} {out : zR} (hf : fX4_readsOther F v2 μ = some out) : zCt E yX4_readsOther cX4_readsOther 4 (some .boolean) 2 [.ref 36, .ref 1, .int v2] μ out :=
  zCt.of [some (.ref 36), some (.ref 1), some (.int v2), none] (by decide +kernel) (Nat.le_of_ble_eq_true rfl) (zLw_s (zLw_s (zLw_s (zLw_e zLw_0)))) rfl (fun X hE ho hr hC => by
    subst hE; subst ho
    exact wX4_readsOther hC hr hf)
/-! X9_number -/
def fX9_number_4 (F : Nat) : Nat → Int32 → Int32 → Int32 → zMem → Option zR
  | 0, _, _, _, _ => none
  | n + 1, v1, v2, v3, μ => if v1 < v3 then some (v2, μ) else zBd (fX9_sign F μ) (fun r1 m1 => zBd (fX11_isWithin F (r1 - (nI 48)) (nI 0) (nI 9) m1) (fun r2 m2 => if r2 = 0 then if v3 = 0 then zBd (fX9_fails F (nI 1) m2) (fun r3 m3 => some ((-1 : Int32), m3)) else some (v2, m2) else if v3 = v1 then zBd (fX9_fails F (nI 2) m2) (fun r4 m4 => some ((-1 : Int32), m4)) else zLt (zUp m2 1 2 ((m2 1 2) + (nI 1))) (fun m6 => fX9_number_4 F n v1 (((nI 10) * v2) + (r1 - (nI 48))) (v3 + (nI 1)) m6)))
def fX9_number (F : Nat) (v1 : Int32) (μ : zMem) : Option zR :=
  fX9_number_4 F F v1 (nI 0) (nI 0) μ
set_option maxRecDepth 20000 in
set_option maxHeartbeats 4000000 in
theorem wX9_number_4 {X : zX} {F : Nat} (hC : zCx X RX9 cX9_number 5 1) (hret : zRt X (some .int)) : ∀ (n : Nat) (v1 : Int32) (v2 : Int32) (v3 : Int32) (μ : zMem), fX9_number_4 F n v1 v2 v3 μ = some (zOut X) → zAW X 4 [some (.ref 1), some (.int v1), some (.int v2), some (.int v3), none] [] μ := by
  intro n
  induction n with
  | zero =>
    intro v1 v2 v3 μ hf
    rw [fX9_number_4] at hf
    cases hf
  | succ n ih =>
    intro v1 v2 v3 μ hf
    rw [fX9_number_4] at hf
    refine zs_il hC dX9_number_4 rfl ?_
    refine zs_il hC dX9_number_5 rfl ?_
    refine zs_ic_gt hC dX9_number_6 (fun _ hf => ?_) (fun _ hf => ?_) hf
    · refine zs_il hC dX9_number_80 rfl ?_
      exact zs_iret hC hret dX9_number_81 hf
    · refine zs_al hC dX9_number_9 rfl ?_
      refine zs_callV [] hC cw_X9_sign cl_RX9_29 zL1 rfl (by decide) rfl rfl (Nat.le_of_ble_eq_true rfl) dX9_number_10 (fun _ h => ctX9_sign h) (fun r1 m1 _ hf => ?_) hf
      show zAW X 13 _ (.int r1 :: _) m1
      refine zs_k hC dX9_number_13 ?_
      refine zs_isub hC dX9_number_15 ?_
      refine zs_is hC dX9_number_16 (by decide) rfl ?_
      refine zs_il hC dX9_number_18 rfl ?_
      refine zs_k hC dX9_number_20 ?_
      refine zs_k hC dX9_number_21 ?_
      refine zs_callN [.int (r1 - (nI 48)), .int (nI 0), .int (nI 9)] hC cw_X11_isWithin cl_RX9_19 (by decide) rfl rfl (Nat.le_of_ble_eq_true rfl) dX9_number_23 (fun _ h => ctX11_isWithin h) (fun r2 m2 _ hf => ?_) hf
      show zAW X 26 _ (.int r2 :: _) m2
      refine zs_if_ne hC dX9_number_26 (fun _ hf => ?_) (fun _ hf => ?_) hf
      · refine zs_il hC dX9_number_29 rfl ?_
        refine zs_if_ne hC dX9_number_30 (fun _ hf => ?_) (fun _ hf => ?_) hf
        · refine zs_al hC dX9_number_33 rfl ?_
          refine zs_k hC dX9_number_34 ?_
          refine zs_callV [.int (nI 1)] hC cw_X9_fails cl_RX9_33 zL1 rfl (by decide) rfl rfl (Nat.le_of_ble_eq_true rfl) dX9_number_35 (fun _ h => ctX9_fails h) (fun r3 m3 _ hf => ?_) hf
          show zAW X 38 _ (.int r3 :: _) m3
          refine zs_pop hC dX9_number_38 rfl ?_
          refine zs_k hC dX9_number_39 ?_
          exact zs_iret hC hret dX9_number_40 hf
        · refine zs_il hC dX9_number_41 rfl ?_
          exact zs_iret hC hret dX9_number_42 hf
      · refine zs_il hC dX9_number_43 rfl ?_
        refine zs_il hC dX9_number_44 rfl ?_
        refine zs_ic_ne hC dX9_number_45 (fun _ hf => ?_) (fun _ hf => ?_) hf
        · refine zs_al hC dX9_number_48 rfl ?_
          refine zs_k hC dX9_number_49 ?_
          refine zs_callV [.int (nI 2)] hC cw_X9_fails cl_RX9_33 zL1 rfl (by decide) rfl rfl (Nat.le_of_ble_eq_true rfl) dX9_number_50 (fun _ h => ctX9_fails h) (fun r4 m4 _ hf => ?_) hf
          show zAW X 53 _ (.int r4 :: _) m4
          refine zs_pop hC dX9_number_53 rfl ?_
          refine zs_k hC dX9_number_54 ?_
          exact zs_iret hC hret dX9_number_55 hf
        · refine zs_k hC dX9_number_56 ?_
          refine zs_il hC dX9_number_58 rfl ?_
          refine zs_imul hC dX9_number_59 ?_
          refine zs_il hC dX9_number_60 rfl ?_
          refine zs_iadd hC dX9_number_62 ?_
          refine zs_is hC dX9_number_63 (by decide) rfl ?_
          refine zs_al hC dX9_number_64 rfl ?_
          refine zs_dup hC dX9_number_65 rfl ?_
          refine zs_getI hC fl_RX9_23 zL1 rfl dX9_number_66 ?_
          refine zs_k hC dX9_number_69 ?_
          refine zs_iadd hC dX9_number_70 ?_
          refine zs_putI hC fl_RX9_23 fp_9_2 zL1 rfl dX9_number_71 ?_
          refine zs_let (fun m6 _ hf => ?_) hf
          refine zs_iinc (nI 1) hC dX9_number_74 (by decide) rfl (by decide) rfl ?_
          refine zs_goto hC dX9_number_77 ?_
          exact zAW.weak (ih _ _ _ _ hf) (zLw_s (zLw_s (zLw_s (zLw_s (zLw_n zLw_0)))))
set_option maxRecDepth 20000 in
set_option maxHeartbeats 4000000 in
theorem wX9_number {X : zX} {F : Nat} (hC : zCx X RX9 cX9_number 5 1) (hret : zRt X (some .int)) {v1 : Int32} {μ : zMem} (hf : fX9_number F v1 μ = some (zOut X)) : zAW X 0 [some (.ref 1), some (.int v1), none, none, none] [] μ := by
  unfold fX9_number at hf
  refine zs_k hC dX9_number_0 ?_
  refine zs_is hC dX9_number_1 (by decide) rfl ?_
  refine zs_k hC dX9_number_2 ?_
  refine zs_is hC dX9_number_3 (by decide) rfl ?_
  exact zAW.weak (wX9_number_4 hC hret F _ _ _ _ hf) (zLw_s (zLw_s (zLw_s (zLw_s (zLw_n zLw_0)))))
set_option maxRecDepth 20000 in
set_option maxHeartbeats 4000000 in
theorem ctX9_number {E : zEV} {F : Nat} {v1 : Int32} {μ : zMem} {out : zR} (hf : fX9_number F v1 μ = some out) : zCt E yX9_number cX9_number 5 (some .int) 1 [.ref 1, .int v1] μ out :=
  zCt.of [some (.ref 1), some (.int v1), none, none, none] (by decide +kernel) (Nat.le_of_ble_eq_true rfl) (zLw_s (zLw_s (zLw_e (zLw_e (zLw_e zLw_0))))) rfl (fun X hE ho hr hC => by
    subst hE; subst ho
    exact wX9_number hC hr hf)
/-! X4_readsWhat -/
def fX4_readsWhat_76 (F : Nat) (μ : zMem) : Option zR :=
  zLt (zUp μ 1 2 ((μ 1 2) + (nI 1))) (fun m2 => some ((nI 1), m2))
def fX4_readsWhat_88 (F : Nat) (μ : zMem) : Option zR :=
  zLt (zUp μ 1 2 ((μ 1 2) + (nI 1))) (fun m2 => zBd (fX4_readsSecret F m2) (fun r3 m3 => zGb (decide (r3 = 0 ∨ r3 = 1)) (some (r3, m3))))
def fX4_readsWhat (F : Nat) (v2 : Int32) (μ : zMem) : Option zR :=
  zBd (fX9_sign F μ) (fun r1 m1 => zG (m1 36 3) 20 (zLt (zUp m1 38 (m1 36 3).toNatClampNeg r1) (fun m4 => (if r1 = (nI 33) then fX4_readsWhat_76 F m4 else if r1 = (nI 43) then fX4_readsWhat_88 F m4 else if r1 = (nI 45) then fX4_readsWhat_88 F m4 else if r1 = (nI 61) then zLt (zUp m4 1 2 ((m4 1 2) + (nI 1))) (fun m6 => zBd (fX9_number F (nI 4) m6) (fun r9 m9 => zG (m6 36 3) 20 (zLt (zUp m9 39 (m6 36 3).toNatClampNeg r9) (fun m10 => zG (m10 36 3) 20 (if (m10 39 (m10 36 3).toNatClampNeg) = (-1 : Int32) then some ((nI 0), m10) else some ((nI 1), m10)))))) else if r1 = (nI 62) then zLt (zUp m4 1 2 ((m4 1 2) + (nI 1))) (fun m14 => zBd (fX4_readsOther F v2 m14) (fun r15 m15 => zGb (decide (r15 = 0 ∨ r15 = 1)) (some (r15, m15)))) else if r1 = (nI 63) then fX4_readsWhat_76 F m4 else zBd (fX9_fails F (nI 1) m4) (fun r16 m16 => zGb (decide (r16 = 0 ∨ r16 = 1)) (some (r16, m16)))))))
set_option maxRecDepth 20000 in
set_option maxHeartbeats 4000000 in
theorem wX4_readsWhat_76 {X : zX} {F : Nat} (hC : zCx X RX4 cX4_readsWhat 4 3) (hret : zRt X (some .boolean)) {μ : zMem} (hf : fX4_readsWhat_76 F μ = some (zOut X)) : zAW X 76 [none, some (.ref 1), none, none] [] μ := by
  unfold fX4_readsWhat_76 at hf
  refine zs_al hC dX4_readsWhat_76 rfl ?_
  refine zs_dup hC dX4_readsWhat_77 rfl ?_
  refine zs_getI hC fl_RX4_56 zL1 rfl dX4_readsWhat_78 ?_
  refine zs_k hC dX4_readsWhat_81 ?_
  refine zs_iadd hC dX4_readsWhat_82 ?_
  refine zs_putI hC fl_RX4_56 fp_9_2 zL1 rfl dX4_readsWhat_83 ?_
  refine zs_let (fun m2 _ hf => ?_) hf
  refine zs_k hC dX4_readsWhat_86 ?_
  exact zs_zretK hC hret dX4_readsWhat_87 (by decide) hf
set_option maxRecDepth 20000 in
set_option maxHeartbeats 4000000 in
theorem wX4_readsWhat_88 {X : zX} {F : Nat} (hC : zCx X RX4 cX4_readsWhat 4 3) (hret : zRt X (some .boolean)) {μ : zMem} (hf : fX4_readsWhat_88 F μ = some (zOut X)) : zAW X 88 [some (.ref 36), some (.ref 1), none, none] [] μ := by
  unfold fX4_readsWhat_88 at hf
  refine zs_al hC dX4_readsWhat_88 rfl ?_
  refine zs_dup hC dX4_readsWhat_89 rfl ?_
  refine zs_getI hC fl_RX4_56 zL1 rfl dX4_readsWhat_90 ?_
  refine zs_k hC dX4_readsWhat_93 ?_
  refine zs_iadd hC dX4_readsWhat_94 ?_
  refine zs_putI hC fl_RX4_56 fp_9_2 zL1 rfl dX4_readsWhat_95 ?_
  refine zs_let (fun m2 _ hf => ?_) hf
  refine zs_al hC dX4_readsWhat_98 rfl ?_
  refine zs_al hC dX4_readsWhat_99 rfl ?_
  refine zs_callV [.ref 1] hC cw_X4_readsSecret cl_RX4_59 zL36 rfl (by decide) rfl rfl (Nat.le_of_ble_eq_true rfl) dX4_readsWhat_100 (fun _ h => ctX4_readsSecret h) (fun r3 m3 _ hf => ?_) hf
  show zAW X 103 _ (.int r3 :: _) m3
  exact zs_zret hC hret dX4_readsWhat_103 hf
set_option maxRecDepth 20000 in
set_option maxHeartbeats 4000000 in
theorem wX4_readsWhat {X : zX} {F : Nat} (hC : zCx X RX4 cX4_readsWhat 4 3) (hret : zRt X (some .boolean)) {v2 : Int32} {μ : zMem} (hf : fX4_readsWhat F v2 μ = some (zOut X)) : zAW X 0 [some (.ref 36), some (.ref 1), some (.int v2), none] [] μ := by
  unfold fX4_readsWhat at hf
  refine zs_al hC dX4_readsWhat_0 rfl ?_
  refine zs_callV [] hC cw_X9_sign cl_RX4_42 zL1 rfl (by decide) rfl rfl (Nat.le_of_ble_eq_true rfl) dX4_readsWhat_1 (fun _ h => ctX9_sign h) (fun r1 m1 _ hf => ?_) hf
  show zAW X 4 _ (.int r1 :: _) m1
  refine zs_is hC dX4_readsWhat_4 (by decide) rfl ?_
  refine zs_al hC dX4_readsWhat_5 rfl ?_
  refine zs_getR 38 hC fl_RX4_15 zL36 rfl dX4_readsWhat_6 ?_
  refine zs_al hC dX4_readsWhat_9 rfl ?_
  refine zs_getI hC fl_RX4_21 zL36 rfl dX4_readsWhat_10 ?_
  refine zs_il hC dX4_readsWhat_13 rfl ?_
  refine zs_iast hC zL38 dX4_readsWhat_14 (fun _ hf => ?_) hf
  refine zs_let (fun m4 _ hf => ?_) hf
  refine zs_il hC dX4_readsWhat_15 rfl ?_
  refine zs_case (nI 33) (fun hx hf => ?_) (fun e16_33 hf => ?_) hf
  · refine zs_look (tgt := 76) (off := 60) hC dX4_readsWhat_16 (by decide) (by rw [hx]; first | done | decide) (by decide) ?_
    exact zAW.weak (wX4_readsWhat_76 hC hret hf) (zLw_n (zLw_s (zLw_n (zLw_n zLw_0))))
  refine zs_case (nI 43) (fun hx hf => ?_) (fun e16_43 hf => ?_) hf
  · refine zs_look (tgt := 88) (off := 72) hC dX4_readsWhat_16 (by decide) (by rw [hx]; first | done | decide) (by decide) ?_
    exact zAW.weak (wX4_readsWhat_88 hC hret hf) (zLw_s (zLw_s (zLw_n (zLw_n zLw_0))))
  refine zs_case (nI 45) (fun hx hf => ?_) (fun e16_45 hf => ?_) hf
  · refine zs_look (tgt := 88) (off := 72) hC dX4_readsWhat_16 (by decide) (by rw [hx]; first | done | decide) (by decide) ?_
    exact zAW.weak (wX4_readsWhat_88 hC hret hf) (zLw_s (zLw_s (zLw_n (zLw_n zLw_0))))
  refine zs_case (nI 61) (fun hx hf => ?_) (fun e16_61 hf => ?_) hf
  · refine zs_look (tgt := 121) (off := 105) hC dX4_readsWhat_16 (by decide) (by rw [hx]; first | done | decide) (by decide) ?_
    refine zs_al hC dX4_readsWhat_121 rfl ?_
    refine zs_dup hC dX4_readsWhat_122 rfl ?_
    refine zs_getI hC fl_RX4_56 zL1 rfl dX4_readsWhat_123 ?_
    refine zs_k hC dX4_readsWhat_126 ?_
    refine zs_iadd hC dX4_readsWhat_127 ?_
    refine zs_putI hC fl_RX4_56 fp_9_2 zL1 rfl dX4_readsWhat_128 ?_
    refine zs_let (fun m6 _ hf => ?_) hf
    refine zs_al hC dX4_readsWhat_131 rfl ?_
    refine zs_getR 39 hC fl_RX4_18 zL36 rfl dX4_readsWhat_132 ?_
    refine zs_al hC dX4_readsWhat_135 rfl ?_
    refine zs_getI hC fl_RX4_21 zL36 rfl dX4_readsWhat_136 ?_
    refine zs_al hC dX4_readsWhat_139 rfl ?_
    refine zs_k hC dX4_readsWhat_140 ?_
    refine zs_callV [.int (nI 4)] hC cw_X9_number cl_RX4_66 zL1 rfl (by decide) rfl rfl (Nat.le_of_ble_eq_true rfl) dX4_readsWhat_141 (fun _ h => ctX9_number h) (fun r9 m9 _ hf => ?_) hf
    show zAW X 144 _ (.int r9 :: _) m9
    refine zs_iast hC zL39 dX4_readsWhat_144 (fun _ hf => ?_) hf
    refine zs_let (fun m10 _ hf => ?_) hf
    refine zs_al hC dX4_readsWhat_145 rfl ?_
    refine zs_getR 39 hC fl_RX4_18 zL36 rfl dX4_readsWhat_146 ?_
    refine zs_al hC dX4_readsWhat_149 rfl ?_
    refine zs_getI hC fl_RX4_21 zL36 rfl dX4_readsWhat_150 ?_
    refine zs_iald hC zL39 dX4_readsWhat_153 (fun _ hf => ?_) hf
    refine zs_k hC dX4_readsWhat_154 ?_
    refine zs_ic_eq hC dX4_readsWhat_155 (fun _ hf => ?_) (fun _ hf => ?_) hf
    · refine zs_k hC dX4_readsWhat_162 ?_
      exact zs_zretK hC hret dX4_readsWhat_163 (by decide) hf
    · refine zs_k hC dX4_readsWhat_158 ?_
      refine zs_goto hC dX4_readsWhat_159 ?_
      exact zs_zretK hC hret dX4_readsWhat_163 (by decide) hf
  refine zs_case (nI 62) (fun hx hf => ?_) (fun e16_62 hf => ?_) hf
  · refine zs_look (tgt := 104) (off := 88) hC dX4_readsWhat_16 (by decide) (by rw [hx]; first | done | decide) (by decide) ?_
    refine zs_al hC dX4_readsWhat_104 rfl ?_
    refine zs_dup hC dX4_readsWhat_105 rfl ?_
    refine zs_getI hC fl_RX4_56 zL1 rfl dX4_readsWhat_106 ?_
    refine zs_k hC dX4_readsWhat_109 ?_
    refine zs_iadd hC dX4_readsWhat_110 ?_
    refine zs_putI hC fl_RX4_56 fp_9_2 zL1 rfl dX4_readsWhat_111 ?_
    refine zs_let (fun m14 _ hf => ?_) hf
    refine zs_al hC dX4_readsWhat_114 rfl ?_
    refine zs_al hC dX4_readsWhat_115 rfl ?_
    refine zs_il hC dX4_readsWhat_116 rfl ?_
    refine zs_callV [.ref 1, .int v2] hC cw_X4_readsOther cl_RX4_63 zL36 rfl (by decide) rfl rfl (Nat.le_of_ble_eq_true rfl) dX4_readsWhat_117 (fun _ h => ctX4_readsOther h) (fun r15 m15 _ hf => ?_) hf
    show zAW X 120 _ (.int r15 :: _) m15
    exact zs_zret hC hret dX4_readsWhat_120 hf
  refine zs_case (nI 63) (fun hx hf => ?_) (fun e16_63 hf => ?_) hf
  · refine zs_look (tgt := 76) (off := 60) hC dX4_readsWhat_16 (by decide) (by rw [hx]; first | done | decide) (by decide) ?_
    exact zAW.weak (wX4_readsWhat_76 hC hret hf) (zLw_n (zLw_s (zLw_n (zLw_n zLw_0))))
  refine zs_look (tgt := 164) (off := 148) hC dX4_readsWhat_16 (by decide) (by show Op.lookupswitch.offset [(33, 60), (43, 72), (45, 72), (61, 105), (62, 88), (63, 60)] 148 _ = _; rw [lv_osw (a := 33) e16_33 (by decide), lv_osw (a := 43) e16_43 (by decide), lv_osw (a := 45) e16_45 (by decide), lv_osw (a := 61) e16_61 (by decide), lv_osw (a := 62) e16_62 (by decide), lv_osw (a := 63) e16_63 (by decide)]; rfl) (by decide) ?_
  refine zs_al hC dX4_readsWhat_164 rfl ?_
  refine zs_k hC dX4_readsWhat_165 ?_
  refine zs_callV [.int (nI 1)] hC cw_X9_fails cl_RX4_49 zL1 rfl (by decide) rfl rfl (Nat.le_of_ble_eq_true rfl) dX4_readsWhat_166 (fun _ h => ctX9_fails h) (fun r16 m16 _ hf => ?_) hf
  show zAW X 169 _ (.int r16 :: _) m16
  exact zs_zret hC hret dX4_readsWhat_169 hf
set_option maxRecDepth 20000 in
set_option maxHeartbeats 4000000 in
theorem ctX4_readsWhat {E : zEV} {F : Nat} {v2 : Int32} {μ : zMem} {out : zR} (hf : fX4_readsWhat F v2 μ = some out) : zCt E yX4_readsWhat cX4_readsWhat 4 (some .boolean) 3 [.ref 36, .ref 1, .int v2] μ out :=
  zCt.of [some (.ref 36), some (.ref 1), some (.int v2), none] (by decide +kernel) (Nat.le_of_ble_eq_true rfl) (zLw_s (zLw_s (zLw_s (zLw_e zLw_0)))) rfl (fun X hE ho hr hC => by
    subst hE; subst ho
    exact wX4_readsWhat hC hr hf)
/-! X4_reads -/
def fX4_reads_7 (F : Nat) : Nat → Int32 → Int32 → zMem → Option zR
  | 0, _, _, _ => none
  | n + 1, v2, v3, μ => if (nI 20) < v3 then some ((nI 0), μ) else zBd (fX4_readsWho F v2 μ) (fun r1 m1 => if r1 = 0 then some ((nI 0), m1) else zBd (fX4_readsWhat F v2 m1) (fun r2 m2 => if r2 = 0 then some ((nI 0), m2) else zLt (zUp m2 36 3 ((m2 36 3) + (nI 1))) (fun m4 => zBd (fX9_isOver F m4) (fun r5 m5 => if r5 = 0 then zBd (fX9_needs F (nI 59) m5) (fun r6 m6 => if r6 = 0 then some ((nI 0), m6) else fX4_reads_7 F n v2 (v3 + (nI 1)) m6) else some ((nI 1), m5)))))
def fX4_reads (F : Nat) (v2 : Int32) (μ : zMem) : Option zR :=
  zLt (zUp μ 36 3 (nI 0)) (fun m1 => fX4_reads_7 F F v2 (nI 0) m1)
set_option maxRecDepth 20000 in
set_option maxHeartbeats 4000000 in
theorem wX4_reads_7 {X : zX} {F : Nat} (hC : zCx X RX4 cX4_reads 4 4) (hret : zRt X (some .boolean)) : ∀ (n : Nat) (v2 : Int32) (v3 : Int32) (μ : zMem), fX4_reads_7 F n v2 v3 μ = some (zOut X) → zAW X 7 [some (.ref 36), some (.ref 1), some (.int v2), some (.int v3)] [] μ := by
  intro n
  induction n with
  | zero =>
    intro v2 v3 μ hf
    rw [fX4_reads_7] at hf
    cases hf
  | succ n ih =>
    intro v2 v3 μ hf
    rw [fX4_reads_7] at hf
    refine zs_il hC dX4_reads_7 rfl ?_
    refine zs_k hC dX4_reads_8 ?_
    refine zs_ic_gt hC dX4_reads_10 (fun _ hf => ?_) (fun _ hf => ?_) hf
    · refine zs_k hC dX4_reads_69 ?_
      exact zs_zretK hC hret dX4_reads_70 (by decide) hf
    · refine zs_al hC dX4_reads_13 rfl ?_
      refine zs_al hC dX4_reads_14 rfl ?_
      refine zs_il hC dX4_reads_15 rfl ?_
      refine zs_callV [.ref 1, .int v2] hC cw_X4_readsWho cl_RX4_25 zL36 rfl (by decide) rfl rfl (Nat.le_of_ble_eq_true rfl) dX4_reads_16 (fun _ h => ctX4_readsWho h) (fun r1 m1 _ hf => ?_) hf
      show zAW X 19 _ (.int r1 :: _) m1
      refine zs_if_eq hC dX4_reads_19 (fun _ hf => ?_) (fun _ hf => ?_) hf
      · refine zs_k hC dX4_reads_31 ?_
        exact zs_zretK hC hret dX4_reads_32 (by decide) hf
      · refine zs_al hC dX4_reads_22 rfl ?_
        refine zs_al hC dX4_reads_23 rfl ?_
        refine zs_il hC dX4_reads_24 rfl ?_
        refine zs_callV [.ref 1, .int v2] hC cw_X4_readsWhat cl_RX4_29 zL36 rfl (by decide) rfl rfl (Nat.le_of_ble_eq_true rfl) dX4_reads_25 (fun _ h => ctX4_readsWhat h) (fun r2 m2 _ hf => ?_) hf
        show zAW X 28 _ (.int r2 :: _) m2
        refine zs_if_ne hC dX4_reads_28 (fun _ hf => ?_) (fun _ hf => ?_) hf
        · refine zs_k hC dX4_reads_31 ?_
          exact zs_zretK hC hret dX4_reads_32 (by decide) hf
        · refine zs_al hC dX4_reads_33 rfl ?_
          refine zs_dup hC dX4_reads_34 rfl ?_
          refine zs_getI hC fl_RX4_21 zL36 rfl dX4_reads_35 ?_
          refine zs_k hC dX4_reads_38 ?_
          refine zs_iadd hC dX4_reads_39 ?_
          refine zs_putI hC fl_RX4_21 fp_4_3 zL36 rfl dX4_reads_40 ?_
          refine zs_let (fun m4 _ hf => ?_) hf
          refine zs_al hC dX4_reads_43 rfl ?_
          refine zs_callV [] hC cw_X9_isOver cl_RX4_32 zL1 rfl (by decide) rfl rfl (Nat.le_of_ble_eq_true rfl) dX4_reads_44 (fun _ h => ctX9_isOver h) (fun r5 m5 _ hf => ?_) hf
          show zAW X 47 _ (.int r5 :: _) m5
          refine zs_if_eq hC dX4_reads_47 (fun _ hf => ?_) (fun _ hf => ?_) hf
          · refine zs_al hC dX4_reads_52 rfl ?_
            refine zs_k hC dX4_reads_53 ?_
            refine zs_callV [.int (nI 59)] hC cw_X9_needs cl_RX4_38 zL1 rfl (by decide) rfl rfl (Nat.le_of_ble_eq_true rfl) dX4_reads_55 (fun _ h => ctX9_needs h) (fun r6 m6 _ hf => ?_) hf
            show zAW X 58 _ (.int r6 :: _) m6
            refine zs_if_ne hC dX4_reads_58 (fun _ hf => ?_) (fun _ hf => ?_) hf
            · refine zs_k hC dX4_reads_61 ?_
              exact zs_zretK hC hret dX4_reads_62 (by decide) hf
            · refine zs_iinc (nI 1) hC dX4_reads_63 (by decide) rfl (by decide) rfl ?_
              refine zs_goto hC dX4_reads_66 ?_
              exact zAW.weak (ih _ _ _ hf) (zLw_s (zLw_s (zLw_s (zLw_s zLw_0))))
          · refine zs_k hC dX4_reads_50 ?_
            exact zs_zretK hC hret dX4_reads_51 (by decide) hf
set_option maxRecDepth 20000 in
set_option maxHeartbeats 4000000 in
theorem wX4_reads {X : zX} {F : Nat} (hC : zCx X RX4 cX4_reads 4 4) (hret : zRt X (some .boolean)) {v2 : Int32} {μ : zMem} (hf : fX4_reads F v2 μ = some (zOut X)) : zAW X 0 [some (.ref 36), some (.ref 1), some (.int v2), none] [] μ := by
  unfold fX4_reads at hf
  refine zs_al hC dX4_reads_0 rfl ?_
  refine zs_k hC dX4_reads_1 ?_
  refine zs_putI hC fl_RX4_21 fp_4_3 zL36 rfl dX4_reads_2 ?_
  refine zs_let (fun m1 _ hf => ?_) hf
  refine zs_k hC dX4_reads_5 ?_
  refine zs_is hC dX4_reads_6 (by decide) rfl ?_
  exact zAW.weak (wX4_reads_7 hC hret F _ _ _ hf) (zLw_s (zLw_s (zLw_s (zLw_s zLw_0))))
set_option maxRecDepth 20000 in
set_option maxHeartbeats 4000000 in
theorem ctX4_reads {E : zEV} {F : Nat} {v2 : Int32} {μ : zMem} {out : zR} (hf : fX4_reads F v2 μ = some out) : zCt E yX4_reads cX4_reads 4 (some .boolean) 4 [.ref 36, .ref 1, .int v2] μ out :=
  zCt.of [some (.ref 36), some (.ref 1), some (.int v2), none] (by decide +kernel) (Nat.le_of_ble_eq_true rfl) (zLw_s (zLw_s (zLw_s (zLw_e zLw_0)))) rfl (fun X hE ho hr hC => by
    subst hE; subst ho
    exact wX4_reads hC hr hf)
/-! X8_reads -/
def fX8_reads (F : Nat) (h0 : Nat) (v1 : Int32) (v2 : Int32) (μ : zMem) : Option zR :=
  if v2 = 0 then zLt (zUp μ h0 5 ((μ h0 5) &&& (((nI 1) <<< (v1 &&& 31)) ^^^ (-1 : Int32)))) (fun m2 => some ((nI 0), m2)) else zLt (zUp μ h0 5 ((μ h0 5) ||| ((nI 1) <<< (v1 &&& 31)))) (fun m4 => some ((nI 0), m4))
set_option maxRecDepth 20000 in
set_option maxHeartbeats 4000000 in
theorem wX8_reads {X : zX} {F h0 : Nat} (hC : zCx X RX8 cX8_reads 3 0) (hh0 : zIsSt h0 = true) (hret : zRt X none) {v1 : Int32} {v2 : Int32} {μ : zMem} (hf : fX8_reads F h0 v1 v2 μ = some (zOut X)) : zAW X 0 [some (.ref h0), some (.int v1), some (.int v2)] [] μ := by
  unfold fX8_reads at hf
  refine zs_al hC dX8_reads_0 rfl ?_
  refine zs_il hC dX8_reads_1 rfl ?_
  refine zs_if_eq hC dX8_reads_2 (fun _ hf => ?_) (fun _ hf => ?_) hf
  · refine zs_al hC dX8_reads_16 rfl ?_
    refine zs_getI hC fl_RX8_37 (zSt0 hh0) rfl dX8_reads_17 ?_
    refine zs_k hC dX8_reads_20 ?_
    refine zs_il hC dX8_reads_21 rfl ?_
    refine zs_ishl hC dX8_reads_22 ?_
    refine zs_k hC dX8_reads_23 ?_
    refine zs_ixor hC dX8_reads_24 ?_
    refine zs_iand hC dX8_reads_25 ?_
    refine zs_putI hC fl_RX8_37 fp_8_5 (zSt0 hh0) rfl dX8_reads_26 ?_
    refine zs_let (fun m2 _ hf => ?_) hf
    exact zs_vret hC hret dX8_reads_29 hf
  · refine zs_al hC dX8_reads_5 rfl ?_
    refine zs_getI hC fl_RX8_37 (zSt0 hh0) rfl dX8_reads_6 ?_
    refine zs_k hC dX8_reads_9 ?_
    refine zs_il hC dX8_reads_10 rfl ?_
    refine zs_ishl hC dX8_reads_11 ?_
    refine zs_ior hC dX8_reads_12 ?_
    refine zs_goto hC dX8_reads_13 ?_
    refine zs_putI hC fl_RX8_37 fp_8_5 (zSt0 hh0) rfl dX8_reads_26 ?_
    refine zs_let (fun m4 _ hf => ?_) hf
    exact zs_vret hC hret dX8_reads_29 hf
set_option maxRecDepth 20000 in
set_option maxHeartbeats 4000000 in
theorem ctX8_reads {E : zEV} {F : Nat} {h0 : Nat} {v1 : Int32} {v2 : Int32} {μ : zMem} {out : zR} (hh0 : zIsSt h0 = true) (hf : fX8_reads F h0 v1 v2 μ = some out) : zCt E yX8_reads cX8_reads 3 none 0 [.ref h0, .int v1, .int v2] μ out :=
  zCt.of [some (.ref h0), some (.int v1), some (.int v2)] (by decide +kernel) (Nat.le_of_ble_eq_true rfl) (zLw_s (zLw_s (zLw_s zLw_0))) rfl (fun X hE ho hr hC => by
    subst hE; subst ho
    exact wX8_reads hC hh0 hr hf)
/-! X4_isDoneTo -/
def fX4_isDoneTo_2 (F : Nat) (h1 : Nat) : Nat → Int32 → zMem → Option zR
  | 0, _, _ => none
  | n + 1, v2, μ => if (μ 36 3) ≤ v2 then some ((nI 0), μ) else zG v2 20 (zG v2 20 (zG v2 20 ((if (μ 38 v2.toNatClampNeg) = (nI 43) then zG (μ 37 v2.toNatClampNeg) 16 (zG (μ 37 v2.toNatClampNeg) 16 (zLt (zUp μ (h1 + 1) (μ 37 v2.toNatClampNeg).toNatClampNeg ((μ (h1 + 1) (μ 37 v2.toNatClampNeg).toNatClampNeg) ||| ((nI 1) <<< ((μ 39 v2.toNatClampNeg) &&& 31)))) (fun m6 => fX4_isDoneTo_2 F h1 n (v2 + (nI 1)) m6))) else if (μ 38 v2.toNatClampNeg) = (nI 45) then zG (μ 37 v2.toNatClampNeg) 16 (zG (μ 37 v2.toNatClampNeg) 16 (zLt (zUp μ (h1 + 1) (μ 37 v2.toNatClampNeg).toNatClampNeg ((μ (h1 + 1) (μ 37 v2.toNatClampNeg).toNatClampNeg) &&& (((nI 1) <<< ((μ 39 v2.toNatClampNeg) &&& 31)) ^^^ (-1 : Int32)))) (fun m8 => fX4_isDoneTo_2 F h1 n (v2 + (nI 1)) m8))) else if (μ 38 v2.toNatClampNeg) = (nI 61) then zG (μ 37 v2.toNatClampNeg) 16 (zLt (zUp μ (h1 + 2) (μ 37 v2.toNatClampNeg).toNatClampNeg (μ 39 v2.toNatClampNeg)) (fun m10 => fX4_isDoneTo_2 F h1 n (v2 + (nI 1)) m10)) else if (μ 38 v2.toNatClampNeg) = (nI 62) then zG (μ 39 v2.toNatClampNeg) 16 (zG (μ 37 v2.toNatClampNeg) 16 (zG (μ 39 v2.toNatClampNeg) 16 (zLt (zUp μ (h1 + 1) (μ 39 v2.toNatClampNeg).toNatClampNeg ((μ (h1 + 1) (μ 39 v2.toNatClampNeg).toNatClampNeg) ||| (μ (h1 + 1) (μ 37 v2.toNatClampNeg).toNatClampNeg))) (fun m13 => fX4_isDoneTo_2 F h1 n (v2 + (nI 1)) m13)))) else zG v2 20 (if (μ 38 v2.toNatClampNeg) = (nI 33) then zBd (fX8_reads F h1 (μ 37 v2.toNatClampNeg) (nI 1) μ) (fun r15 m15 => fX4_isDoneTo_2 F h1 n (v2 + (nI 1)) m15) else zBd (fX8_reads F h1 (μ 37 v2.toNatClampNeg) (nI 0) μ) (fun r16 m16 => fX4_isDoneTo_2 F h1 n (v2 + (nI 1)) m16))))))
def fX4_isDoneTo (F : Nat) (h1 : Nat) (μ : zMem) : Option zR :=
  fX4_isDoneTo_2 F h1 F (nI 0) μ
set_option maxRecDepth 20000 in
set_option maxHeartbeats 4000000 in
theorem wX4_isDoneTo_2 {X : zX} {F h1 : Nat} (hC : zCx X RX4 cX4_isDoneTo 5 1) (hh1 : zIsSt h1 = true) (hret : zRt X none) : ∀ (n : Nat) (v2 : Int32) (μ : zMem), fX4_isDoneTo_2 F h1 n v2 μ = some (zOut X) → zAW X 2 [some (.ref 36), some (.ref h1), some (.int v2), none, none] [] μ := by
  intro n
  induction n with
  | zero =>
    intro v2 μ hf
    rw [fX4_isDoneTo_2] at hf
    cases hf
  | succ n ih =>
    intro v2 μ hf
    rw [fX4_isDoneTo_2] at hf
    refine zs_il hC dX4_isDoneTo_2 rfl ?_
    refine zs_al hC dX4_isDoneTo_3 rfl ?_
    refine zs_getI hC fl_RX4_21 zL36 rfl dX4_isDoneTo_4 ?_
    refine zs_ic_ge hC dX4_isDoneTo_7 (fun _ hf => ?_) (fun _ hf => ?_) hf
    · exact zs_vret hC hret dX4_isDoneTo_163 hf
    · refine zs_al hC dX4_isDoneTo_10 rfl ?_
      refine zs_getR 37 hC fl_RX4_11 zL36 rfl dX4_isDoneTo_11 ?_
      refine zs_il hC dX4_isDoneTo_14 rfl ?_
      refine zs_iald hC zL37 dX4_isDoneTo_15 (fun _ hf => ?_) hf
      refine zs_is hC dX4_isDoneTo_16 (by decide) rfl ?_
      refine zs_al hC dX4_isDoneTo_17 rfl ?_
      refine zs_getR 39 hC fl_RX4_18 zL36 rfl dX4_isDoneTo_18 ?_
      refine zs_il hC dX4_isDoneTo_21 rfl ?_
      refine zs_iald hC zL39 dX4_isDoneTo_22 (fun _ hf => ?_) hf
      refine zs_is hC dX4_isDoneTo_23 (by decide) rfl ?_
      refine zs_al hC dX4_isDoneTo_25 rfl ?_
      refine zs_getR 38 hC fl_RX4_15 zL36 rfl dX4_isDoneTo_26 ?_
      refine zs_il hC dX4_isDoneTo_29 rfl ?_
      refine zs_iald hC zL38 dX4_isDoneTo_30 (fun _ hf => ?_) hf
      refine zs_case (nI 43) (fun hx hf => ?_) (fun e31_43 hf => ?_) hf
      · refine zs_look (tgt := 72) (off := 41) hC dX4_isDoneTo_31 (by decide) (by rw [hx]; first | done | decide) (by decide) ?_
        refine zs_al hC dX4_isDoneTo_72 rfl ?_
        refine zs_getR (h1 + 1) hC fl_RX4_73 (zSt0 hh1) rfl dX4_isDoneTo_73 ?_
        refine zs_il hC dX4_isDoneTo_76 rfl ?_
        refine zs_dup2 hC dX4_isDoneTo_77 rfl rfl ?_
        refine zs_iald hC (zSt1 hh1) dX4_isDoneTo_78 (fun _ hf => ?_) hf
        refine zs_k hC dX4_isDoneTo_79 ?_
        refine zs_il hC dX4_isDoneTo_80 rfl ?_
        refine zs_ishl hC dX4_isDoneTo_82 ?_
        refine zs_ior hC dX4_isDoneTo_83 ?_
        refine zs_iast hC (zSt1 hh1) dX4_isDoneTo_84 (fun _ hf => ?_) hf
        refine zs_let (fun m6 _ hf => ?_) hf
        refine zs_goto hC dX4_isDoneTo_85 ?_
        refine zs_iinc (nI 1) hC dX4_isDoneTo_157 (by decide) rfl (by decide) rfl ?_
        refine zs_goto hC dX4_isDoneTo_160 ?_
        exact zAW.weak (ih _ _ hf) (zLw_s (zLw_s (zLw_s (zLw_n (zLw_n zLw_0)))))
      refine zs_case (nI 45) (fun hx hf => ?_) (fun e31_45 hf => ?_) hf
      · refine zs_look (tgt := 88) (off := 57) hC dX4_isDoneTo_31 (by decide) (by rw [hx]; first | done | decide) (by decide) ?_
        refine zs_al hC dX4_isDoneTo_88 rfl ?_
        refine zs_getR (h1 + 1) hC fl_RX4_73 (zSt0 hh1) rfl dX4_isDoneTo_89 ?_
        refine zs_il hC dX4_isDoneTo_92 rfl ?_
        refine zs_dup2 hC dX4_isDoneTo_93 rfl rfl ?_
        refine zs_iald hC (zSt1 hh1) dX4_isDoneTo_94 (fun _ hf => ?_) hf
        refine zs_k hC dX4_isDoneTo_95 ?_
        refine zs_il hC dX4_isDoneTo_96 rfl ?_
        refine zs_ishl hC dX4_isDoneTo_98 ?_
        refine zs_k hC dX4_isDoneTo_99 ?_
        refine zs_ixor hC dX4_isDoneTo_100 ?_
        refine zs_iand hC dX4_isDoneTo_101 ?_
        refine zs_iast hC (zSt1 hh1) dX4_isDoneTo_102 (fun _ hf => ?_) hf
        refine zs_let (fun m8 _ hf => ?_) hf
        refine zs_goto hC dX4_isDoneTo_103 ?_
        refine zs_iinc (nI 1) hC dX4_isDoneTo_157 (by decide) rfl (by decide) rfl ?_
        refine zs_goto hC dX4_isDoneTo_160 ?_
        exact zAW.weak (ih _ _ hf) (zLw_s (zLw_s (zLw_s (zLw_n (zLw_n zLw_0)))))
      refine zs_case (nI 61) (fun hx hf => ?_) (fun e31_61 hf => ?_) hf
      · refine zs_look (tgt := 125) (off := 94) hC dX4_isDoneTo_31 (by decide) (by rw [hx]; first | done | decide) (by decide) ?_
        refine zs_al hC dX4_isDoneTo_125 rfl ?_
        refine zs_getR (h1 + 2) hC fl_RX4_78 (zSt0 hh1) rfl dX4_isDoneTo_126 ?_
        refine zs_il hC dX4_isDoneTo_129 rfl ?_
        refine zs_il hC dX4_isDoneTo_130 rfl ?_
        refine zs_iast hC (zSt2 hh1) dX4_isDoneTo_132 (fun _ hf => ?_) hf
        refine zs_let (fun m10 _ hf => ?_) hf
        refine zs_goto hC dX4_isDoneTo_133 ?_
        refine zs_iinc (nI 1) hC dX4_isDoneTo_157 (by decide) rfl (by decide) rfl ?_
        refine zs_goto hC dX4_isDoneTo_160 ?_
        exact zAW.weak (ih _ _ hf) (zLw_s (zLw_s (zLw_s (zLw_n (zLw_n zLw_0)))))
      refine zs_case (nI 62) (fun hx hf => ?_) (fun e31_62 hf => ?_) hf
      · refine zs_look (tgt := 106) (off := 75) hC dX4_isDoneTo_31 (by decide) (by rw [hx]; first | done | decide) (by decide) ?_
        refine zs_al hC dX4_isDoneTo_106 rfl ?_
        refine zs_getR (h1 + 1) hC fl_RX4_73 (zSt0 hh1) rfl dX4_isDoneTo_107 ?_
        refine zs_il hC dX4_isDoneTo_110 rfl ?_
        refine zs_dup2 hC dX4_isDoneTo_112 rfl rfl ?_
        refine zs_iald hC (zSt1 hh1) dX4_isDoneTo_113 (fun _ hf => ?_) hf
        refine zs_al hC dX4_isDoneTo_114 rfl ?_
        refine zs_getR (h1 + 1) hC fl_RX4_73 (zSt0 hh1) rfl dX4_isDoneTo_115 ?_
        refine zs_il hC dX4_isDoneTo_118 rfl ?_
        refine zs_iald hC (zSt1 hh1) dX4_isDoneTo_119 (fun _ hf => ?_) hf
        refine zs_ior hC dX4_isDoneTo_120 ?_
        refine zs_iast hC (zSt1 hh1) dX4_isDoneTo_121 (fun _ hf => ?_) hf
        refine zs_let (fun m13 _ hf => ?_) hf
        refine zs_goto hC dX4_isDoneTo_122 ?_
        refine zs_iinc (nI 1) hC dX4_isDoneTo_157 (by decide) rfl (by decide) rfl ?_
        refine zs_goto hC dX4_isDoneTo_160 ?_
        exact zAW.weak (ih _ _ hf) (zLw_s (zLw_s (zLw_s (zLw_n (zLw_n zLw_0)))))
      refine zs_look (tgt := 136) (off := 105) hC dX4_isDoneTo_31 (by decide) (by show Op.lookupswitch.offset [(43, 41), (45, 57), (61, 94), (62, 75)] 105 _ = _; rw [lv_osw (a := 43) e31_43 (by decide), lv_osw (a := 45) e31_45 (by decide), lv_osw (a := 61) e31_61 (by decide), lv_osw (a := 62) e31_62 (by decide)]; rfl) (by decide) ?_
      refine zs_al hC dX4_isDoneTo_136 rfl ?_
      refine zs_il hC dX4_isDoneTo_137 rfl ?_
      refine zs_al hC dX4_isDoneTo_138 rfl ?_
      refine zs_getR 38 hC fl_RX4_15 zL36 rfl dX4_isDoneTo_139 ?_
      refine zs_il hC dX4_isDoneTo_142 rfl ?_
      refine zs_iald hC zL38 dX4_isDoneTo_143 (fun _ hf => ?_) hf
      refine zs_k hC dX4_isDoneTo_144 ?_
      refine zs_ic_ne hC dX4_isDoneTo_146 (fun _ hf => ?_) (fun _ hf => ?_) hf
      · refine zs_k hC dX4_isDoneTo_149 ?_
        refine zs_goto hC dX4_isDoneTo_150 ?_
        refine zs_callV [.int (μ 37 v2.toNatClampNeg), .int (nI 1)] hC cw_X8_reads cl_RX4_81 (zSt0 hh1) rfl (by decide) rfl rfl (Nat.le_of_ble_eq_true rfl) dX4_isDoneTo_154 (fun _ h => ctX8_reads (hh1) h) (fun r15 m15 _ hf => ?_) hf
        show zAW X 157 _ _ m15
        refine zs_iinc (nI 1) hC dX4_isDoneTo_157 (by decide) rfl (by decide) rfl ?_
        refine zs_goto hC dX4_isDoneTo_160 ?_
        exact zAW.weak (ih _ _ hf) (zLw_s (zLw_s (zLw_s (zLw_n (zLw_n zLw_0)))))
      · refine zs_k hC dX4_isDoneTo_153 ?_
        refine zs_callV [.int (μ 37 v2.toNatClampNeg), .int (nI 0)] hC cw_X8_reads cl_RX4_81 (zSt0 hh1) rfl (by decide) rfl rfl (Nat.le_of_ble_eq_true rfl) dX4_isDoneTo_154 (fun _ h => ctX8_reads (hh1) h) (fun r16 m16 _ hf => ?_) hf
        show zAW X 157 _ _ m16
        refine zs_iinc (nI 1) hC dX4_isDoneTo_157 (by decide) rfl (by decide) rfl ?_
        refine zs_goto hC dX4_isDoneTo_160 ?_
        exact zAW.weak (ih _ _ hf) (zLw_s (zLw_s (zLw_s (zLw_n (zLw_n zLw_0)))))
set_option maxRecDepth 20000 in
set_option maxHeartbeats 4000000 in
theorem wX4_isDoneTo {X : zX} {F h1 : Nat} (hC : zCx X RX4 cX4_isDoneTo 5 1) (hh1 : zIsSt h1 = true) (hret : zRt X none) {μ : zMem} (hf : fX4_isDoneTo F h1 μ = some (zOut X)) : zAW X 0 [some (.ref 36), some (.ref h1), none, none, none] [] μ := by
  unfold fX4_isDoneTo at hf
  refine zs_k hC dX4_isDoneTo_0 ?_
  refine zs_is hC dX4_isDoneTo_1 (by decide) rfl ?_
  exact zAW.weak (wX4_isDoneTo_2 hC hh1 hret F _ _ hf) (zLw_s (zLw_s (zLw_s (zLw_n (zLw_n zLw_0)))))
set_option maxRecDepth 20000 in
set_option maxHeartbeats 4000000 in
theorem ctX4_isDoneTo {E : zEV} {F : Nat} {h1 : Nat} {μ : zMem} {out : zR} (hh1 : zIsSt h1 = true) (hf : fX4_isDoneTo F h1 μ = some out) : zCt E yX4_isDoneTo cX4_isDoneTo 5 none 1 [.ref 36, .ref h1] μ out :=
  zCt.of [some (.ref 36), some (.ref h1), none, none, none] (by decide +kernel) (Nat.le_of_ble_eq_true rfl) (zLw_s (zLw_s (zLw_e (zLw_e (zLw_e zLw_0))))) rfl (fun X hE ho hr hC => by
    subst hE; subst ho
    exact wX4_isDoneTo hC hh1 hr hf)
/-! X5_clears -/
def fX5_clears (F : Nat) (h0 : Nat) (μ : zMem) : Option zR :=
  zLt (zUp μ h0 6 (nI 0)) (fun m1 => zLt (zUp m1 h0 7 (nI 0)) (fun m2 => some ((nI 0), m2)))
set_option maxRecDepth 20000 in
set_option maxHeartbeats 4000000 in
theorem wX5_clears {X : zX} {F h0 : Nat} (hC : zCx X RX5 cX5_clears 1 0) (hh0 : zIsLw h0 = true) (hret : zRt X none) {μ : zMem} (hf : fX5_clears F h0 μ = some (zOut X)) : zAW X 0 [some (.ref h0)] [] μ := by
  unfold fX5_clears at hf
  refine zs_al hC dX5_clears_0 rfl ?_
  refine zs_k hC dX5_clears_1 ?_
  refine zs_putI hC fl_RX5_30 fp_5_6 (zLw0 hh0) rfl dX5_clears_2 ?_
  refine zs_let (fun m1 _ hf => ?_) hf
  refine zs_al hC dX5_clears_5 rfl ?_
  refine zs_k hC dX5_clears_6 ?_
  refine zs_putI hC fl_RX5_34 fp_5_7 (zLw0 hh0) rfl dX5_clears_7 ?_
  refine zs_let (fun m2 _ hf => ?_) hf
  exact zs_vret hC hret dX5_clears_10 hf
set_option maxRecDepth 20000 in
set_option maxHeartbeats 4000000 in
theorem ctX5_clears {E : zEV} {F : Nat} {h0 : Nat} {μ : zMem} {out : zR} (hh0 : zIsLw h0 = true) (hf : fX5_clears F h0 μ = some out) : zCt E yX5_clears cX5_clears 1 none 0 [.ref h0] μ out :=
  zCt.of [some (.ref h0)] (by decide +kernel) (Nat.le_of_ble_eq_true rfl) (zLw_s zLw_0) rfl (fun X hE ho hr hC => by
    subst hE; subst ho
    exact wX5_clears hC hh0 hr hf)
/-! X5_puts -/
def fX5_puts (F : Nat) (h0 : Nat) (v1 : Int32) (v2 : Int32) (μ : zMem) : Option zR :=
  if (μ h0 6) < (nI 240) then zG (μ h0 6) 240 (zLt (zUp μ (h0 + 1) (μ h0 6).toNatClampNeg v1) (fun m4 => zG (m4 h0 6) 240 (zLt (zUp m4 (h0 + 2) (m4 h0 6).toNatClampNeg v2) (fun m7 => zLt (zUp m7 h0 6 ((m7 h0 6) + (nI 1))) (fun m9 => some (((m9 h0 6) - (nI 1)), m9)))))) else some ((-1 : Int32), μ)
set_option maxRecDepth 20000 in
set_option maxHeartbeats 4000000 in
theorem wX5_puts {X : zX} {F h0 : Nat} (hC : zCx X RX5 cX5_puts 3 0) (hh0 : zIsLw h0 = true) (hret : zRt X (some .int)) {v1 : Int32} {v2 : Int32} {μ : zMem} (hf : fX5_puts F h0 v1 v2 μ = some (zOut X)) : zAW X 0 [some (.ref h0), some (.int v1), some (.int v2)] [] μ := by
  unfold fX5_puts at hf
  refine zs_al hC dX5_puts_0 rfl ?_
  refine zs_getI hC fl_RX5_30 (zLw0 hh0) rfl dX5_puts_1 ?_
  refine zs_k hC dX5_puts_4 ?_
  refine zs_ic_lt hC dX5_puts_7 (fun _ hf => ?_) (fun _ hf => ?_) hf
  · refine zs_al hC dX5_puts_12 rfl ?_
    refine zs_getR (h0 + 1) hC fl_RX5_9 (zLw0 hh0) rfl dX5_puts_13 ?_
    refine zs_al hC dX5_puts_16 rfl ?_
    refine zs_getI hC fl_RX5_30 (zLw0 hh0) rfl dX5_puts_17 ?_
    refine zs_il hC dX5_puts_20 rfl ?_
    refine zs_iast hC (zLw1 hh0) dX5_puts_21 (fun _ hf => ?_) hf
    refine zs_let (fun m4 _ hf => ?_) hf
    refine zs_al hC dX5_puts_22 rfl ?_
    refine zs_getR (h0 + 2) hC fl_RX5_15 (zLw0 hh0) rfl dX5_puts_23 ?_
    refine zs_al hC dX5_puts_26 rfl ?_
    refine zs_getI hC fl_RX5_30 (zLw0 hh0) rfl dX5_puts_27 ?_
    refine zs_il hC dX5_puts_30 rfl ?_
    refine zs_iast hC (zLw2 hh0) dX5_puts_31 (fun _ hf => ?_) hf
    refine zs_let (fun m7 _ hf => ?_) hf
    refine zs_al hC dX5_puts_32 rfl ?_
    refine zs_dup hC dX5_puts_33 rfl ?_
    refine zs_getI hC fl_RX5_30 (zLw0 hh0) rfl dX5_puts_34 ?_
    refine zs_k hC dX5_puts_37 ?_
    refine zs_iadd hC dX5_puts_38 ?_
    refine zs_putI hC fl_RX5_30 fp_5_6 (zLw0 hh0) rfl dX5_puts_39 ?_
    refine zs_let (fun m9 _ hf => ?_) hf
    refine zs_al hC dX5_puts_42 rfl ?_
    refine zs_getI hC fl_RX5_30 (zLw0 hh0) rfl dX5_puts_43 ?_
    refine zs_k hC dX5_puts_46 ?_
    refine zs_isub hC dX5_puts_47 ?_
    exact zs_iret hC hret dX5_puts_48 hf
  · refine zs_k hC dX5_puts_10 ?_
    exact zs_iret hC hret dX5_puts_11 hf
set_option maxRecDepth 20000 in
set_option maxHeartbeats 4000000 in
theorem ctX5_puts {E : zEV} {F : Nat} {h0 : Nat} {v1 : Int32} {v2 : Int32} {μ : zMem} {out : zR} (hh0 : zIsLw h0 = true) (hf : fX5_puts F h0 v1 v2 μ = some out) : zCt E yX5_puts cX5_puts 3 (some .int) 0 [.ref h0, .int v1, .int v2] μ out :=
  zCt.of [some (.ref h0), some (.int v1), some (.int v2)] (by decide +kernel) (Nat.le_of_ble_eq_true rfl) (zLw_s (zLw_s (zLw_s zLw_0))) rfl (fun X hE ho hr hC => by
    subst hE; subst ho
    exact wX5_puts hC hh0 hr hf)
