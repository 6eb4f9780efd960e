/-! ===== what the law says ===== -/
def yLw (l : zLS) (h : Nat) (μ : zMem) : Prop := μ h 7 = nI (lR l) ∧ (∀ r, r < lR l → μ (h + 3) r = nI (lK l r) ∧ μ (h + 4) r = nI (lV l r) ∧ μ (h + 5) r = nI (lT l r) ∧ μ (h + 6) r = nI (lE l r)) ∧ yLC l h μ
theorem yLw.of {l : zLS} {h : Nat} {μ μ1 : zMem} (hl : yLw l h μ) (e : ∀ c, h ≤ c → c ≤ h + 6 → μ1 c = μ c) : yLw l h μ1 := by
  unfold yLw yLC
  rw [e h (by omega) (by omega), e (h + 1) (by omega) (by omega), e (h + 2) (by omega) (by omega), e (h + 3) (by omega) (by omega), e (h + 4) (by omega) (by omega), e (h + 5) (by omega) (by omega), e (h + 6) (by omega) (by omega)]
  exact hl
theorem yLw.get {l : zLS} {μ : zMem} (h : zLawC l μ) : ∃ a, (a = 19 ∨ a = 26) ∧ zIsLw a = true ∧ μ 18 0 = nI a ∧ yLw l a μ := by
  obtain ⟨a, h1, h2, h3, h4, h5, h6⟩ := h
  exact ⟨a, zIsLw_or h1, h1, h2, h4, h5, h6⟩
def yCl (x : Int32) (most : Nat) : Nat := if x < 0 then 0 else min x.toNatClampNeg most
theorem yCl_le (x : Int32) (most : Nat) : yCl x most ≤ most := by
  unfold yCl
  split
  · omega
  · exact Nat.min_le_right _ _
theorem e_clampC {F most : Nat} {x : Int32} {μ : zMem} (hm : most < 2 ^ 31) : zBd (fJ9_min_7cf53 F x (nI most) μ) (fun r9 m9 => zBd (fJ9_max_7cf53 F (nI 0) r9 m9) (fun r10 m10 => some (r10, m10))) = some (nI (yCl x most), μ) := by
  unfold yCl
  by_cases hx : x < 0
  · have h1 : ¬ nI most < x := fun z => by
      have e1 := Int32.lt_iff_toInt_lt.mp z
      have e2 := Int32.lt_iff_toInt_lt.mp hx
      rw [nI_toInt hm] at e1
      simp at e2
      omega
    have h2 : ¬ nI 0 < x := fun z => by
      have e1 := Int32.lt_iff_toInt_lt.mp z
      have e2 := Int32.lt_iff_toInt_lt.mp hx
      rw [nI_toInt (by decide)] at e1
      simp at e2
      omega
    unfold fJ9_min_7cf53 fJ9_max_7cf53
    rw [if_neg h1, zBd_s, if_neg h2, zBd_s, if_pos hx]
  · obtain ⟨j, hj, rfl⟩ := nI_of hx
    rw [e_min hj hm, zBd_s, e_max (by decide) (by omega), zBd_s, if_neg hx, nI_clamp hj, Nat.zero_max]
theorem e_clampM {most : Nat} {x : Int32} {μ : zMem} (hm : most < 2 ^ 31) : (if 0 ≤ x then if x ≤ nI most then some (x, μ) else some (nI most, μ) else some (nI 0, μ) : Option zR) = some (nI (yCl x most), μ) := by
  unfold yCl
  by_cases hx : x < 0
  · rw [if_neg (Int32.not_le.mpr hx), if_pos hx]
  · rw [if_pos (Int32.not_lt.mp hx), if_neg hx]
    obtain ⟨j, hj, rfl⟩ := nI_of hx
    rw [nI_clamp hj]
    by_cases h : j ≤ most
    · rw [if_pos ((nI_leI hj hm).mpr h), Nat.min_eq_left h]
    · rw [if_neg (fun z => h ((nI_leI hj hm).mp z)), Nat.min_eq_right (by omega)]
/-- the test of a rule -/
theorem rule_T {l : zLS} (fv : Nat → Int32) (hw : zWFL l) {q : Nat} (hq : q < lR l) : ∃ b : Bool, (∀ (F h : Nat) (μ : zMem), 300 ≤ F → (h = 19 ∨ h = 26) → yLw l h μ → (∀ j, j < 9 → μ 34 j = fv j) → ∃ μ1, fX10_reckoned F h (nI (lT l q)) (nI (lE l q)) μ = some (zB b, μ1) ∧ ∀ c, c ≠ 35 → μ1 c = μ c) ∧ ∀ (F : Nat) (μ : zMem), 300 ≤ F → zLawM l μ → (∀ j, j < 9 → μ 81 j = fv j) → ∃ μ1, fX12_reckonsTo F (nI (lT l q)) (nI (lE l q)) μ = some (zB b, μ1) ∧ ∀ c, c ≠ 80 → μ1 c = μ c := by
  obtain ⟨h1, h2, h3, h4⟩ := hw.2.2 q hq
  obtain ⟨g1, g2, r, hr, s⟩ := seg_T (fv := fv) hw.2.1 h3
  obtain ⟨k1, k2⟩ := seg_run hw.2.1 h2 g1 s
  have hb : ∃ b, r.getD (nI 0) = zB b := by
    cases r with
    | none => exact ⟨false, rfl⟩
    | some v => exact (hr v rfl).elim (fun e => ⟨false, e⟩) (fun e => ⟨true, e⟩)
  obtain ⟨b, hb⟩ := hb
  rw [hb] at k1 k2
  exact ⟨b, fun F h μ hF hh hl hf => k1 F h μ hF hh hl.2.2 hf, fun F μ hF hl hf => k2 F μ hF hl.2.2 hf⟩
/-- the value of a rule -/
theorem rule_V {l : zLS} (fv : Nat → Int32) (hw : zWFL l) {q : Nat} (hq : q < lR l) (hk : lK l q ≠ 114) : ∃ x : Int32, (∀ (F h : Nat) (μ : zMem), 300 ≤ F → (h = 19 ∨ h = 26) → yLw l h μ → (∀ j, j < 9 → μ 34 j = fv j) → ∃ μ1, fX10_reckoned F h (nI (lV l q)) (nI (lT l q)) μ = some (x, μ1) ∧ ∀ c, c ≠ 35 → μ1 c = μ c) ∧ ∀ (F : Nat) (μ : zMem), 300 ≤ F → zLawM l μ → (∀ j, j < 9 → μ 81 j = fv j) → ∃ μ1, fX12_reckonsTo F (nI (lV l q)) (nI (lT l q)) μ = some (x, μ1) ∧ ∀ c, c ≠ 80 → μ1 c = μ c := by
  obtain ⟨h1, h2, h3, h4⟩ := hw.2.2 q hq
  obtain ⟨t1, -⟩ := seg_T (fv := fv) hw.2.1 h3
  obtain ⟨g1, g2, r, s⟩ := seg_V (fv := fv) hw.2.1 (h4 hk)
  obtain ⟨k1, k2⟩ := seg_run hw.2.1 (by omega) g1 s
  exact ⟨_, fun F h μ hF hh hl hf => k1 F h μ hF hh hl.2.2 hf, fun F μ hF hl hf => k2 F μ hF hl.2.2 hf⟩
theorem ask_k {l : zLS} (fv : Nat → Int32) (hw : zWFL l) {kind most : Nat} (hk : kind = 101 ∨ kind = 104 ∨ kind = 109) (hm : most ≤ 9999) : ∀ m k, k + m = lR l → ∃ v, v ≤ most ∧ (∀ (F h f : Nat) (μ : zMem), 300 ≤ F → m < f → (h = 19 ∨ h = 26) → yLw l h μ → (∀ j, j < 9 → μ 34 j = fv j) → ∃ μ1, fX10_asked_3 F h f (nI kind) (nI most) (nI k) μ = some (nI v, μ1) ∧ ∀ c, c ≠ 35 → μ1 c = μ c) ∧ ∀ (F f : Nat) (μ : zMem), 300 ≤ F → m < f → zLawM l μ → (∀ j, j < 9 → μ 81 j = fv j) → ∃ μ1, fX12_byLaw_2 F f (nI kind) (nI most) (nI k) μ = some (nI v, μ1) ∧ ∀ c, c ≠ 80 → μ1 c = μ c := by
  intro m
  have hR := hw.1
  induction m with
  | zero =>
    intro k hkm
    refine ⟨0, by omega, fun F h f μ hF hf hh hl _ => ⟨μ, ?_, fun _ _ => rfl⟩, fun F f μ hF hf hl _ => ⟨μ, ?_, fun _ _ => rfl⟩⟩
    · obtain ⟨f, rfl⟩ := z_s hf
      rw [fX10_asked_3, hl.1, z_done (by omega) (by omega)]
    · obtain ⟨f, rfl⟩ := z_s hf
      rw [fX12_byLaw_2, hl.1, z_done (by omega) (by omega)]
  | succ m ih =>
    intro k hkm
    obtain ⟨v, hv, i1, i2⟩ := ih (k + 1) (by omega)
    have hkk : lK l k < 256 := by have := (hw.2.2 k (by omega)).1; omega
    by_cases hK : lK l k = kind
    · obtain ⟨b, t1, t2⟩ := rule_T fv hw (q := k) (by omega)
      cases b with
      | false =>
        refine ⟨v, hv, fun F h f μ hF hf hh hl hfa => ?_, fun F f μ hF hf hl hfa => ?_⟩
        · obtain ⟨f, rfl⟩ := z_s hf
          obtain ⟨a1, a2, a3, a4⟩ := hl.2.1 k (by omega)
          obtain ⟨μ1, b1, b2⟩ := t1 F h μ hF hh hl hfa
          obtain ⟨μ2, c1, c2⟩ := i1 F h f μ1 hF (by omega) hh (hl.of (fun c h1 h2 => b2 c (by omega))) (fun j hj => by rw [b2 34 (by decide)]; exact hfa j hj)
          refine ⟨μ2, ?_, fun c hc => by rw [c2 c hc, b2 c hc]⟩
          rw [fX10_asked_3, hl.1, z_more (by omega) (by omega), zG_in rfl (by omega) (by decide), nI_clamp (by omega), a1, if_pos (by rw [hK]), zG_in rfl (by omega) (by decide), zG_in rfl (by omega) (by decide), a3, a4, b1, zBd_s, z_bf, nI_add]
          exact c1
        · obtain ⟨f, rfl⟩ := z_s hf
          obtain ⟨a1, a2, a3, a4⟩ := hl.2.1 k (by omega)
          obtain ⟨μ1, b1, b2⟩ := t2 F μ hF hl hfa
          obtain ⟨μ2, c1, c2⟩ := i2 F f μ1 hF (by omega) (hl.of (by rw [b2 60 (by decide)]) (fun c h1 h2 => b2 c (by omega))) (fun j hj => by rw [b2 81 (by decide)]; exact hfa j hj)
          refine ⟨μ2, ?_, fun c hc => by rw [c2 c hc, b2 c hc]⟩
          rw [fX12_byLaw_2, hl.1, z_more (by omega) (by omega), zG_in rfl (by omega) (by decide), nI_clamp (by omega), a1, if_pos (by rw [hK]), zG_in rfl (by omega) (by decide), zG_in rfl (by omega) (by decide), a3, a4, b1, zBd_s, if_neg (by decide), nI_add]
          exact c1
      | true =>
        obtain ⟨x, u1, u2⟩ := rule_V fv hw (q := k) (by omega) (by omega)
        refine ⟨yCl x most, yCl_le _ _, fun F h f μ hF hf hh hl hfa => ?_, fun F f μ hF hf hl hfa => ?_⟩
        · obtain ⟨f, rfl⟩ := z_s hf
          obtain ⟨a1, a2, a3, a4⟩ := hl.2.1 k (by omega)
          obtain ⟨μ1, b1, b2⟩ := t1 F h μ hF hh hl hfa
          have hl1 : yLw l h μ1 := hl.of (fun c h1 h2 => b2 c (by omega))
          obtain ⟨a1', a2', a3', a4'⟩ := hl1.2.1 k (by omega)
          obtain ⟨μ2, c1, c2⟩ := u1 F h μ1 hF hh hl1 (fun j hj => by rw [b2 34 (by decide)]; exact hfa j hj)
          refine ⟨μ2, ?_, fun c hc => by rw [c2 c hc, b2 c hc]⟩
          rw [fX10_asked_3, hl.1, z_more (by omega) (by omega), zG_in rfl (by omega) (by decide), nI_clamp (by omega), a1, if_pos (by rw [hK]), zG_in rfl (by omega) (by decide), zG_in rfl (by omega) (by decide), a3, a4, b1, zBd_s, z_bt, zG_in rfl (by omega) (by decide), zG_in rfl (by omega) (by decide), a2', a3', c1, zBd_s, e_clampC (by omega)]
        · obtain ⟨f, rfl⟩ := z_s hf
          obtain ⟨a1, a2, a3, a4⟩ := hl.2.1 k (by omega)
          obtain ⟨μ1, b1, b2⟩ := t2 F μ hF hl hfa
          have hl1 : zLawM l μ1 := hl.of (by rw [b2 60 (by decide)]) (fun c h1 h2 => b2 c (by omega))
          obtain ⟨a1', a2', a3', a4'⟩ := hl1.2.1 k (by omega)
          obtain ⟨μ2, c1, c2⟩ := u2 F μ1 hF hl1 (fun j hj => by rw [b2 81 (by decide)]; exact hfa j hj)
          refine ⟨μ2, ?_, fun c hc => by rw [c2 c hc, b2 c hc]⟩
          rw [fX12_byLaw_2, hl.1, z_more (by omega) (by omega), zG_in rfl (by omega) (by decide), nI_clamp (by omega), a1, if_pos (by rw [hK]), zG_in rfl (by omega) (by decide), zG_in rfl (by omega) (by decide), a3, a4, b1, zBd_s, if_pos (by decide), zG_in rfl (by omega) (by decide), zG_in rfl (by omega) (by decide), a2', a3', c1, zBd_s, e_clampM (by omega)]
    · have hne : ¬ nI (lK l k) = nI kind := fun z => hK ((nI_eq (by omega) (by omega)).mp z)
      refine ⟨v, hv, fun F h f μ hF hf hh hl hfa => ?_, fun F f μ hF hf hl hfa => ?_⟩
      · obtain ⟨f, rfl⟩ := z_s hf
        obtain ⟨a1, a2, a3, a4⟩ := hl.2.1 k (by omega)
        rw [fX10_asked_3, hl.1, z_more (by omega) (by omega), zG_in rfl (by omega) (by decide), nI_clamp (by omega), a1, if_neg hne, nI_add]
        exact i1 F h f μ hF (by omega) hh hl hfa
      · obtain ⟨f, rfl⟩ := z_s hf
        obtain ⟨a1, a2, a3, a4⟩ := hl.2.1 k (by omega)
        rw [fX12_byLaw_2, hl.1, z_more (by omega) (by omega), zG_in rfl (by omega) (by decide), nI_clamp (by omega), a1, if_neg hne, nI_add]
        exact i2 F f μ hF (by omega) hl hfa
theorem ask_ex {l : zLS} (fv : Nat → Int32) (hw : zWFL l) {kind most : Nat} (hk : kind = 101 ∨ kind = 104 ∨ kind = 109) (hm : most ≤ 9999) : ∃ v, v ≤ most ∧ (∀ (F h : Nat) (μ : zMem), 300 ≤ F → (h = 19 ∨ h = 26) → yLw l h μ → (∀ j, j < 9 → μ 34 j = fv j) → ∃ μ1, fX10_asked F h (nI kind) (nI most) μ = some (nI v, μ1) ∧ ∀ c, c ≠ 35 → μ1 c = μ c) ∧ ∀ (F : Nat) (μ : zMem), 300 ≤ F → zLawM l μ → (∀ j, j < 9 → μ 81 j = fv j) → ∃ μ1, fX12_byLaw F (nI kind) (nI most) μ = some (nI v, μ1) ∧ ∀ c, c ≠ 80 → μ1 c = μ c := by
  obtain ⟨v, h1, h2, h3⟩ := ask_k fv hw hk hm (lR l) 0 (by omega)
  have := hw.1
  exact ⟨v, h1, fun F h μ hF hh hl hf => h2 F h F μ hF (by omega) hh hl hf, fun F μ hF hl hf => h3 F F μ hF (by omega) hl hf⟩
def yHas (l : zLS) : Nat → Nat → Bool
  | 0, _ => false
  | m + 1, k => lK l k == 114 || yHas l m (k + 1)
theorem e_hasKind_2 {F h : Nat} {l : zLS} {μ : zMem} (hw : zWFL l) (hl : yLw l h μ) : ∀ m k f, k + m = lR l → m < f → fX5_hasKind_2 F h f (nI 114) (nI k) μ = some (zB (yHas l m k), μ) := by
  intro m
  have hR := hw.1
  induction m with
  | zero =>
    intro k f hk hf
    obtain ⟨f, rfl⟩ := z_s hf
    rw [fX5_hasKind_2, hl.1, z_done (by omega) (by omega)]
    rfl
  | succ m ih =>
    intro k f hk hf
    obtain ⟨f, rfl⟩ := z_s hf
    obtain ⟨a1, a2, a3, a4⟩ := hl.2.1 k (by omega)
    have hkk : lK l k < 256 := by have := (hw.2.2 k (by omega)).1; omega
    rw [fX5_hasKind_2, hl.1, z_more (by omega) (by omega), zG_in rfl (by omega) (by decide), nI_clamp (by omega), a1, nI_add]
    show _ = some (zB (lK l k == 114 || yHas l m (k + 1)), μ)
    by_cases hK : lK l k = 114
    · rw [if_pos (by rw [hK]), hK]; rfl
    · rw [if_neg (fun z => hK ((nI_eq (by omega) (by omega)).mp z)), ih (k + 1) f (by omega) (by omega), beq_false_of_ne hK, Bool.false_or]
theorem any_k {l : zLS} (fv : Nat → Int32) (hw : zWFL l) : ∀ m k, k + m = lR l → ∃ b : Bool, (∀ (F h f : Nat) (μ : zMem), 300 ≤ F → m < f → (h = 19 ∨ h = 26) → yLw l h μ → (∀ j, j < 9 → μ 34 j = fv j) → ∃ μ1, fX10_holdsAny_2 F h f (nI k) μ = some (zB b, μ1) ∧ ∀ c, c ≠ 35 → μ1 c = μ c) ∧ ∀ (F f : Nat) (n0 : Bool) (μ : zMem), 300 ≤ F → m < f → zLawM l μ → (∀ j, j < 9 → μ 81 j = fv j) → ∃ μ1, fX12_holdsAnyOrNone_4 F f (nI 114) (zB n0) (nI k) μ = some (zB (b || (n0 && !yHas l m k)), μ1) ∧ ∀ c, c ≠ 80 → μ1 c = μ c := by
  intro m
  have hR := hw.1
  induction m with
  | zero =>
    intro k hkm
    refine ⟨false, fun F h f μ hF hf hh hl _ => ⟨μ, ?_, fun _ _ => rfl⟩, fun F f n0 μ hF hf hl _ => ⟨μ, ?_, fun _ _ => rfl⟩⟩
    · obtain ⟨f, rfl⟩ := z_s hf
      rw [fX10_holdsAny_2, hl.1, z_done (by omega) (by omega)]
      rfl
    · obtain ⟨f, rfl⟩ := z_s hf
      rw [fX12_holdsAnyOrNone_4, hl.1, z_done (by omega) (by omega), e_gb01]
      cases n0 <;> rfl
  | succ m ih =>
    intro k hkm
    obtain ⟨b0, i1, i2⟩ := ih (k + 1) (by omega)
    have hkk : lK l k < 256 := by have := (hw.2.2 k (by omega)).1; omega
    by_cases hK : lK l k = 114
    · have hh1 : yHas l (m + 1) k = true := by show (lK l k == 114 || yHas l m (k + 1)) = true; rw [hK]; rfl
      obtain ⟨b, t1, t2⟩ := rule_T fv hw (q := k) (by omega)
      cases b with
      | false =>
        refine ⟨b0, fun F h f μ hF hf hh hl hfa => ?_, fun F f n0 μ hF hf hl hfa => ?_⟩
        · obtain ⟨f, rfl⟩ := z_s hf
          obtain ⟨a1, a2, a3, a4⟩ := hl.2.1 k (by omega)
          obtain ⟨μ1, b1, b2⟩ := t1 F h μ hF hh hl hfa
          obtain ⟨μ2, c1, c2⟩ := i1 F h f μ1 hF (by omega) hh (hl.of (fun c h1 h2 => b2 c (by omega))) (fun j hj => by rw [b2 34 (by decide)]; exact hfa j hj)
          refine ⟨μ2, ?_, fun c hc => by rw [c2 c hc, b2 c hc]⟩
          rw [fX10_holdsAny_2, hl.1, z_more (by omega) (by omega), zG_in rfl (by omega) (by decide), nI_clamp (by omega), a1, if_pos (by rw [hK]), zG_in rfl (by omega) (by decide), zG_in rfl (by omega) (by decide), a3, a4, b1, zBd_s, z_bf, nI_add]
          exact c1
        · obtain ⟨f, rfl⟩ := z_s hf
          obtain ⟨a1, a2, a3, a4⟩ := hl.2.1 k (by omega)
          obtain ⟨μ1, b1, b2⟩ := t2 F μ hF hl hfa
          obtain ⟨μ2, c1, c2⟩ := i2 F f false μ1 hF (by omega) (hl.of (by rw [b2 60 (by decide)]) (fun c h1 h2 => b2 c (by omega))) (fun j hj => by rw [b2 81 (by decide)]; exact hfa j hj)
          refine ⟨μ2, ?_, fun c hc => by rw [c2 c hc, b2 c hc]⟩
          rw [fX12_holdsAnyOrNone_4, hl.1, z_more (by omega) (by omega), zG_in rfl (by omega) (by decide), nI_clamp (by omega), a1, if_pos (by rw [hK]), zG_in rfl (by omega) (by decide), zG_in rfl (by omega) (by decide), a3, a4, b1, zBd_s, if_neg (by decide), nI_add, hh1]
          rw [Bool.false_and, Bool.or_false] at c1
          rw [Bool.not_true, Bool.and_false, Bool.or_false]
          exact c1
      | true =>
        refine ⟨true, fun F h f μ hF hf hh hl hfa => ?_, fun F f n0 μ hF hf hl hfa => ?_⟩
        · obtain ⟨f, rfl⟩ := z_s hf
          obtain ⟨a1, a2, a3, a4⟩ := hl.2.1 k (by omega)
          obtain ⟨μ1, b1, b2⟩ := t1 F h μ hF hh hl hfa
          refine ⟨μ1, ?_, b2⟩
          rw [fX10_holdsAny_2, hl.1, z_more (by omega) (by omega), zG_in rfl (by omega) (by decide), nI_clamp (by omega), a1, if_pos (by rw [hK]), zG_in rfl (by omega) (by decide), zG_in rfl (by omega) (by decide), a3, a4, b1, zBd_s, z_bt]
          rfl
        · obtain ⟨f, rfl⟩ := z_s hf
          obtain ⟨a1, a2, a3, a4⟩ := hl.2.1 k (by omega)
          obtain ⟨μ1, b1, b2⟩ := t2 F μ hF hl hfa
          refine ⟨μ1, ?_, b2⟩
          rw [fX12_holdsAnyOrNone_4, hl.1, z_more (by omega) (by omega), zG_in rfl (by omega) (by decide), nI_clamp (by omega), a1, if_pos (by rw [hK]), zG_in rfl (by omega) (by decide), zG_in rfl (by omega) (by decide), a3, a4, b1, zBd_s, if_pos (by decide)]
          rfl
    · have hne : ¬ nI (lK l k) = nI 114 := fun z => hK ((nI_eq (by omega) (by omega)).mp z)
      have hh1 : yHas l (m + 1) k = yHas l m (k + 1) := by show (lK l k == 114 || yHas l m (k + 1)) = _; rw [beq_false_of_ne hK, Bool.false_or]
      refine ⟨b0, fun F h f μ hF hf hh hl hfa => ?_, fun F f n0 μ hF hf hl hfa => ?_⟩
      · obtain ⟨f, rfl⟩ := z_s hf
        obtain ⟨a1, a2, a3, a4⟩ := hl.2.1 k (by omega)
        rw [fX10_holdsAny_2, hl.1, z_more (by omega) (by omega), zG_in rfl (by omega) (by decide), nI_clamp (by omega), a1, if_neg hne, nI_add]
        exact i1 F h f μ hF (by omega) hh hl hfa
      · obtain ⟨f, rfl⟩ := z_s hf
        obtain ⟨a1, a2, a3, a4⟩ := hl.2.1 k (by omega)
        rw [fX12_holdsAnyOrNone_4, hl.1, z_more (by omega) (by omega), zG_in rfl (by omega) (by decide), nI_clamp (by omega), a1, if_neg hne, nI_add, hh1]
        exact i2 F f n0 μ hF (by omega) hl hfa
