theorem zCopyM.up {c : zCS} {μ : zMem} {k j : Nat} {x : Int32} (h : zCopyM c μ) (h1 : k ≠ 60) (h2 : k ≠ 64) (h3 : k ≠ 65) : zCopyM c (zUp μ k j x) := h.of (by rw [zUp_ne (Ne.symm h1)]) (zUp_ne (Ne.symm h2)) (zUp_ne (Ne.symm h3))
theorem e_mSets {F W : Nat} {c : zCS} {μ : zMem} (hF : 70 ≤ F) (hw : zWFC c) (hW1 : 12 ≤ W) (hW : W ≤ 60) (hS0 : zCopyM c μ) : zTo (fX12_setsCopy F (nI W) μ) (fun _ μ1 => zTbM c (zTT c W) 0 μ1 ∧ ∀ d, d ≠ 84 → d ≠ 85 → d ≠ 86 → μ1 d = μ d) := by
  have v1 := hw.1
  have k27 : ∀ i f m, i < f → i ≤ cW c → zCopyM c m → zTbM c (zTT c W) i m → (∀ d, d ≠ 84 → d ≠ 85 → d ≠ 86 → m d = μ d) → zTo (fX12_setsCopy_27 F f (nI W) (nI i + (-1 : Int32)) m) (fun _ μ1 => zTbM c (zTT c W) 0 μ1 ∧ ∀ d, d ≠ 84 → d ≠ 85 → d ≠ 86 → μ1 d = μ d) := by
    intro i
    induction i with
    | zero =>
      intro f m hf hi hS hB hfr
      obtain ⟨f, rfl⟩ := z_s hf
      rw [fX12_setsCopy_27, if_pos (show nI 0 + (-1 : Int32) < 0 by decide)]
      exact zTo_ret ⟨hB, hfr⟩
    | succ i ih =>
      intro f m hf hi hS hB hfr
      obtain ⟨f, rfl⟩ := z_s hf
      have hl := hw.2.1 i hi
      have hT := zTT_b (W := W) hw hW
      rw [nI_sub1, fX12_setsCopy_27, if_neg (nI_nlt0 (by omega)), zG_in rfl (by omega) (by decide), nI_clamp (by omega)]
      refine zTo_let fun m2 h2 => ?_
      have hS2 : zCopyM c m2 := by rw [h2]; exact hS.up (by decide) (by decide) (by decide)
      have hrows : ∀ j, i < j → j ≤ cW c → m2 84 j = nI (zTT c W j).1 ∧ m2 85 j = nI (zTT c W j).2.1 ∧ (j < cW c → m2 86 j = nI ((zTT c W j).2.2 - j)) := fun j j1 j2 => by
        rw [h2, zUp_o (by omega), zUp_ne (by decide), zUp_ne (by decide)]
        exact hB j (by omega) j2
      have h84 : m2 84 i = nI 1000000 := by rw [h2, zUp_s]
      have hfr2 : ∀ d, d ≠ 84 → d ≠ 85 → d ≠ 86 → m2 d = μ d := fun d d1 d2 d3 => by rw [h2, zUp_ne d1, hfr d d1 d2 d3]
      obtain ⟨g, hg⟩ : ∃ g, F = g + 1 := ⟨F - 1, by omega⟩
      have e0 : fX12_setsCopy_45 F (fX12_setsCopy_27 F f) F (nI W) (nI i) (-1 : Int32) (nI 1) m2 = fX12_setsCopy_45 F (fX12_setsCopy_27 F f) (g + 1) (nI W) (nI i) (nI 0 + (-1 : Int32)) (nI 1) m2 := by rw [← hg]; rfl
      rw [e0, fX12_setsCopy_45, hS2.1, nI_add, if_neg (fun z => by have := (nI_ltI (by omega) (by omega)).mp z; omega), pk_sub (by omega), show i + 1 - 1 = i by omega, zG_in rfl (by omega) (by decide), nI_clamp (by omega), hS2.2.1 i hi, nI_wd2, Nat.zero_add, if_pos ((nI_leI (by omega) (by omega)).mpr (by omega)), nI_eqn (by omega) (by omega), pk_sub (by omega)]
      have e98 : ∀ s, s = zFre c W (i + 1) (cL c i) → zTo (fX12_setsCopy_98 F (fX12_setsCopy_27 F f) (fX12_setsCopy_45 F (fX12_setsCopy_27 F f) g) (nI W) (nI i) (nI (cL c i)) (nI 1) (nI s) m2) (fun _ μ1 => zTbM c (zTT c W) 0 μ1 ∧ ∀ d, d ≠ 84 → d ≠ 85 → d ≠ 86 → μ1 d = μ d) := by
        intro s hs
        subst hs
        obtain ⟨t1, t2, -⟩ := hrows (i + 1) (by omega) (by omega)
        have hTn := hT (i + 1) (by omega)
        have hsq := zFre_sq (c := c) (nx := i + 1) (wd := cL c i) hW
        unfold fX12_setsCopy_98 fX12_setsCopy_166
        simp only [nI_add]
        simp only [zG_in (n := 61) (show nI i = nI i from rfl) (by omega) (by decide), zG_in (n := 61) (show nI (i + 1) = nI (i + 1) from rfl) (by omega) (by decide), nI_clamp (show i < 2 ^ 31 by omega), nI_clamp (show i + 1 < 2 ^ 31 by omega), h84, t1, t2, pk_mul, nI_add]
        rw [if_neg (fun z => by have := (nI_ltI (by omega) (by omega)).mp z; omega), if_neg (fun z => by have := (nI_eq (by omega) (by omega)).mp z; omega)]
        have hput := zTbM.put (q := zCan c W (zTT c W) (i + 1) (cL c i)) hi hrows
        rw [show (zCan c W (zTT c W) (i + 1) (cL c i)).2.2 - i = 1 by show i + 1 - i = 1; omega] at hput
        have := e_mS45 (F := F) hw hW hi (zTT c W) (fun j _ hj => hT j hj) (fX12_setsCopy_27 F f) (fun _ μ1 => zTbM c (zTT c W) 0 μ1 ∧ ∀ d, d ≠ 84 → d ≠ 85 → d ≠ 86 → μ1 d = μ d) μ (zRw c W (zTT c W) i) (fun m5 x1 x2 x3 => by
          rw [uT_id hi] at x1
          exact ih f m5 (by omega) (by omega) x2 x1 x3) (cW c - (i + 1)) 2 (cL c i + 1) (zCan c W (zTT c W) (i + 1) (cL c i)) g (zUp (zUp (zUp m2 84 i (nI (zCan c W (zTT c W) (i + 1) (cL c i)).1)) 85 i (nI (zCan c W (zTT c W) (i + 1) (cL c i)).2.1)) 86 i (nI 1)) (by omega) (by omega) (by omega) (by omega) (zCan_gd hW (by omega) (by omega)) rfl (((hS2.up (by decide) (by decide) (by decide)).up (by decide) (by decide) (by decide)).up (by decide) (by decide) (by decide)) hput (fun d d1 d2 d3 => by rw [zUp_ne d3, zUp_ne d2, zUp_ne d1]; exact hfr2 d d1 d2 d3)
        rw [nI_sub1] at this
        exact this
      by_cases hend : i + 1 = cW c
      · rw [if_pos hend]
        exact e98 0 (by unfold zFre; rw [if_pos hend])
      · rw [if_neg hend]
        exact e98 _ (by unfold zFre; rw [if_neg hend])
  unfold fX12_setsCopy
  rw [hS0.1, zG_in rfl (by omega) (by decide), nI_clamp (by omega)]
  refine zTo_let fun m3 h3 => ?_
  have e3 : m3 60 7 = nI (cW c) := by rw [h3, zUp_ne (by decide)]; exact hS0.1
  rw [e3, zG_in rfl (by omega) (by decide), nI_clamp (by omega)]
  refine zTo_let fun m6 h6 => ?_
  have e6 : m6 60 7 = nI (cW c) := by rw [h6, zUp_ne (by decide)]; exact e3
  have hfr : ∀ d, d ≠ 84 → d ≠ 85 → d ≠ 86 → m6 d = μ d := fun d d1 d2 d3 => by rw [h6, zUp_ne d2, h3, zUp_ne d1]
  have es : nI (cW c) - nI 1 = nI (cW c) + (-1 : Int32) := by rw [Int32.sub_eq_add_neg]; rfl
  rw [e6, es]
  refine k27 (cW c) F m6 (by omega) (Nat.le_refl _) (by rw [h6, h3]; exact (hS0.up (by decide) (by decide) (by decide)).up (by decide) (by decide) (by decide)) ?_ hfr
  intro j j1 j2
  have : j = cW c := by omega
  subst this
  rw [zTT_end, h6, zUp_ne (show 84 ≠ 85 by decide), zUp_s, h3, zUp_s]
  exact ⟨rfl, rfl, fun z => by omega⟩
theorem pr_set {F : Nat} (hF : 70 ≤ F) (x w : Int32) : zPair (fX11_set F x w) (fX12_set F x w) := by
  refine zPair.mk fun A μ hW hC => ?_
  cases hz : zIn x 12 60
  · refine ⟨-1, A, μ, ?_, hW, hC, fun _ _ => rfl, fun μ' hM => ⟨μ', ?_, hM, fun _ _ => rfl⟩⟩
    · unfold fX11_set
      rw [e_isWithin, zBd_s, hz, z_bf]
    · unfold fX12_set
      rw [e_in, zBd_s, hz, z_bf]
  · cases hz2 : zIn w 0 2
    · refine ⟨-1, A, μ, ?_, hW, hC, fun _ _ => rfl, fun μ' hM => ⟨μ', ?_, hM, fun _ _ => rfl⟩⟩
      · unfold fX11_set
        rw [e_isWithin, zBd_s, hz, z_bt, e_isWithin, zBd_s, hz2, z_bf]
      · unfold fX12_set
        rw [e_in, zBd_s, hz, z_bt, e_in, zBd_s, hz2, z_bf]
    · obtain ⟨W, hW1, hW2, rfl⟩ := zIn_t (by decide) (by decide) hz
      have hwc := hW.2.2.2.2
      obtain ⟨a, h1, h2, h3, h4, h5⟩ := hC.2.2.2.2.at
      have ha : a = 40 ∨ a = 43 := by rw [h2] at h1; exact zIsCp_or h1
      obtain ⟨r, m, e1, hB, hfr⟩ := e_sets (W := W) hF hwc hW1 hW2 ha ⟨h3, h4⟩
      obtain ⟨b1, b2, b3⟩ := hB 0 (Nat.le_refl _) (Nat.zero_le _)
      refine ⟨if w = 0 then nI (zTT (aC A) W 0).1 else if w = nI 1 then nI (zTT (aC A) W 0).2.1 else nI (zTT (aC A) W 0).2.2, A, m, ?_, hW, rc_scr hC (fun c hc hc2 => hfr c (by omega) (by omega) (by omega)), fun c hc => hfr c (by omega) (by omega) (by omega), fun μ' hM => ?_⟩
      · unfold fX11_set
        rw [e_isWithin, zBd_s, hz, z_bt, e_isWithin, zBd_s, hz2, z_bt, zGb_t h1, h2, e1, zBd_s, zG_in rfl (by decide) (by decide), zG_in rfl (by decide) (by decide), zG_in rfl (by decide) (by decide), nI_clamp (by decide), b1, b2, b3]
        by_cases g0 : w = 0
        · rw [if_pos (show w = nI 0 from g0), if_pos g0]
        · rw [if_neg (show ¬ w = nI 0 from g0), if_neg g0]
          by_cases g1 : w = nI 1
          · rw [if_pos g1, if_pos g1]
          · rw [if_neg g1, if_neg g1]
      · unfold fX12_set
        have hmc := hM.2.2.2.2
        have hwl := hwc.1
        rw [e_in, zBd_s, hz, z_bt, e_in, zBd_s, hz2, z_bt, hmc.1]
        by_cases h0 : cW (aC A) = 0
        · rw [if_pos ((nI_z (by omega)).mpr h0)]
          have e0 := zTT_end (aC A) W
          rw [h0] at e0
          refine ⟨μ', ?_, hM, fun _ _ => rfl⟩
          rw [e0]
          split
          · rfl
          · split <;> rfl
        · rw [if_neg (fun z => h0 ((nI_z (by omega)).mp z))]
          obtain ⟨r, m, e1, hB, hfr⟩ := e_mSets (W := W) hF hwc hW1 hW2 hmc
          obtain ⟨b1, b2, b3⟩ := hB 0 (Nat.le_refl _) (Nat.zero_le _)
          have b3 := b3 (by omega)
          refine ⟨m, ?_, rm_scr hM (fun j hj => by rw [hfr 60 (by decide) (by decide) (by decide)]) (fun c hc => hfr c (by omega) (by omega) (by omega)), fun c hc => hfr c (by omega) (by omega) (by omega)⟩
          rw [e1, zBd_s, zG_in rfl (by decide) (by decide), zG_in rfl (by decide) (by decide), zG_in rfl (by decide) (by decide), nI_clamp (by decide), b1, b2, b3]
          by_cases g0 : w = 0
          · rw [if_pos g0, if_pos g0]
          · rw [if_neg g0, if_neg g0]
            by_cases g1 : w = nI 1
            · rw [if_pos g1, if_pos g1]
            · rw [if_neg g1, if_neg g1]; rfl
/-- the line with a word: from a line's first word on -/
def zLineW (T : Nat → zTr) (i : Nat) : Nat → Nat → Nat → Nat
  | 0, _, ln => ln
  | m + 1, at0, ln => if (T at0).2.2 ≤ i then zLineW T i m (T at0).2.2 (ln + 1) else ln
theorem e_in_m1 {F : Nat} {x : Int32} {μ : zMem} : fX11_isWithin F x (nI 0) (nI 0 - nI 1) μ = some (zB false, μ) ∧ fX12_in F x (nI 0) (nI 0 - nI 1) μ = some (zB false, μ) := by
  unfold fX11_isWithin fX12_in
  by_cases h : x < nI 0
  · rw [if_pos h]; exact ⟨rfl, rfl⟩
  · have h2 : nI 0 - nI 1 < x := by
      rw [show nI 0 - nI 1 = (-1 : Int32) from rfl]
      have h3 : (0 : Int32) ≤ x := Int32.not_lt.mp h
      rw [fa_le] at h3
      rw [fa_lt]
      have e1 : (-1 : Int32).toInt = -1 := by decide
      have e2 : (0 : Int32).toInt = 0 := by decide
      omega
    rw [if_neg h, if_pos h2]
    exact ⟨rfl, rfl⟩
theorem pr_lineOf {F : Nat} (hF : 70 ≤ F) (x y : Int32) : zPair (fX11_lineOf F x y) (fX12_lineOf F x y) := by
  refine zPair.mk fun A μ hW hC => ?_
  have hwc := hW.2.2.2.2
  have hwl := hwc.1
  obtain ⟨a, h1, h2, h3, h4, h5⟩ := hC.2.2.2.2.at
  cases hz : zIn x 12 60
  · refine ⟨-1, A, μ, ?_, hW, hC, fun _ _ => rfl, fun μ' hM => ⟨μ', ?_, hM, fun _ _ => rfl⟩⟩
    · unfold fX11_lineOf
      rw [e_isWithin, zBd_s, hz, z_bf]
    · unfold fX12_lineOf
      rw [e_in, zBd_s, hz, z_bf]
  · by_cases h0 : cW (aC A) = 0
    · refine ⟨-1, A, μ, ?_, hW, hC, fun _ _ => rfl, fun μ' hM => ⟨μ', ?_, hM, fun _ _ => rfl⟩⟩
      · unfold fX11_lineOf
        rw [e_isWithin, zBd_s, hz, z_bt, zGb_t h1, h2, h3, h0, e_in_m1.1, zBd_s, z_bf]
      · unfold fX12_lineOf
        rw [e_in, zBd_s, hz, z_bt, hM.2.2.2.2.1, h0, e_in_m1.2, zBd_s, z_bf]
    · cases hz2 : zIn y 0 (cW (aC A) - 1)
      · refine ⟨-1, A, μ, ?_, hW, hC, fun _ _ => rfl, fun μ' hM => ⟨μ', ?_, hM, fun _ _ => rfl⟩⟩
        · unfold fX11_lineOf
          rw [e_isWithin, zBd_s, hz, z_bt, zGb_t h1, h2, h3, pk_sub (by omega), e_isWithin, zBd_s, hz2, z_bf]
        · unfold fX12_lineOf
          rw [e_in, zBd_s, hz, z_bt, hM.2.2.2.2.1, pk_sub (by omega), e_in, zBd_s, hz2, z_bf]
      · obtain ⟨W, hW1, hW2, rfl⟩ := zIn_t (by decide) (by decide) hz
        obtain ⟨i, -, hi, rfl⟩ := zIn_t (by omega) (by omega) hz2
        have ha : a = 40 ∨ a = 43 := by rw [h2] at h1; exact zIsCp_or h1
        obtain ⟨r, m, e1, hB, hfr⟩ := e_sets (W := W) hF hwc hW1 hW2 ha ⟨h3, h4⟩
        have hTb := zTT_b (W := W) hwc hW2
        have hb0 := hTb 0 (by omega)
        have kl : ∀ q at0 ln f, at0 + q = cW (aC A) → at0 ≤ i → (zTT (aC A) W at0).2.1 + ln = (zTT (aC A) W 0).2.1 → q < f → ∀ q2, q ≤ q2 → fX7_lineWith_4 F f (nI i) (nI at0) (nI ln) m = some (nI (zLineW (zTT (aC A) W) i q2 at0 ln), m) := by
          intro q
          induction q using Nat.strongRecOn with
          | ind q ih =>
            intro at0 ln f hat hai hln hf q2 hq2
            obtain ⟨f, rfl⟩ := z_s hf
            obtain ⟨q2, rfl⟩ : ∃ q', q2 = q' + 1 := ⟨q2 - 1, by omega⟩
            obtain ⟨g1, g2, g3, g4⟩ := zTT_gd (c := aC A) (i := at0) hW2 (by omega)
            rw [fX7_lineWith_4, zG_in rfl (by decide) (by decide), nI_clamp (by decide), (hB 0 (by omega) (by omega)).2.1, if_neg (fun z => by have := (nI_leI (by omega) (by omega)).mp z; omega), zG_in rfl (by omega) (by decide), nI_clamp (by omega), (hB at0 (by omega) (by omega)).2.2, nI_add]
            unfold zLineW
            by_cases hle : (zTT (aC A) W at0).2.2 ≤ i
            · rw [if_pos ((nI_leI (by omega) (by omega)).mpr hle), if_pos hle]
              exact ih (cW (aC A) - (zTT (aC A) W at0).2.2) (by omega) _ _ f (by omega) hle (by omega) (by omega) q2 (by omega)
            · rw [if_neg (fun z => hle ((nI_leI (by omega) (by omega)).mp z)), if_neg hle]
        refine ⟨nI (zLineW (zTT (aC A) W) i (cW (aC A)) 0 0), A, m, ?_, hW, rc_scr hC (fun c hc hc2 => hfr c (by omega) (by omega) (by omega)), fun c hc => hfr c (by omega) (by omega) (by omega), fun μ' hM => ?_⟩
        · unfold fX11_lineOf fX7_lineWith
          rw [e_isWithin, zBd_s, hz, z_bt, zGb_t h1, h2, h3, pk_sub (by omega), e_isWithin, zBd_s, hz2, z_bt]
          rw [zGb_t h1, h2, e1, zBd_s, kl (cW (aC A)) 0 0 F (by omega) (by omega) (by omega) (by omega) (cW (aC A)) (Nat.le_refl _), zBd_s]
        · obtain ⟨r, m2, e2, hB2, hfr2⟩ := e_mSets (W := W) hF hwc hW1 hW2 hM.2.2.2.2
          have ml : ∀ q at0 ln f, at0 + q = cW (aC A) → at0 ≤ i → q < f → ∀ q2, q ≤ q2 → fX12_lineOf_37 F f (nI i) (nI ln) (nI at0) m2 = some (nI (zLineW (zTT (aC A) W) i q2 at0 ln), m2) := by
            intro q
            induction q using Nat.strongRecOn with
            | ind q ih =>
              intro at0 ln f hat hai hf q2 hq2
              obtain ⟨f, rfl⟩ := z_s hf
              obtain ⟨q2, rfl⟩ : ∃ q', q2 = q' + 1 := ⟨q2 - 1, by omega⟩
              obtain ⟨g1, g2, g3, g4⟩ := zTT_gd (c := aC A) (i := at0) hW2 (by omega)
              rw [fX12_lineOf_37, zG_in rfl (by omega) (by decide), nI_clamp (by omega), (hB2 at0 (by omega) (by omega)).2.2 (by omega), nI_add, show at0 + ((zTT (aC A) W at0).2.2 - at0) = (zTT (aC A) W at0).2.2 by omega, zG_in rfl (by omega) (by decide), nI_add]
              unfold zLineW
              by_cases hle : (zTT (aC A) W at0).2.2 ≤ i
              · rw [if_neg (fun z => by have := (nI_ltI (by omega) (by omega)).mp z; omega), if_pos hle]
                exact ih (cW (aC A) - (zTT (aC A) W at0).2.2) (by omega) _ _ f (by omega) hle (by omega) q2 (by omega)
              · rw [if_pos ((nI_ltI (by omega) (by omega)).mpr (by omega)), if_neg hle]
          refine ⟨m2, ?_, rm_scr hM (fun j hj => by rw [hfr2 60 (by decide) (by decide) (by decide)]) (fun c hc => hfr2 c (by omega) (by omega) (by omega)), fun c hc => hfr2 c (by omega) (by omega) (by omega)⟩
          unfold fX12_lineOf
          rw [e_in, zBd_s, hz, z_bt, hM.2.2.2.2.1, pk_sub (by omega), e_in, zBd_s, hz2, z_bt, e2, zBd_s]
          exact ml (cW (aC A)) 0 0 F (by omega) (by omega) (by omega) _ (Nat.le_refl _)
