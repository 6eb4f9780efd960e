/-! ===== count, backNumber ===== -/
theorem nI_mod {a d : Nat} (ha : a < 2 ^ 31) (h0 : 0 < d) (hd : d < 2 ^ 31) : nI a % nI d = nI (a % d) := by rw [← irem_eq_mod, pk_rem ha h0 hd]
theorem e_issues {F h : Nat} {s : zPS} {μ : zMem} (hr : zRepS h s μ) (hw : zWFS s) : fX8_issues F h μ = some (nI (min (pw s) 20), μ) := by
  have := hw.2.2.2.2.2.2.2.2.1
  unfold fX8_issues
  rw [hr.2.2.1, e_min (by omega) (by decide), zBd_s]
theorem e_backMany {F : Nat} {s : zPS} {μ : zMem} (hr : zRepN 61 s μ) (hw : zWFS s) : fX12_backMany F μ = some (nI (min (pw s) 20), μ) := by
  have := hw.2.2.2.2.2.2.2.2.1
  unfold fX12_backMany
  rw [zG_in rfl (by decide) (by decide), nI_clamp (by decide), hr.2.2.2.2.2.2.1, e_mmin (by decide) (by omega), zBd_s, Nat.min_comm]
theorem e_toldSet {F : Nat} {s : zPS} {μ : zMem} (hF : 17 ≤ F) (hr : zRepN 61 s μ) (hw : zWFS s) : fX12_toldSet F μ = some (nI (pT s), μ) := by
  have key : ∀ m k a n, k + m = 16 → m < n → fX12_toldSet_4 F n (nI a) (nI k) μ = some (nI (zFold (fun p a => if (pT s).testBit p then a ||| 2 ^ p else a) m k a), μ) := by
    intro m
    induction m with
    | zero =>
      intro k a n hk hn
      obtain ⟨n, rfl⟩ := z_s hn
      rw [fX12_toldSet_4, z_done (by omega) (by omega)]
      rfl
    | succ m ih =>
      intro k a n hk hn
      obtain ⟨n, rfl⟩ := z_s hn
      rw [fX12_toldSet_4, z_more (by omega) (by decide), e_mTold hr, zBd_s, zTold_n (by omega), nI_add, zq_1shl (by omega), fa_or]
      show _ = some (nI (zFold _ m (k + 1) (if (pT s).testBit k then a ||| 2 ^ k else a)), μ)
      cases (pT s).testBit k
      · rw [z_bf]
        exact ih (k + 1) _ n (by omega) (by omega)
      · rw [z_bt]
        exact ih (k + 1) _ n (by omega) (by omega)
  have := key 16 0 0 F rfl (by omega)
  rw [show zFold (fun p a => if (pT s).testBit p then a ||| 2 ^ p else a) 16 0 0 = pT s from zMask_eq hw.1] at this
  exact this
theorem e_readers {F : Nat} {s : zPS} {μ : zMem} (hF : 17 ≤ F) (hr : zRepN 61 s μ) (hw : zWFS s) : fX12_readers F μ = some (nI (pR s), μ) := by
  have key : ∀ m k a n, k + m = 16 → m < n → fX12_readers_4 F n (nI a) (nI k) μ = some (nI (zFold (fun p a => if (pR s).testBit p then a ||| 2 ^ p else a) m k a), μ) := by
    intro m
    induction m with
    | zero =>
      intro k a n hk hn
      obtain ⟨n, rfl⟩ := z_s hn
      rw [fX12_readers_4, z_done (by omega) (by omega)]
      rfl
    | succ m ih =>
      intro k a n hk hn
      obtain ⟨n, rfl⟩ := z_s hn
      have h3 := hw.2.2.1 k
      rw [fX12_readers_4, z_more (by omega) (by decide), e_mTold hr, zBd_s, zTold_n (by omega), nI_add, nI_add, zG_in rfl (by omega) (by decide), nI_clamp (by omega), hr.2.2.1 k (by omega), zq_1shl (by omega), fa_or]
      show _ = some (nI (zFold _ m (k + 1) (if (pR s).testBit k then a ||| 2 ^ k else a)), μ)
      cases hR : (pR s).testBit k
      · rw [if_neg (show ¬ nI (false).toNat = nI 1 by decide)]
        have e : ∀ (c : Prop) [Decidable c], (if c then fX12_readers_4 F n (nI a) (nI (k + 1)) μ else fX12_readers_4 F n (nI a) (nI (k + 1)) μ) = fX12_readers_4 F n (nI a) (nI (k + 1)) μ := fun c _ => by split <;> rfl
        rw [e]
        exact ih (k + 1) _ n (by omega) (by omega)
      · rw [h3 hR, z_bt, if_pos (show nI (true).toNat = nI 1 by decide)]
        exact ih (k + 1) _ n (by omega) (by omega)
  have := key 16 0 0 F rfl (by omega)
  rw [show zFold (fun p a => if (pR s).testBit p then a ||| 2 ^ p else a) 16 0 0 = pR s from zMask_eq hw.2.1] at this
  exact this
theorem e_allBreath {F h : Nat} {s : zPS} {μ : zMem} (hF : 17 ≤ F) (hr : zRepS h s μ) : fX8_allBreath F h μ = some (nI (zFold (fun p a => a + pB s p) 16 0 0), μ) := by
  have key : ∀ m k a n, k + m = 16 → m < n → fX8_allBreath_4 F h n (nI a) (nI k) μ = some (nI (zFold (fun p a => a + pB s p) m k a), μ) := by
    intro m
    induction m with
    | zero =>
      intro k a n hk hn
      obtain ⟨n, rfl⟩ := z_s hn
      rw [fX8_allBreath_4, z_done (by omega) (by omega)]
      rfl
    | succ m ih =>
      intro k a n hk hn
      obtain ⟨n, rfl⟩ := z_s hn
      rw [fX8_allBreath_4, z_more (by omega) (by decide), zG_in rfl (by omega) (by decide), nI_clamp (by omega), hr.2.2.2.2.2.1 k (by omega), nI_add, nI_add]
      exact ih (k + 1) _ n (by omega) (by omega)
  exact key 16 0 0 F rfl (by omega)
theorem e_breathOfAll {F : Nat} {s : zPS} {μ : zMem} (hF : 17 ≤ F) (hr : zRepN 61 s μ) (hw : zWFS s) : fX12_breathOfAll F μ = some (nI (zFold (fun p a => a + pB s p) 16 0 0), μ) := by
  have key : ∀ m k a n, k + m = 16 → m < n → fX12_breathOfAll_4 F n (nI a) (nI k) μ = some (nI (zFold (fun p a => a + pB s p) m k a), μ) := by
    intro m
    induction m with
    | zero =>
      intro k a n hk hn
      obtain ⟨n, rfl⟩ := z_s hn
      rw [fX12_breathOfAll_4, z_done (by omega) (by omega)]
      rfl
    | succ m ih =>
      intro k a n hk hn
      obtain ⟨n, rfl⟩ := z_s hn
      have h6 := hw.2.2.2.2.2.1 k (by omega)
      rw [fX12_breathOfAll_4, z_more (by omega) (by decide), e_mTold hr, zBd_s, zTold_n (by omega), nI_add, nI_add, zG_in rfl (by omega) (by decide), nI_clamp (by omega), hr.2.2.2.1 k (by omega), nI_add]
      show _ = some (nI (zFold _ m (k + 1) (a + pB s k)), μ)
      cases hT : (pT s).testBit k
      · rw [z_bf, h6 hT]
        exact ih (k + 1) _ n (by omega) (by omega)
      · rw [z_bt]
        exact ih (k + 1) _ n (by omega) (by omega)
  exact key 16 0 0 F rfl (by omega)
theorem zLawC.at {l : zLS} {μ : zMem} (h : zLawC l μ) : ∃ a, zIsLw a = true ∧ (μ 18 0).toNatClampNeg = a ∧ μ a 7 = nI (lR l) ∧ (∀ r, r < lR l → μ (a + 3) r = nI (lK l r) ∧ μ (a + 4) r = nI (lV l r) ∧ μ (a + 5) r = nI (lT l r) ∧ μ (a + 6) r = nI (lE l r)) ∧ ∀ i, i < lN0 l → μ (a + 1) i = nI (zSign (lO l i)) ∧ μ (a + 2) i = nI (lA l i) := by
  obtain ⟨a, h1, h2, h3, h4⟩ := h
  have : a = 19 ∨ a = 26 := zIsLw_or h1
  exact ⟨a, h1, by rw [h2, nI_clamp (by omega)], h4⟩
theorem pr_count {F : Nat} (hF : 17 ≤ F) (w : Int32) : zPair (fX11_count F w) (fX12_count F w) := by
  refine zPair.ro (fun A => if w = nI 0 then nI (pw (aN A)) else if w = nI 1 then nI (pT (aN A)) else if w = nI 2 then nI (pR (aN A)) else if w = nI 3 then nI (min (pw (aN A)) 20) else if w = nI 4 then nI (cW (aC A)) else if w = nI 5 then nI (lR (aL A)) else if w = nI 6 then nI (aT A) else if w = nI 7 then nI (px (aN A)) else if w = nI 8 then nI (zFold (fun p a => a + pB (aN A) p) 16 0 0) else -1) (fun A μ hW hC => ?_) (fun A μ hW hM => ?_)
  · obtain ⟨c, c1, c2, c3, c4⟩ := hC.2.2.2.2.at
    obtain ⟨a, a1, a2, a3, a4⟩ := hC.2.2.2.1.at
    have hS := hC.2.1
    unfold fX11_count
    rw [hS.2.2.1, hS.1, hS.2.1, e_issues hS hW.2.1, zBd_s, zGb_t c1, c2, c3, a2, zGb_t a1, a3, hC.1.1, hS.2.2.2.1, e_allBreath hF hS, zBd_s]
    repeat' split
    all_goals rfl
  · have hS := hM.2.1
    unfold fX12_count
    rw [zG_in rfl (by decide) (by decide), zG_in rfl (by decide) (by decide), nI_clamp (by decide), nI_clamp (by decide), hS.2.2.2.2.2.2.2.1, hS.2.2.2.2.2.2.2.2, e_toldSet hF hS hW.2.1, zBd_s, e_readers hF hS hW.2.1, zBd_s, e_backMany hS hW.2.1, zBd_s, hM.2.2.2.2.1, hM.2.2.2.1.1, hM.1.1, e_breathOfAll hF hS hW.2.1, zBd_s]
    repeat' split
    all_goals rfl
theorem e_slotOf {F h i : Nat} {s : zPS} {μ : zMem} (hr : zRepS h s μ) (hw : zWFS s) (hi : i ≤ pw s) : fX8_slotOf F h (nI i) μ = some (nI ((pw s - i) % 20), μ) := by
  have := hw.2.2.2.2.2.2.2.2.1
  unfold fX8_slotOf fJ9_floorMod_7cf53
  rw [hr.2.2.1, pk_sub hi, zGz_in (by decide), fb_xorI, if_pos (nI_ge0 (Nat.xor_lt_two_pow (n := 31) (by omega) (by decide))), zBd_s, nI_mod (by omega) (by decide) (by decide)]
theorem e_issueOf {F i : Nat} {s : zPS} {μ : zMem} (hr : zRepN 61 s μ) (hw : zWFS s) (hi : i ≤ pw s) : fX12_issueOf F (nI i) μ = some (nI ((pw s - i) % 20), μ) := by
  have := hw.2.2.2.2.2.2.2.2.1
  unfold fX12_issueOf
  rw [zG_in rfl (by decide) (by decide), nI_clamp (by decide), zGz_in (by decide), hr.2.2.2.2.2.2.1, pk_sub hi, nI_mod (by omega) (by decide) (by decide)]
theorem e_whisperOf {F h q j : Nat} {s : zPS} {μ : zMem} (hr : zRepS h s μ) (hw : zWFS s) (hq : q < 20) (hj : j < pP s q) : fX8_whisperOf F h (nI q) (nI j) μ = some (nI (pW s q j), μ) := by
  have := hw.2.2.2.2.2.2.1 q hq
  unfold fX8_whisperOf
  rw [pk_mul, nI_add, zG_in rfl (by omega) (by decide), nI_clamp (by omega), Nat.mul_comm, hr.2.2.2.2.2.2.2 q j hq hj]
theorem e_printedOf {F i j c : Nat} {s : zPS} {μ : zMem} (hr : zRepN 61 s μ) (hw : zWFS s) (hi : i ≤ pw s) (hj : j < pP s ((pw s - i) % 20)) (hc : c < 3) : fX12_printedOf F (nI i) (nI j) (nI c) μ = some (nI (if c = 0 then pW s ((pw s - i) % 20) j % 16 else if c = 1 then pW s ((pw s - i) % 20) j / 16 % 16 else pW s ((pw s - i) % 20) j / 256), μ) := by
  have hq : (pw s - i) % 20 < 20 := Nat.mod_lt _ (by decide)
  have h16 := hw.2.2.2.2.2.2.1 _ hq
  obtain ⟨g0, g1, g2⟩ := hr.2.2.2.2.2.1 _ j hq hj
  unfold fX12_printedOf
  rw [e_issueOf hr hw hi, zBd_s, pk_mul, nI_add, pk_mul, nI_add, nI_add, zG_in rfl (by omega) (by decide), nI_clamp (by omega)]
  have : c = 0 ∨ c = 1 ∨ c = 2 := by omega
  rcases this with rfl | rfl | rfl
  · rw [Nat.add_zero, g0]; rfl
  · rw [g1]; rfl
  · rw [g2]; rfl
theorem e_fromOf {F x : Nat} {μ : zMem} : fX11_fromOf F (nI x) μ = some (nI (x % 16), μ) := by
  unfold fX11_fromOf
  rw [show nI 15 = nI (2 ^ 4 - 1) from rfl, fa_mask]
theorem e_toOf {F x : Nat} {μ : zMem} (hx : x < 4096) : fX11_toOf F (nI x) μ = some (nI (x / 16 % 16), μ) := by
  unfold fX11_toOf
  rw [zq_shr (by omega) (by decide), show nI 15 = nI (2 ^ 4 - 1) from rfl, fa_mask]
theorem e_secretOf {F x : Nat} {μ : zMem} (hx : x < 4096) : fX11_secretOf F (nI x) μ = some (nI (x / 256), μ) := by
  unfold fX11_secretOf
  rw [zq_shr (by omega) (by decide), show nI 15 = nI (2 ^ 4 - 1) from rfl, fa_mask, Nat.mod_eq_of_lt (by omega)]
theorem pr_backNumber {F : Nat} (x w : Int32) : zPair (fX11_backNumber F x w) (fX12_backNumber F x w) := by
  cases hz : zIn x 1 20
  · refine zPair.ro (fun _ => -1) (fun A μ _ _ => ?_) (fun A μ _ _ => ?_)
    · unfold fX11_backNumber
      rw [e_isWithin, zBd_s, e_isWithin, zBd_s, hz, z_bf]
    · unfold fX12_backNumber
      rw [e_in, zBd_s, hz, z_bf]
  · by_cases hw : zIn w 0 47 = true ∨ w = nI 100
    · obtain ⟨i, hi1, hi2, rfl⟩ := zIn_t (by decide) (by decide) hz
      obtain ⟨v, rfl, hv⟩ : ∃ v, w = nI v ∧ (v ≤ 47 ∨ v = 100) := by
        rcases hw with h | h
        · obtain ⟨v, -, hv, rfl⟩ := zIn_t (by decide) (by decide) h
          exact ⟨v, rfl, Or.inl hv⟩
        · exact ⟨100, h, Or.inr rfl⟩
      refine zPair.ro (fun A => if i ≤ pw (aN A) then (if v = 100 then nI (pP (aN A) ((pw (aN A) - i) % 20)) else if v / 3 < pP (aN A) ((pw (aN A) - i) % 20) then nI (if v % 3 = 0 then pW (aN A) ((pw (aN A) - i) % 20) (v / 3) % 16 else if v % 3 = 1 then pW (aN A) ((pw (aN A) - i) % 20) (v / 3) / 16 % 16 else pW (aN A) ((pw (aN A) - i) % 20) (v / 3) / 256) else -4) else -2) (fun A μ hW hC => ?_) (fun A μ hW hM => ?_)
      · have hS := hC.2.1
        have hq : (pw (aN A) - i) % 20 < 20 := Nat.mod_lt _ (by decide)
        have h16 := hW.2.1.2.2.2.2.2.2.1 _ hq
        have hwk := hW.2.1.2.2.2.2.2.2.2.2.1
        have key : fX11_backNumber_30 F (nI i) (nI v) μ = some (if i ≤ pw (aN A) then (if v = 100 then nI (pP (aN A) ((pw (aN A) - i) % 20)) else if v / 3 < pP (aN A) ((pw (aN A) - i) % 20) then nI (if v % 3 = 0 then pW (aN A) ((pw (aN A) - i) % 20) (v / 3) % 16 else if v % 3 = 1 then pW (aN A) ((pw (aN A) - i) % 20) (v / 3) / 16 % 16 else pW (aN A) ((pw (aN A) - i) % 20) (v / 3) / 256) else -4) else -2, μ) := by
          unfold fX11_backNumber_30
          rw [e_issues hS hW.2.1, zBd_s]
          by_cases hi : i ≤ pw (aN A)
          · rw [if_pos ((nI_leI (by omega) (by omega)).mpr (by omega)), if_pos hi, e_slotOf hS hW.2.1 hi, zBd_s, zG_in rfl hq (by decide), nI_clamp (by omega), hS.2.2.2.2.2.2.1 _ hq]
            by_cases h100 : v = 100
            · rw [if_pos (by rw [h100]), if_pos h100]
            · rw [if_neg (fun z => h100 ((nI_eq (by omega) (by decide)).mp z)), if_neg h100, zGz_in (by decide), pk_div (by omega) (by decide) (by decide), zG_in rfl hq (by decide)]
              by_cases hj : v / 3 < pP (aN A) ((pw (aN A) - i) % 20)
              · have hW8 := hW.2.1.2.2.2.2.2.2.2.1 _ _ hq hj
                rw [if_pos ((nI_ltI (by omega) (by omega)).mpr hj), if_pos hj, e_whisperOf hS hW.2.1 hq hj, zBd_s, zGz_in (by decide), nI_mod (by omega) (by decide) (by decide), e_fromOf, zBd_s, e_toOf hW8, zBd_s, e_secretOf hW8, zBd_s]
                have h3 : v % 3 = 0 ∨ v % 3 = 1 ∨ v % 3 = 2 := by omega
                rcases h3 with h3 | h3 | h3 <;> rw [h3]
                · rw [if_pos rfl, if_pos rfl]
                · rw [if_neg (by decide), if_pos rfl, if_neg (by decide), if_pos rfl]
                · rw [if_neg (by decide), if_neg (by decide), if_neg (by decide), if_neg (by decide)]
              · rw [if_neg (fun z => hj ((nI_ltI (by omega) (by omega)).mp z)), if_neg hj]
          · rw [if_neg (fun z => by have := (nI_leI (by omega) (by omega)).mp z; omega), if_neg hi]
        unfold fX11_backNumber
        rw [e_isWithin, zBd_s, e_isWithin, zBd_s, hz, z_bt]
        cases h47 : zIn (nI v) 0 47
        · rw [z_bf, if_pos, key]
          rcases hw with h | h
          · rw [h47] at h; cases h
          · exact h
        · rw [z_bt, key]
      · have hS := hM.2.1
        have hq : (pw (aN A) - i) % 20 < 20 := Nat.mod_lt _ (by decide)
        have h16 := hW.2.1.2.2.2.2.2.2.1 _ hq
        have hwk := hW.2.1.2.2.2.2.2.2.2.2.1
        have key : fX12_backNumber_28 F (nI i) (nI v) μ = some (if i ≤ pw (aN A) then (if v = 100 then nI (pP (aN A) ((pw (aN A) - i) % 20)) else if v / 3 < pP (aN A) ((pw (aN A) - i) % 20) then nI (if v % 3 = 0 then pW (aN A) ((pw (aN A) - i) % 20) (v / 3) % 16 else if v % 3 = 1 then pW (aN A) ((pw (aN A) - i) % 20) (v / 3) / 16 % 16 else pW (aN A) ((pw (aN A) - i) % 20) (v / 3) / 256) else -4) else -2, μ) := by
          unfold fX12_backNumber_28
          rw [zG_in rfl (by decide) (by decide), nI_clamp (by decide), hS.2.2.2.2.2.2.1]
          by_cases hi : i ≤ pw (aN A)
          · rw [if_pos ((nI_leI (by omega) (by omega)).mpr hi), if_pos hi, e_issueOf hS hW.2.1 hi, zBd_s, nI_add, zG_in rfl (by omega) (by decide), nI_clamp (by omega), hS.2.2.2.2.1 _ hq]
            by_cases h100 : v = 100
            · rw [if_pos (by rw [h100]), if_pos h100]
            · rw [if_neg (fun z => h100 ((nI_eq (by omega) (by decide)).mp z)), if_neg h100, zGz_in (by decide), pk_div (by omega) (by decide) (by decide), nI_mod (by omega) (by decide) (by decide)]
              by_cases hj : v / 3 < pP (aN A) ((pw (aN A) - i) % 20)
              · rw [z_more hj (by omega), if_pos hj, zGz_in (by decide), zGz_in (by decide), e_printedOf hS hW.2.1 hi hj (Nat.mod_lt _ (by decide)), zBd_s]
              · rw [z_done (by omega) (by omega), if_neg hj]
          · rw [if_neg (fun z => by have := (nI_leI (by omega) (by omega)).mp z; omega), if_neg hi]
        unfold fX12_backNumber
        rw [e_in, zBd_s, hz, z_bt, e_in, zBd_s]
        cases h47 : zIn (nI v) 0 47
        · rw [z_bf, if_pos, key]
          rcases hw with h | h
          · rw [h47] at h; cases h
          · exact h
        · rw [z_bt, key]
    · have h1 : zIn w 0 47 = false := by cases h : zIn w 0 47; rfl; exact absurd (Or.inl h) hw
      have h2 : ¬ w = nI 100 := fun h => hw (Or.inr h)
      refine zPair.ro (fun _ => -1) (fun A μ _ _ => ?_) (fun A μ _ _ => ?_)
      · unfold fX11_backNumber
        rw [e_isWithin, zBd_s, e_isWithin, zBd_s, hz, z_bt, h1, z_bf, if_neg h2]
      · unfold fX12_backNumber
        rw [e_in, zBd_s, hz, z_bt, e_in, zBd_s, h1, z_bf, if_neg h2]
