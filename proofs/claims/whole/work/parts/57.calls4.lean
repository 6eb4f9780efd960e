/-! ===== type, bought, copyIs, count ===== -/
theorem zFold_sm (f : Nat → Nat) : ∀ m a, zFold (fun k a => a + f k) m 0 a = a + fb_sm f m
  | 0, a => rfl
  | m + 1, a => by
    rw [zFold_add _ m 1 0 a, zFold_sm f m a, Nat.zero_add]
    show a + fb_sm f m + f m = a + (fb_sm f m + f m)
    omega
theorem e_maxsub {F a b : Nat} {μ : zMem} (ha : a < 2 ^ 30) (hb : b < 2 ^ 30) : fJ9_max_7cf53 F (nI 0) (nI a - nI b) μ = some (nI (a - b), μ) := by
  by_cases h : b ≤ a
  · rw [pk_sub h, e_max (by decide) (by omega), Nat.zero_max]
  · have h1 := pk_sneg (a := a) (b := b) hb (by omega)
    unfold fJ9_max_7cf53
    rw [if_neg (fun (z : nI 0 < nI a - nI b) => Int32.lt_irrefl (Int32.lt_trans (show (0 : Int32) < nI a - nI b from z) h1)), Nat.sub_eq_zero_of_le (by omega)]
theorem e_mmaxsub {F a b : Nat} {μ : zMem} (ha : a < 2 ^ 30) (hb : b < 2 ^ 30) : fX12_max F (nI 0) (nI a - nI b) μ = some (nI (a - b), μ) := by
  by_cases h : b ≤ a
  · rw [pk_sub h, e_mmax (by decide) (by omega), Nat.zero_max]
  · have h1 := pk_sneg (a := a) (b := b) hb (by omega)
    unfold fX12_max
    rw [if_neg (fun (z : nI 0 ≤ nI a - nI b) => Int32.lt_irrefl (Int32.lt_of_le_of_lt (show (0 : Int32) ≤ nI a - nI b from z) h1)), Nat.sub_eq_zero_of_le (by omega)]
theorem zCopyC.at {c : zCS} {μ : zMem} (h : zCopyC c μ) : ∃ a, zIsCp ((μ 0 8).toNatClampNeg) = true ∧ (μ 0 8).toNatClampNeg = a ∧ μ a 2 = nI (cW c) ∧ (∀ i, i < cW c → μ (a + 1) i = nI (cL c i)) ∧ ∀ i, i < 26 → μ (a + 2) i = nI (cU c i) := by
  obtain ⟨a, h1, h2, h3, h4⟩ := h
  have : a = 40 ∨ a = 43 := zIsCp_or h1
  have e : (μ 0 8).toNatClampNeg = a := by rw [h2, nI_clamp (by omega)]
  exact ⟨a, by rw [e]; exact h1, e, h4⟩
theorem pr_type {F : Nat} (x : Int32) : zPair (fX11_type F x) (fX12_type F x) := by
  cases hz : zIn x 0 25
  · refine zPair.ro (fun _ => -1) (fun A μ _ _ => ?_) (fun A μ _ _ => ?_)
    · unfold fX11_type
      rw [e_isLetter, zBd_s, hz, z_bf]
    · unfold fX12_type
      rw [e_in, zBd_s, hz, z_bf]
  · obtain ⟨j, -, hj, rfl⟩ := zIn_t (by decide) (by decide) hz
    refine zPair.ro (fun A => nI (cU (aC A) j)) (fun A μ hW hC => ?_) (fun A μ hW hM => ?_)
    · obtain ⟨a, h1, h2, h3, h4, h5⟩ := hC.2.2.2.2.at
      unfold fX11_type
      rw [e_isLetter, zBd_s, hz, z_bt, zGb_t h1, h2, zG_in rfl (by omega) (by decide), nI_clamp (by omega), h5 j (by omega)]
    · unfold fX12_type
      rw [e_in, zBd_s, hz, z_bt, zG_in rfl (by omega) (by decide), nI_clamp (by omega), hM.2.2.2.2.2.2 j (by omega)]
theorem e_lacking {F a e : Nat} {c : zCS} {μ : zMem} (hF : 27 ≤ F) (hc : zWFC c) (he : e < 2 ^ 30) (h : ∀ i, i < 26 → μ (a + 2) i = nI (cU c i)) : fX1_lackingTypes F a (nI e) μ = some (nI (fb_sm (fun k => cU c k - e) 26), μ) := by
  have key : ∀ m k b n, k + m = 26 → m < n → fX1_lackingTypes_4 F a n (nI e) (nI b) (nI k) μ = some (nI (zFold (fun k b => b + (cU c k - e)) m k b), μ) := by
    intro m
    induction m with
    | zero =>
      intro k b n hk hn
      obtain ⟨n, rfl⟩ := z_s hn
      rw [fX1_lackingTypes_4, z_done (by omega) (by omega)]
      rfl
    | succ m ih =>
      intro k b n hk hn
      obtain ⟨n, rfl⟩ := z_s hn
      have hu := hc.2.2.1 k (by omega)
      rw [fX1_lackingTypes_4, z_more (by omega) (by decide), zG_in rfl (by omega) (by decide), nI_clamp (by omega), h k (by omega), e_maxsub (by omega) he, zBd_s, nI_add, nI_add]
      exact ih (k + 1) _ n (by omega) (by omega)
  have := key 26 0 0 F rfl (by omega)
  rw [zFold_sm, Nat.zero_add] at this
  exact this
theorem pr_bought {F : Nat} (hF : 27 ≤ F) (x : Int32) : zPair (fX11_bought F x) (fX12_bought F x) := by
  cases hz : zIn x 0 255
  · refine zPair.ro (fun _ => -1) (fun A μ _ _ => ?_) (fun A μ _ _ => ?_)
    · unfold fX11_bought
      rw [e_isWithin, zBd_s, hz, z_bf]
    · unfold fX12_bought
      rw [e_in, zBd_s, hz, z_bf]
  · obtain ⟨j, -, hj, rfl⟩ := zIn_t (by decide) (by decide) hz
    refine zPair.ro (fun A => nI (fb_sm (fun k => cU (aC A) k - j) 26)) (fun A μ hW hC => ?_) (fun A μ hW hM => ?_)
    · obtain ⟨a, h1, h2, h3, h4, h5⟩ := hC.2.2.2.2.at
      unfold fX11_bought
      rw [e_isWithin, zBd_s, hz, z_bt, zGb_t h1, h2, e_lacking hF hW.2.2.2.2 (by omega) h5, zBd_s]
    · have key : ∀ m k b n, k + m = 26 → m < n → fX12_bought_17 F n (nI j) (nI b) (nI k) μ = some (nI (zFold (fun k b => b + (cU (aC A) k - j)) m k b), μ) := by
        intro m
        induction m with
        | zero =>
          intro k b n hk hn
          obtain ⟨n, rfl⟩ := z_s hn
          rw [fX12_bought_17, z_done (by omega) (by omega)]
          rfl
        | succ m ih =>
          intro k b n hk hn
          obtain ⟨n, rfl⟩ := z_s hn
          have hu := hW.2.2.2.2.2.2.1 k (by omega)
          rw [fX12_bought_17, z_more (by omega) (by decide), zG_in rfl (by omega) (by decide), nI_clamp (by omega), hM.2.2.2.2.2.2 k (by omega), e_mmaxsub (by omega) (by omega), zBd_s, nI_add, nI_add]
          exact ih (k + 1) _ n (by omega) (by omega)
      have := key 26 0 0 F rfl (by omega)
      rw [zFold_sm, Nat.zero_add] at this
      unfold fX12_bought
      rw [e_in, zBd_s, hz, z_bt]
      exact this
/-- the longest word, how many unlike letters -/
def zLong (c : zCS) : Nat := zFold (fun k b => max b (cL c k)) (cW c) 0 0
def zUnl (c : zCS) : Nat := zFold (fun k b => if cU c k = 0 then b else b + 1) 26 0 0
theorem pr_copyIs {F : Nat} (hF : 70 ≤ F) (w : Int32) : zPair (fX11_copyIs F w) (fX12_copyIs F w) := by
  refine zPair.ro (fun A => if w = nI 0 then nI (fb_sm (cU (aC A)) 26) else if w = nI 1 then nI (zLong (aC A)) else if w = nI 2 then nI (zUnl (aC A)) else -1) (fun A μ hW hC => ?_) (fun A μ hW hM => ?_)
  · obtain ⟨a, h1, h2, h3, h4, h5⟩ := hC.2.2.2.2.at
    obtain ⟨v1, v2, v3, v4⟩ := hW.2.2.2.2
    have k1 : fX1_allLetters F a μ = some (nI (fb_sm (cU (aC A)) 26), μ) := by
      unfold fX1_allLetters
      rw [e_lacking (by omega) hW.2.2.2.2 (by decide) h5, zBd_s]
      rfl
    have k2 : fX1_longestWord F a μ = some (nI (zLong (aC A)), μ) := by
      have key : ∀ m k b n, k + m = cW (aC A) → b ≤ 12 → m < n → fX1_longestWord_4 F a n (nI b) (nI k) μ = some (nI (zFold (fun k b => max b (cL (aC A) k)) m k b), μ) := by
        intro m
        induction m with
        | zero =>
          intro k b n hk hb hn
          obtain ⟨n, rfl⟩ := z_s hn
          rw [fX1_longestWord_4, h3, z_done (by omega) (by omega)]
          rfl
        | succ m ih =>
          intro k b n hk hb hn
          obtain ⟨n, rfl⟩ := z_s hn
          have hu := v2 k (by omega)
          rw [fX1_longestWord_4, h3, z_more (by omega) (by omega), zG_in rfl (by omega) (by decide), nI_clamp (by omega), h4 k (by omega), e_max (by omega) (by omega), zBd_s, nI_add]
          exact ih (k + 1) _ n (by omega) (by omega) (by omega)
      exact key (cW (aC A)) 0 0 F (by omega) (by omega) (by omega)
    have k3 : fX1_unlikeLetters F a μ = some (nI (zUnl (aC A)), μ) := by
      have key : ∀ m k b n, k + m = 26 → m < n → fX1_unlikeLetters_4 F a n (nI b) (nI k) μ = some (nI (zFold (fun k b => if cU (aC A) k = 0 then b else b + 1) m k b), μ) := by
        intro m
        induction m with
        | zero =>
          intro k b n hk hn
          obtain ⟨n, rfl⟩ := z_s hn
          rw [fX1_unlikeLetters_4, z_done (by omega) (by omega)]
          rfl
        | succ m ih =>
          intro k b n hk hn
          obtain ⟨n, rfl⟩ := z_s hn
          have hu := v3 k (by omega)
          rw [fX1_unlikeLetters_4, z_more (by omega) (by decide), zG_in rfl (by omega) (by decide), nI_clamp (by omega), h5 k (by omega), nI_add, nI_add]
          show _ = some (nI (zFold _ m (k + 1) (if cU (aC A) k = 0 then b else b + 1)), μ)
          by_cases hz : cU (aC A) k = 0
          · rw [if_pos (show nI (cU (aC A) k) ≤ 0 by rw [hz]; decide), if_pos hz]
            exact ih (k + 1) _ n (by omega) (by omega)
          · rw [if_neg (nI_nle (by omega) (by omega)), if_neg hz]
            exact ih (k + 1) _ n (by omega) (by omega)
      exact key 26 0 0 F rfl (by omega)
    unfold fX11_copyIs
    rw [zGb_t h1, zGb_t h1, zGb_t h1, h2, k1, k2, k3, zBd_s, zBd_s, zBd_s]
    by_cases g0 : w = nI 0
    · rw [if_pos g0, if_pos g0]
    · rw [if_neg g0, if_neg g0]
      by_cases g1 : w = nI 1
      · rw [if_pos g1, if_pos g1]
      · rw [if_neg g1, if_neg g1]
        by_cases g2 : w = nI 2
        · rw [if_pos g2, if_pos g2]
        · rw [if_neg g2, if_neg g2]
  · obtain ⟨v1, v2, v3, v4⟩ := hW.2.2.2.2
    obtain ⟨m1, m2, m3⟩ := hM.2.2.2.2
    have key1 : ∀ m k b n (x y : Int32), k + m = 26 → m < n → fX12_copyIs_61 F n w x y (nI b) (nI k) μ = some (if w = 0 then x else if w = nI 1 then y else nI (zFold (fun k b => if cU (aC A) k = 0 then b else b + 1) m k b), μ) := by
      intro m
      induction m with
      | zero =>
        intro k b n x y hk hn
        obtain ⟨n, rfl⟩ := z_s hn
        rw [fX12_copyIs_61, z_done (by omega) (by omega)]
        by_cases g0 : w = 0
        · rw [if_pos g0, if_pos g0]
        · rw [if_neg g0, if_neg g0]
          by_cases g1 : w = nI 1
          · rw [if_pos g1, if_pos g1]
          · rw [if_neg g1, if_neg g1]; rfl
      | succ m ih =>
        intro k b n x y hk hn
        obtain ⟨n, rfl⟩ := z_s hn
        have hu := v3 k (by omega)
        rw [fX12_copyIs_61, z_more (by omega) (by decide), zG_in rfl (by omega) (by decide), nI_clamp (by omega), m3 k (by omega), nI_add, nI_add]
        show _ = some (if w = 0 then x else if w = nI 1 then y else nI (zFold _ m (k + 1) (if cU (aC A) k = 0 then b else b + 1)), μ)
        by_cases hz : cU (aC A) k = 0
        · rw [if_pos (show nI (cU (aC A) k) ≤ 0 by rw [hz]; decide), if_pos hz]
          exact ih (k + 1) _ n x y (by omega) (by omega)
        · rw [if_neg (nI_nle (by omega) (by omega)), if_neg hz]
          exact ih (k + 1) _ n x y (by omega) (by omega)
    have key2 : ∀ m k b d n, k + m = cW (aC A) → d ≤ 12 → m < n → fX12_copyIs_21 F n w (nI b) (nI d) (nI 0) (nI k) μ = some (if w = 0 then nI (zFold (fun k b => b + cL (aC A) k) m k b) else if w = nI 1 then nI (zFold (fun k b => max b (cL (aC A) k)) m k d) else nI (zUnl (aC A)), μ) := by
      intro m
      induction m with
      | zero =>
        intro k b d n hk hd hn
        obtain ⟨n, rfl⟩ := z_s hn
        rw [fX12_copyIs_21, m1, z_done (by omega) (by omega), key1 26 0 0 F _ _ rfl (by omega)]
        rfl
      | succ m ih =>
        intro k b d n hk hd hn
        obtain ⟨n, rfl⟩ := z_s hn
        have hu := v2 k (by omega)
        rw [fX12_copyIs_21, m1, z_more (by omega) (by omega), zG_in rfl (by omega) (by decide), zG_in rfl (by omega) (by decide), nI_clamp (by omega), m2 k (by omega), e_mmax (by omega) (by omega), zBd_s, nI_add, nI_add]
        exact ih (k + 1) _ _ n (by omega) (by omega) (by omega)
    have k2 := key2 (cW (aC A)) 0 0 0 F (by omega) (by omega) (by omega)
    rw [zFold_sm, Nat.zero_add, v4] at k2
    unfold fX12_copyIs
    rw [e_in, zBd_s]
    cases hz : zIn w 0 2
    · rw [z_bf, if_neg, if_neg, if_neg]
      · intro e; rw [e] at hz; revert hz; decide
      · intro e; rw [e] at hz; revert hz; decide
      · intro e; rw [e] at hz; revert hz; decide
    · rw [z_bt]
      refine k2.trans ?_
      obtain ⟨j, -, hj, rfl⟩ := zIn_t (by decide) (by decide) hz
      have : j = 0 ∨ j = 1 ∨ j = 2 := by omega
      rcases this with rfl | rfl | rfl
      · rw [if_pos (by decide), if_pos rfl]
      · rw [if_neg (by decide), if_pos rfl, if_neg (by decide), if_pos rfl]; rfl
      · rw [if_neg (by decide), if_neg (by decide), if_neg (by decide), if_neg (by decide), if_pos rfl]
