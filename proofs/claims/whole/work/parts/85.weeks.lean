/-! ===== weeks, tried, allKnow, silent ===== -/
theorem week_no {F h a : Nat} {s : zPS} {μ : zMem} (hr : zRepS h s μ) (hw : zWFS s) (h9 : ¬ pw s < 9999) : fX10_goesBy F h a μ = some (-1, μ) := by
  have := hw.2.2.2.2.2.2.2.2.1
  unfold fX10_goesBy
  rw [hr.2.2.1, if_neg (fun z => h9 ((nI_ltI (by omega) (by decide)).mp z))]
theorem weeks_k {l : zLS} (hl : zWFL l) {N : Nat} (hN : N ≤ 100) : ∀ m k s, k + m = N → zWFS s → ∃ (s' : zPS) (t e : Nat), zWFS s' ∧ pT s' = pT s ∧ t ≤ 16 * m ∧ e ≤ 16 * m ∧
    (∀ (F h a f sum : Nat) (μ : zMem), 300 ≤ F → m < f → (h = 3 ∨ h = 13) → (a = 19 ∨ a = 26) → zRepS h s μ → yLw l a μ → ∃ m1, fX10_goesByTimes_11 F h a f (nI N) (nI sum) (nI k) μ = some (nI (sum + t), m1) ∧ zRepS h s' m1 ∧ m1 33 2 = μ 33 2 + nI e ∧ ∀ c, (c < h ∨ h + 4 < c) → c ≠ 33 → c ≠ 34 → c ≠ 35 → m1 c = μ c) ∧
    ∀ (F f : Nat) (μ : zMem), 300 ≤ F → m < f → zRepN 61 s μ → zLawM l μ → ∃ r m1, fX12_weeksGo_12 F f (nI N) (nI k) μ = some (r, m1) ∧ zRepN 61 s' m1 ∧ m1 60 34 = μ 60 34 + nI t ∧ m1 60 35 = μ 60 35 + nI e ∧ (∀ j, j ≠ 34 → j ≠ 35 → m1 60 j = μ 60 j) ∧ ∀ c, c ≠ 60 → c ≠ 61 → c ≠ 80 → c ≠ 81 → m1 c = μ c := by
  intro m
  induction m with
  | zero =>
    intro k s hk hw
    refine ⟨s, 0, 0, hw, rfl, by omega, by omega, fun F h a f sum μ hF hf hh ha hr hL => ⟨μ, ?_, hr, (Int32.add_zero _).symm, fun _ _ _ _ _ => rfl⟩, fun F f μ hF hf hr hL => ⟨nI 0, μ, ?_, hr, (Int32.add_zero _).symm, (Int32.add_zero _).symm, fun _ _ _ => rfl, fun _ _ _ _ _ => rfl⟩⟩
    · obtain ⟨f, rfl⟩ := z_s hf
      rw [fX10_goesByTimes_11, z_done (by omega) (by omega)]
      rfl
    · obtain ⟨f, rfl⟩ := z_s hf
      rw [fX12_weeksGo_12, z_done (by omega) (by omega)]
  | succ m ih =>
    intro k s hk hw
    have hpw := hw.2.2.2.2.2.2.2.2.1
    by_cases h9 : pw s < 9999
    · obtain ⟨s1, n1, e1, a1, a2, a3, a4, a5, a6, a7⟩ := week_ex hw hl h9
      obtain ⟨s', t, e, g1, g2, g3, g4, g5, g6⟩ := ih (k + 1) s1 (by omega) a1
      refine ⟨s', n1 + t, e1 + e, g1, by rw [g2, a2], by omega, by omega, fun F h a f sum μ hF hf hh ha hr hL => ?_, fun F f μ hF hf hr hL => ?_⟩
      · obtain ⟨f, rfl⟩ := z_s hf
        obtain ⟨m1, b1, b2, b3, b4⟩ := a6 F h a μ hF hh ha hr hL
        obtain ⟨m2, c1, c2, c3, c4⟩ := g5 F h a f (sum + n1) m1 hF (by omega) hh ha b2 (hL.of (fun c h1 h2 => b4 c (by omega) (by omega) (by omega) (by omega)))
        refine ⟨m2, ?_, c2, by rw [c3, b3, nI_add3], fun c h1 h2 h3 h4 => by rw [c4 c h1 h2 h3 h4, b4 c h1 h2 h3 h4]⟩
        rw [fX10_goesByTimes_11, z_more (by omega) (by omega), b1, zBd_s, if_neg (nI_m1 (by omega)), nI_add, nI_add, c1, Nat.add_assoc]
      · obtain ⟨f, rfl⟩ := z_s hf
        obtain ⟨r, m1, b1, b2, b3, b4, b5, b6⟩ := a7 F μ hF hr hL
        obtain ⟨r2, m2, c1, c2, c3, c4, c5, c6⟩ := g6 F f m1 hF (by omega) b2 (hL.of (b5 18 (by decide) (by decide)) (fun c h1 h2 => b6 c (by omega) (by omega) (by omega) (by omega)))
        refine ⟨r2, m2, ?_, c2, by rw [c3, b3, nI_add3], by rw [c4, b4, nI_add3], fun j h1 h2 => by rw [c5 j h1 h2, b5 j h1 h2], fun c h1 h2 h3 h4 => by rw [c6 c h1 h2 h3 h4, b6 c h1 h2 h3 h4]⟩
        rw [fX12_weeksGo_12, z_more (by omega) (by omega), zG_in rfl (by decide) (by decide), cl9 (by decide), hr.2.2.2.2.2.2.2.1, z_more h9 (by decide), b1, zBd_s, nI_add]
        exact c1
    · refine ⟨s, 0, 0, hw, rfl, by omega, by omega, fun F h a f sum μ hF hf hh ha hr hL => ⟨μ, ?_, hr, (Int32.add_zero _).symm, fun _ _ _ _ _ => rfl⟩, fun F f μ hF hf hr hL => ⟨nI 0, μ, ?_, hr, (Int32.add_zero _).symm, (Int32.add_zero _).symm, fun _ _ _ => rfl, fun _ _ _ _ _ => rfl⟩⟩
      · obtain ⟨f, rfl⟩ := z_s hf
        rw [fX10_goesByTimes_11, z_more (by omega) (by omega), week_no hr hw h9, zBd_s, if_pos rfl]
        rfl
      · obtain ⟨f, rfl⟩ := z_s hf
        rw [fX12_weeksGo_12, z_more (by omega) (by omega), zG_in rfl (by decide) (by decide), cl9 (by decide), hr.2.2.2.2.2.2.2.1, z_done (by omega) (by omega)]
theorem zRepC.now2 {A : zAS} {s : zPS} {μ μ1 : zMem} (h : zRepC A μ) (hs : zRepS 3 s μ1) (e : ∀ k, k < 60 → (k < 3 ∨ 7 < k) → k ≠ 33 → k ≠ 34 → k ≠ 35 → μ1 k = μ k) : zRepC (aSN A s) μ1 :=
  ⟨h.1.of (by rw [e 1 (by omega) (by omega) (by omega) (by omega) (by omega)]) (e 2 (by omega) (by omega) (by omega) (by omega) (by omega)), hs, h.2.2.1.of (by rw [e 0 (by omega) (by omega) (by omega) (by omega) (by omega)]) (fun k h1 h2 => e k (by omega) (by omega) (by omega) (by omega) (by omega)), h.2.2.2.1.of (fun k h1 h2 => e k (by omega) (by omega) (by omega) (by omega) (by omega)), h.2.2.2.2.of (by rw [e 0 (by omega) (by omega) (by omega) (by omega) (by omega)]) (by rw [e 0 (by omega) (by omega) (by omega) (by omega) (by omega)]) (fun k h1 h2 => e k (by omega) (by omega) (by omega) (by omega) (by omega))⟩
theorem zRepM.now2 {A : zAS} {s : zPS} {μ μ1 : zMem} (h : zRepM A μ) (hs : zRepN 61 s μ1) (e60 : ∀ j, (j = 7 ∨ j = 9 ∨ j = 18 ∨ j = 45) → μ1 60 j = μ 60 j) (e : ∀ k, (k = 63 ∨ k = 64 ∨ k = 65 ∨ k = 68 ∨ (75 ≤ k ∧ k ≤ 79)) → μ1 k = μ k) : zRepM (aSN A s) μ1 :=
  ⟨h.1.of (e60 9 (by omega)) (e 68 (by omega)), hs, h.2.2.1.of (e60 45 (by omega)) (e 63 (by omega)), h.2.2.2.1.of (e60 18 (by omega)) (fun k h1 h2 => e k (by omega)), h.2.2.2.2.of (e60 7 (by omega)) (e 64 (by omega)) (e 65 (by omega))⟩
theorem zRepC.trial {A : zAS} {μ μ1 : zMem} (h : zRepC A μ) (e : ∀ k, k < 60 → (k < 13 ∨ 17 < k) → k ≠ 33 → k ≠ 34 → k ≠ 35 → μ1 k = μ k) : zRepC A μ1 :=
  ⟨h.1.of (by rw [e 1 (by omega) (by omega) (by omega) (by omega) (by omega)]) (e 2 (by omega) (by omega) (by omega) (by omega) (by omega)), h.2.1.of (fun k h1 h2 => e k (by omega) (by omega) (by omega) (by omega) (by omega)), h.2.2.1.of (by rw [e 0 (by omega) (by omega) (by omega) (by omega) (by omega)]) (fun k h1 h2 => e k (by omega) (by omega) (by omega) (by omega) (by omega)), h.2.2.2.1.of (fun k h1 h2 => e k (by omega) (by omega) (by omega) (by omega) (by omega)), h.2.2.2.2.of (by rw [e 0 (by omega) (by omega) (by omega) (by omega) (by omega)]) (by rw [e 0 (by omega) (by omega) (by omega) (by omega) (by omega)]) (fun k h1 h2 => e k (by omega) (by omega) (by omega) (by omega) (by omega))⟩
theorem pr_weeks {F : Nat} (hF : 300 ≤ F) (x : Int32) : zPair (fX11_weeks F x) (fX12_weeks F x) := by
  refine zPair.mk fun A μ hW hC => ?_
  cases hz : zIn x 1 100
  · refine ⟨-1, A, μ, ?_, hW, hC, fun _ _ => rfl, fun μ' hM => ⟨μ', ?_, hM, fun _ _ => rfl⟩⟩
    · unfold fX11_weeks
      rw [e_isWithin, zBd_s, hz, z_bf]
    · unfold fX12_weeks
      rw [e_in, zBd_s, hz, z_bf]
  · obtain ⟨N, h1N, hN, rfl⟩ := zIn_t (by decide) (by decide) hz
    obtain ⟨s', t, e, g1, g2, g3, g4, g5, g6⟩ := weeks_k hW.2.2.2.1 hN N 0 (aN A) (by omega) hW.2.1
    obtain ⟨a, ha, hla, h18, hL⟩ := yLw.get hC.2.2.2.1
    obtain ⟨m1, b1, b2, b3, b4⟩ := g5 F 3 a F 0 (zUp μ 33 2 (nI 0)) hF (by omega) (by omega) ha (hC.2.1.of (fun c h1 h2 => zUp_ne (by omega))) (hL.of (fun c h1 h2 => zUp_ne (by omega)))
    have ec : ∀ c, (c < 3 ∨ 7 < c) → c ≠ 33 → c ≠ 34 → c ≠ 35 → m1 c = μ c := fun c h1 h2 h3 h4 => by rw [b4 c (by omega) h2 h3 h4, zUp_ne h2]
    refine ⟨nI t, aSN A s', m1, ?_, hW.now g1, hC.now2 b2 (fun c _ h1 h2 h3 h4 => ec c h1 h2 h3 h4), fun c hc => ec c (by omega) (by omega) (by omega) (by omega), fun μ' hM => ?_⟩
    · unfold fX11_weeks fX10_goesByTimes
      rw [e_isWithin, zBd_s, hz, z_bt, h18, cl9 (by omega), zGb_t hla]
      show zBd (fX10_goesByTimes_11 F 3 a F (nI N) (nI 0) (nI 0) (zUp μ 33 2 (nI 0))) _ = _
      rw [b1, zBd_s, Nat.zero_add]
    · obtain ⟨r2, m2, c1, c2, c3, c4, c5, c6⟩ := g6 F F (zUp (zUp μ' 60 34 (nI 0)) 60 35 (nI 0)) hF (by omega) (hM.2.1.of (by rw [zUp_ne (by decide), zUp_ne (by decide)])) (hM.2.2.2.1.of (by rw [zUp_o (by decide), zUp_o (by decide)]) (fun c h1 h2 => by rw [zUp_ne (by omega), zUp_ne (by omega)]))
      refine ⟨m2, ?_, hM.now2 c2 (fun j hj => by rw [c5 j (by omega) (by omega), zUp_o (by omega), zUp_o (by omega)]) (fun c hc => by rw [c6 c (by omega) (by omega) (by omega) (by omega), zUp_ne (by omega), zUp_ne (by omega)]), fun c hc => by rw [c6 c (by omega) (by omega) (by omega) (by omega), zUp_ne (by omega), zUp_ne (by omega)]⟩
      unfold fX12_weeks fX12_weeksGo
      rw [e_in, zBd_s, hz, z_bt]
      show zBd (fX12_weeksGo_12 F F (nI N) (nI 0) (zUp (zUp μ' 60 34 (nI 0)) 60 35 (nI 0))) _ = _
      rw [c1, zBd_s, c3, zUp_o (by decide), zUp_s, nI_add, Nat.zero_add]
/-! known to all -/
def yAll (s : zPS) : Nat := zFold (fun p a => if (pT s).testBit p then a &&& pK s p else a) 16 0 (if pT s = 0 then 0 else 65535)
theorem yAll_lt (s : zPS) : yAll s < 65536 := by
  have key : ∀ m k a, a < 65536 → zFold (fun p a => if (pT s).testBit p then a &&& pK s p else a) m k a < 65536 := by
    intro m
    induction m with
    | zero => intro k a h; exact h
    | succ m ih =>
      intro k a h
      refine ih (k + 1) _ ?_
      show (if (pT s).testBit k then a &&& pK s k else a) < 65536
      split
      · exact Nat.lt_of_le_of_lt Nat.and_le_left h
      · exact h
  unfold yAll
  apply key
  split <;> omega
theorem e_knownToAll {F h : Nat} {s : zPS} {μ : zMem} (hF : 17 ≤ F) (hr : zRepS h s μ) (hw : zWFS s) : fX8_knownToAll F h μ = some (nI (yAll s), μ) := by
  have key : ∀ m k a n, k + m = 16 → m < n → fX8_knownToAll_16 F h n (nI a) (nI k) μ = some (nI (zFold (fun p a => if (pT s).testBit p then a &&& pK s p else a) m k a), μ) := by
    intro m
    induction m with
    | zero =>
      intro k a n hk hn
      obtain ⟨n, rfl⟩ := z_s hn
      rw [fX8_knownToAll_16, z_done (by omega) (by omega)]
      rfl
    | succ m ih =>
      intro k a n hk hn
      obtain ⟨n, rfl⟩ := z_s hn
      rw [fX8_knownToAll_16, z_more (by omega) (by decide), e_isTold hr hw, zBd_s, zTold_n (by omega), nI_add]
      show _ = some (nI (zFold _ m (k + 1) (if (pT s).testBit k then a &&& pK s k else a)), μ)
      cases (pT s).testBit k
      · rw [z_bf]; exact ih (k + 1) _ n (by omega) (by omega)
      · rw [z_bt, zG_in rfl (by omega) (by decide), cl9 (by omega), hr.2.2.2.2.1 k (by omega), fa_and]
        exact ih (k + 1) _ n (by omega) (by omega)
  have hT := hw.1
  unfold fX8_knownToAll yAll
  rw [hr.1]
  by_cases h0 : pT s = 0
  · rw [h0, if_pos rfl, if_pos (show nI 0 = 0 from rfl)]
    have := key 16 0 0 F rfl (by omega)
    rw [h0] at this
    exact this
  · rw [if_neg (fun z => h0 ((nI_z (by omega)).mp z)), if_neg h0]
    exact key 16 0 65535 F rfl (by omega)
theorem e_knownByAll {F : Nat} {s : zPS} {μ : zMem} (hF : 17 ≤ F) (hr : zRepN 61 s μ) (hw : zWFS s) : fX12_knownByAll F μ = some (nI (yAll s), μ) := by
  have key : ∀ m k a n, k + m = 16 → m < n → fX12_knownByAll_16 F n (nI a) (nI k) μ = some (nI (zFold (fun p a => if (pT s).testBit p then a &&& pK s p else a) m k a), μ) := by
    intro m
    induction m with
    | zero =>
      intro k a n hk hn
      obtain ⟨n, rfl⟩ := z_s hn
      rw [fX12_knownByAll_16, z_done (by omega) (by omega)]
      rfl
    | succ m ih =>
      intro k a n hk hn
      obtain ⟨n, rfl⟩ := z_s hn
      rw [fX12_knownByAll_16, z_more (by omega) (by decide), e_mTold hr, zBd_s, zTold_n (by omega), nI_add, nI_add]
      show _ = some (nI (zFold _ m (k + 1) (if (pT s).testBit k then a &&& pK s k else a)), μ)
      cases (pT s).testBit k
      · rw [z_bf]; exact ih (k + 1) _ n (by omega) (by omega)
      · rw [z_bt, zG_in rfl (by omega) (by decide), cl9 (by omega), hr.2.1 k (by omega), fa_and]
        exact ih (k + 1) _ n (by omega) (by omega)
  have hT := hw.1
  unfold fX12_knownByAll yAll
  rw [e_toldSet hF hr hw, zBd_s]
  by_cases h0 : pT s = 0
  · rw [h0, if_pos rfl, if_pos (show nI 0 = 0 from rfl)]
    have := key 16 0 0 F rfl (by omega)
    rw [h0] at this
    exact this
  · rw [if_neg (fun z => h0 ((nI_z (by omega)).mp z)), if_neg h0]
    exact key 16 0 65535 F rfl (by omega)
theorem pr_tried {F : Nat} (hF : 1100 ≤ F) (x w : Int32) : zPair (fX11_tried F x w) (fX12_tried F x w) := by
  refine zPair.mk fun A μ hW hC => ?_
  cases hz : zIn x 1 100
  · refine ⟨-1, A, μ, ?_, hW, hC, fun _ _ => rfl, fun μ' hM => ⟨μ', ?_, hM, fun _ _ => rfl⟩⟩
    · unfold fX11_tried
      rw [e_isTold hC.2.1 hW.2.1, zBd_s, e_isWithin, zBd_s, hz, z_bf]
    · unfold fX12_tried
      rw [e_in, zBd_s, hz, z_bf]
  · obtain ⟨N, h1N, hN, rfl⟩ := zIn_t (by decide) (by decide) hz
    by_cases hok : zIn w 0 3 = false ∧ zTold (aN A) (w - nI 100) = false
    · refine ⟨-1, A, μ, ?_, hW, hC, fun _ _ => rfl, fun μ' hM => ⟨μ', ?_, hM, fun _ _ => rfl⟩⟩
      · unfold fX11_tried
        rw [e_isTold hC.2.1 hW.2.1, zBd_s, e_isWithin, zBd_s, hz, z_bt, e_isWithin, zBd_s, hok.1, z_bf, hok.2, z_bf]
      · unfold fX12_tried
        rw [e_in, zBd_s, hz, z_bt, e_in, zBd_s, hok.1, z_bf, e_mTold hM.2.1, zBd_s, hok.2, z_bf]
    · obtain ⟨s', t, e, g1, g2, g3, g4, g5, g6⟩ := weeks_k hW.2.2.2.1 hN N 0 (aN A) (by omega) hW.2.1
      obtain ⟨a, ha, hla, h18, hL⟩ := yLw.get hC.2.2.2.1
      obtain ⟨r0, m0, k1, k2, k3⟩ := e_becomes (F := F) (h0 := 13) (h1 := 3) (by omega) hW.2.1 hC.2.1
      obtain ⟨m1, b1, b2, b3, b4⟩ := g5 F 13 a F 0 (zUp m0 33 2 (nI 0)) (by omega) (by omega) (by omega) ha (k2.of (fun c h1 h2 => zUp_ne (by omega))) (hL.of (fun c h1 h2 => by rw [zUp_ne (by omega), k3 c (by omega)]))
      have ec : ∀ c, (c < 13 ∨ 17 < c) → c ≠ 33 → c ≠ 34 → c ≠ 35 → m1 c = μ c := fun c h1 h2 h3 h4 => by rw [b4 c (by omega) h2 h3 h4, zUp_ne h2, k3 c (by omega)]
      have hval : w = nI 0 ∨ w = nI 1 ∨ w = nI 2 ∨ w = nI 3 ∨ ∃ p, p < 16 ∧ (pT (aN A)).testBit p = true ∧ w = nI (100 + p) := by
        cases hw3 : zIn w 0 3 with
        | true =>
          obtain ⟨j, -, hj, rfl⟩ := zIn_t (by decide) (by decide) hw3
          have : j = 0 ∨ j = 1 ∨ j = 2 ∨ j = 3 := by omega
          rcases this with rfl | rfl | rfl | rfl
          · exact Or.inl rfl
          · exact Or.inr (Or.inl rfl)
          · exact Or.inr (Or.inr (Or.inl rfl))
          · exact Or.inr (Or.inr (Or.inr (Or.inl rfl)))
        | false =>
          have ht : zTold (aN A) (w - nI 100) = true := by
            cases h : zTold (aN A) (w - nI 100)
            · exact absurd ⟨hw3, h⟩ hok
            · rfl
          have hz2 : zIn (w - nI 100) 0 15 = true := by unfold zTold at ht; exact (Bool.and_eq_true _ _ ▸ ht).1
          obtain ⟨j, -, hj, ej⟩ := zIn_t (by decide) (by decide) hz2
          rw [ej, zTold_n (by omega)] at ht
          refine Or.inr (Or.inr (Or.inr (Or.inr ⟨j, by omega, ht, ?_⟩)))
          have : w = (w - nI 100) + nI 100 := by rw [Int32.sub_add_cancel]
          rw [this, ej, nI_add, Nat.add_comm]
      have hC' : zRepC A m1 := hC.trial (fun c _ h1 h2 h3 h4 => ec c h1 h2 h3 h4)
      have c37 : fX11_tried F (nI N) w μ = fX11_tried_37 F (nI N) w μ := by
        unfold fX11_tried
        rw [e_isTold hC.2.1 hW.2.1, zBd_s, e_isWithin, zBd_s, hz, z_bt, e_isWithin, zBd_s]
        cases h1 : zIn w 0 3
        · rw [z_bf]
          cases h2 : zTold (aN A) (w - nI 100)
          · exact absurd ⟨h1, h2⟩ hok
          · rw [z_bt]
        · rw [z_bt]
      have cK : fX11_tried_37 F (nI N) w μ = (if w = (nI 0) then some (nI t, m1) else if w = (nI 1) then some ((m1 33 2), m1) else if w = (nI 2) then zBd (fX8_knownToAny F 13 m1) (fun r12 m12 => some (r12, m12)) else if w = (nI 3) then zBd (fX8_knownToAll F 13 m1) (fun r14 m14 => some (r14, m14)) else zBd (fX8_secretsOf F 13 (w - (nI 100)) m1) (fun r16 m16 => some (r16, m16))) := by
        unfold fX11_tried_37 fX10_goesByTimes
        rw [k1, zBd_s, k3 18 (by omega), h18, cl9 (by omega), zGb_t hla]
        show zBd (fX10_goesByTimes_11 F 13 a F (nI N) (nI 0) (nI 0) (zUp m0 33 2 (nI 0))) _ = _
        rw [b1, zBd_s, Nat.zero_add]
      have e33 : m1 33 2 = nI e := by rw [b3, zUp_s, nI_add, Nat.zero_add]
      have cM2 : ∀ μ', zRepM A μ' → ∃ (r4 : Int32) (m3 m4 : zMem), (∃ r3, fX12_copies F 61 62 μ' = some (r3, m3)) ∧ fX12_weeksGo F (nI N) m3 = some (r4, m4) ∧ zRepN 61 s' m4 ∧ zRepN 62 (aN A) m4 ∧ m4 60 34 = nI t ∧ m4 60 35 = nI e ∧ (∀ j, j ≠ 34 → j ≠ 35 → m4 60 j = μ' 60 j) ∧ ∀ c, c ≠ 60 → c ≠ 61 → c ≠ 62 → c ≠ 80 → c ≠ 81 → m4 c = μ' c := by
        intro μ' hM
        obtain ⟨r3, m3, d1, d2, d3⟩ := e_copies (F := F) (h0 := 61) (h1 := 62) (by omega) (by decide) hW.2.1 hM.2.1
        obtain ⟨r2, m2, c1, c2, c3, c4, c5, c6⟩ := g6 F F (zUp (zUp m3 60 34 (nI 0)) 60 35 (nI 0)) (by omega) (by omega) (hM.2.1.of (by rw [zUp_ne (by decide), zUp_ne (by decide), d3 61 (by decide)])) (hM.2.2.2.1.of (by rw [zUp_o (by decide), zUp_o (by decide), d3 60 (by decide)]) (fun c h1 h2 => by rw [zUp_ne (by omega), zUp_ne (by omega), d3 c (by omega)]))
        refine ⟨r2, m3, m2, ⟨r3, d1⟩, c1, c2, d2.of (by rw [c6 62 (by decide) (by decide) (by decide) (by decide), zUp_ne (by decide), zUp_ne (by decide)]), by rw [c3, zUp_o (by decide), zUp_s, nI_add, Nat.zero_add], by rw [c4, zUp_s, nI_add, Nat.zero_add], fun j h1 h2 => by rw [c5 j h1 h2, zUp_o h2, zUp_o h1, d3 60 (by decide)], fun c h1 h2 h3 h4 h5 => by rw [c6 c h1 h2 h4 h5, zUp_ne h1, zUp_ne h1, d3 c h3]⟩
      have m32 : ∀ μ', zRepM A μ' → fX12_tried F (nI N) w μ' = fX12_tried_32 F (nI N) w μ' := by
        intro μ' hM
        unfold fX12_tried
        rw [e_in, zBd_s, hz, z_bt, e_in, zBd_s]
        cases h1 : zIn w 0 3
        · rw [z_bf, e_mTold hM.2.1, zBd_s]
          cases h2 : zTold (aN A) (w - nI 100)
          · exact absurd ⟨h1, h2⟩ hok
          · rw [z_bt]
        · rw [z_bt]
      -- the end of each way
      have fin : ∀ (v : Int32), fX11_tried_37 F (nI N) w μ = some (v, m1) → (∀ (r4 : Int32) (m3 m4 : zMem), zRepN 61 s' m4 → m4 60 34 = nI t → m4 60 35 = nI e → (if w = (nI 0) then zBd (fX12_copies F 62 61 m4) (fun r8 m8 => some ((m4 60 34), m8)) else if w = (nI 1) then zBd (fX12_copies F 62 61 m4) (fun r12 m12 => some ((m4 60 35), m12)) else if w = (nI 2) then zBd (fX12_knownByAny F m4) (fun r13 m13 => zBd (fX12_copies F 62 61 m13) (fun r16 m16 => some (r13, m16))) else if w = (nI 3) then zBd (fX12_knownByAll F m4) (fun r17 m17 => zBd (fX12_copies F 62 61 m17) (fun r20 m20 => some (r17, m20))) else zG (((nI 16) + w) - (nI 100)) 1047 (zBd (fX12_copies F 62 61 m4) (fun r24 m24 => some ((m4 61 (((nI 16) + w) - (nI 100)).toNatClampNeg), m24)))) = zBd (fX12_copies F 62 61 m4) (fun r8 m8 => some (v, m8))) → ∃ (r : Int32) (A' : zAS) (μ1 : zMem), fX11_tried F (nI N) w μ = some (r, μ1) ∧ zWF A' ∧ zRepC A' μ1 ∧ (∀ k, 60 ≤ k → μ1 k = μ k) ∧ ∀ μ', zRepM A μ' → ∃ μ2, fX12_tried F (nI N) w μ' = some (r, μ2) ∧ zRepM A' μ2 ∧ ∀ k, k < 60 → μ2 k = μ' k := by
        intro v hv hm
        refine ⟨v, A, m1, by rw [c37, hv], hW, hC', fun c hc => ec c (by omega) (by omega) (by omega) (by omega), fun μ' hM => ?_⟩
        obtain ⟨r4, m3, m4, ⟨r3, d1⟩, d2, d3, d4, d5, d6, d7, d8⟩ := cM2 μ' hM
        obtain ⟨r5, m5, e1, e2, e3⟩ := e_copies (F := F) (h0 := 62) (h1 := 61) (by omega) (by decide) hW.2.1 d4
        have e60 : ∀ j, j ≠ 34 → j ≠ 35 → m5 60 j = μ' 60 j := fun j h1 h2 => by rw [e3 60 (by decide), d7 j h1 h2]
        have ek : ∀ c, c ≠ 60 → c ≠ 61 → c ≠ 62 → c ≠ 80 → c ≠ 81 → m5 c = μ' c := fun c h1 h2 h3 h4 h5 => by rw [e3 c h2, d8 c h1 h2 h3 h4 h5]
        refine ⟨m5, ?_, hM.now2 e2 (fun j hj => e60 j (by omega) (by omega)) (fun c hc => ek c (by omega) (by omega) (by omega) (by omega) (by omega)), fun c hc => ek c (by omega) (by omega) (by omega) (by omega) (by omega)⟩
        rw [m32 μ' hM]
        unfold fX12_tried_32
        rw [d1, zBd_s, d2, zBd_s, hm r4 m3 m4 d3 d5 d6, e1, zBd_s]
      rcases hval with rfl | rfl | rfl | rfl | ⟨p, hp, htp, rfl⟩
      · refine fin (nI t) (by rw [cK, if_pos rfl]) (fun r4 m3 m4 d3 d5 d6 => by rw [if_pos rfl, d5])
      · refine fin (nI e) (by rw [cK, if_neg (by decide), if_pos rfl, e33]) (fun r4 m3 m4 d3 d5 d6 => by rw [if_neg (by decide), if_pos rfl, d6])
      · refine fin (nI (yAny s')) (by rw [cK, if_neg (by decide), if_neg (by decide), if_pos rfl, e_knownToAny (by omega) b2 g1, zBd_s]) (fun r4 m3 m4 d3 d5 d6 => by rw [if_neg (by decide), if_neg (by decide), if_pos rfl, e_knownByAny (by omega) d3 g1, zBd_s])
      · refine fin (nI (yAll s')) (by rw [cK, if_neg (by decide), if_neg (by decide), if_neg (by decide), if_pos rfl, e_knownToAll (by omega) b2 g1, zBd_s]) (fun r4 m3 m4 d3 d5 d6 => by rw [if_neg (by decide), if_neg (by decide), if_neg (by decide), if_pos rfl, e_knownByAll (by omega) d3 g1, zBd_s])
      · have n0 : ¬ nI (100 + p) = nI 0 := by rw [nI_eq (by omega) (by decide)]; omega
        have n1 : ¬ nI (100 + p) = nI 1 := by rw [nI_eq (by omega) (by decide)]; omega
        have n2 : ¬ nI (100 + p) = nI 2 := by rw [nI_eq (by omega) (by decide)]; omega
        have n3 : ¬ nI (100 + p) = nI 3 := by rw [nI_eq (by omega) (by decide)]; omega
        have hsec : zSec s' p = pK s' p := by unfold zSec; rw [g2, htp]; rfl
        refine fin (nI (pK s' p)) (by rw [cK, if_neg n0, if_neg n1, if_neg n2, if_neg n3, pk_sub (by omega), show 100 + p - 100 = p by omega, e_secretsOf b2 g1 hp, zBd_s, hsec]) (fun r4 m3 m4 d3 d5 d6 => ?_)
        rw [if_neg n0, if_neg n1, if_neg n2, if_neg n3, nI_add, pk_sub (by omega), show 16 + (100 + p) - 100 = 16 + p by omega, zG_in rfl (by omega) (by decide), cl9 (by omega), d3.2.1 p hp]
