/-! ===== allKnow, silent ===== -/
theorem allKnow_k {l : zLS} (hl : zWFL l) {N c0 : Nat} (hN : N ≤ 100) (hc0 : c0 < 16) : ∀ m k s, k + m = N → zWFS s → ∃ r : Int32,
    (∀ (F a f : Nat) (μ : zMem), 300 ≤ F → m < f → (a = 19 ∨ a = 26) → μ 18 0 = nI a → zRepS 13 s μ → yLw l a μ → ∃ m1, fX11_allKnow_32 F f (nI c0) (nI N) (nI k) μ = some (r, m1) ∧ ∀ c, (c < 13 ∨ 17 < c) → c ≠ 33 → c ≠ 34 → c ≠ 35 → m1 c = μ c) ∧
    ∀ (F f : Nat) (s0 : zPS) (μ : zMem), 1100 ≤ F → m < f → zWFS s0 → zRepN 61 s μ → zRepN 62 s0 μ → zLawM l μ → ∃ m1, fX12_allKnow_35 F f (nI c0) (nI N) (nI k) μ = some (r, m1) ∧ zRepN 61 s0 m1 ∧ (∀ j, j ≠ 34 → j ≠ 35 → m1 60 j = μ 60 j) ∧ ∀ c, c ≠ 60 → c ≠ 61 → c ≠ 80 → c ≠ 81 → m1 c = μ c := by
  intro m
  induction m with
  | zero =>
    intro k s hk hw
    have hA := yAll_lt s
    cases hb : (yAll s).testBit c0 with
    | false =>
      refine ⟨-2, fun F a f μ hF hf ha h18 hr hL => ⟨μ, ?_, fun _ _ _ _ _ => rfl⟩, fun F f s0 μ hF hf hw0 hr h62 hL => ?_⟩
      · obtain ⟨f, rfl⟩ := z_s hf
        rw [fX11_allKnow_32, if_neg (fun z => by have := (nI_ltI (by omega) (by omega)).mp z; omega), e_knownToAll (by omega) hr hw, zBd_s, e_hasBit (by omega) (by omega), zBd_s, hb, z_bf, if_pos (by rw [show k = N by omega])]
      · obtain ⟨f, rfl⟩ := z_s hf
        obtain ⟨r5, m5, e1, e2, e3⟩ := e_copies (F := F) (h0 := 62) (h1 := 61) (by omega) (by decide) hw0 h62
        refine ⟨m5, ?_, e2, fun j _ _ => by rw [e3 60 (by decide)], fun c h1 h2 _ _ => e3 c h2⟩
        rw [fX12_allKnow_35, e_knownByAll (by omega) hr hw, zBd_s, e_has (by omega) (by omega), zBd_s, hb, z_bf, z_done (by omega) (by omega)]
        unfold fX12_allKnow_76
        rw [e_knownByAll (by omega) hr hw, zBd_s, e_has (by omega) (by omega), zBd_s, hb, e1, zBd_s, z_bf]
    | true =>
      refine ⟨nI k, fun F a f μ hF hf ha h18 hr hL => ⟨μ, ?_, fun _ _ _ _ _ => rfl⟩, fun F f s0 μ hF hf hw0 hr h62 hL => ?_⟩
      · obtain ⟨f, rfl⟩ := z_s hf
        rw [fX11_allKnow_32, if_neg (fun z => by have := (nI_ltI (by omega) (by omega)).mp z; omega), e_knownToAll (by omega) hr hw, zBd_s, e_hasBit (by omega) (by omega), zBd_s, hb, z_bt]
      · obtain ⟨f, rfl⟩ := z_s hf
        obtain ⟨r5, m5, e1, e2, e3⟩ := e_copies (F := F) (h0 := 62) (h1 := 61) (by omega) (by decide) hw0 h62
        refine ⟨m5, ?_, e2, fun j _ _ => by rw [e3 60 (by decide)], fun c h1 h2 _ _ => e3 c h2⟩
        rw [fX12_allKnow_35, e_knownByAll (by omega) hr hw, zBd_s, e_has (by omega) (by omega), zBd_s, hb, z_bt]
        unfold fX12_allKnow_76
        rw [e_knownByAll (by omega) hr hw, zBd_s, e_has (by omega) (by omega), zBd_s, hb, e1, zBd_s, z_bt]
  | succ m ih =>
    intro k s hk hw
    have hA := yAll_lt s
    have hpw := hw.2.2.2.2.2.2.2.2.1
    cases hb : (yAll s).testBit c0 with
    | true =>
      refine ⟨nI k, fun F a f μ hF hf ha h18 hr hL => ⟨μ, ?_, fun _ _ _ _ _ => rfl⟩, fun F f s0 μ hF hf hw0 hr h62 hL => ?_⟩
      · obtain ⟨f, rfl⟩ := z_s hf
        rw [fX11_allKnow_32, if_neg (fun z => by have := (nI_ltI (by omega) (by omega)).mp z; omega), e_knownToAll (by omega) hr hw, zBd_s, e_hasBit (by omega) (by omega), zBd_s, hb, z_bt]
      · obtain ⟨f, rfl⟩ := z_s hf
        obtain ⟨r5, m5, e1, e2, e3⟩ := e_copies (F := F) (h0 := 62) (h1 := 61) (by omega) (by decide) hw0 h62
        refine ⟨m5, ?_, e2, fun j _ _ => by rw [e3 60 (by decide)], fun c h1 h2 _ _ => e3 c h2⟩
        rw [fX12_allKnow_35, e_knownByAll (by omega) hr hw, zBd_s, e_has (by omega) (by omega), zBd_s, hb, z_bt]
        unfold fX12_allKnow_76
        rw [e_knownByAll (by omega) hr hw, zBd_s, e_has (by omega) (by omega), zBd_s, hb, e1, zBd_s, z_bt]
    | false =>
      by_cases h9 : pw s < 9999
      · obtain ⟨s1, n1, e1, a1, a2, a3, a4, a5, a6, a7⟩ := week_ex hw hl h9
        obtain ⟨r, g1, g2⟩ := ih (k + 1) s1 (by omega) a1
        refine ⟨r, fun F a f μ hF hf ha h18 hr hL => ?_, fun F f s0 μ hF hf hw0 hr h62 hL => ?_⟩
        · obtain ⟨f, rfl⟩ := z_s hf
          obtain ⟨m1, b1, b2, b3, b4⟩ := a6 F 13 a μ hF (by omega) ha hr hL
          obtain ⟨m2, c1, c2⟩ := g1 F a f m1 hF (by omega) ha (by rw [b4 18 (by omega) (by omega) (by omega) (by omega)]; exact h18) b2 (hL.of (fun c h1 h2 => b4 c (by omega) (by omega) (by omega) (by omega)))
          refine ⟨m2, ?_, fun c h1 h2 h3 h4 => by rw [c2 c h1 h2 h3 h4, b4 c (by omega) h2 h3 h4]⟩
          rw [fX11_allKnow_32, if_neg (fun z => by have := (nI_ltI (by omega) (by omega)).mp z; omega), e_knownToAll (by omega) hr hw, zBd_s, e_hasBit (by omega) (by omega), zBd_s, hb, z_bf, if_neg (fun z => by have := (nI_eq (by omega) (by omega)).mp z; omega), h18, cl9 (by omega), zGb_t (by rcases ha with rfl | rfl <;> rfl), b1, zBd_s, if_neg (nI_m1 (by omega)), nI_add]
          exact c1
        · obtain ⟨f, rfl⟩ := z_s hf
          obtain ⟨r3, m1, b1, b2, b3, b4, b5, b6⟩ := a7 F μ (by omega) hr hL
          obtain ⟨m2, c1, c2, c3, c4⟩ := g2 F f s0 m1 hF (by omega) hw0 b2 (h62.of (b6 62 (by decide) (by decide) (by decide) (by decide))) (hL.of (b5 18 (by decide) (by decide)) (fun c h1 h2 => b6 c (by omega) (by omega) (by omega) (by omega)))
          refine ⟨m2, ?_, c2, fun j h1 h2 => by rw [c3 j h1 h2, b5 j h1 h2], fun c h1 h2 h3 h4 => by rw [c4 c h1 h2 h3 h4, b6 c h1 h2 h3 h4]⟩
          rw [fX12_allKnow_35, e_knownByAll (by omega) hr hw, zBd_s, e_has (by omega) (by omega), zBd_s, hb, z_bf, z_more (by omega) (by omega), zG_in rfl (by decide) (by decide), cl9 (by decide), hr.2.2.2.2.2.2.2.1, z_more h9 (by decide), b1, zBd_s, nI_add]
          exact c1
      · refine ⟨-2, fun F a f μ hF hf ha h18 hr hL => ⟨μ, ?_, fun _ _ _ _ _ => rfl⟩, fun F f s0 μ hF hf hw0 hr h62 hL => ?_⟩
        · obtain ⟨f, rfl⟩ := z_s hf
          rw [fX11_allKnow_32, if_neg (fun z => by have := (nI_ltI (by omega) (by omega)).mp z; omega), e_knownToAll (by omega) hr hw, zBd_s, e_hasBit (by omega) (by omega), zBd_s, hb, z_bf, if_neg (fun z => by have := (nI_eq (by omega) (by omega)).mp z; omega), h18, cl9 (by omega), zGb_t (by rcases ha with rfl | rfl <;> rfl), week_no hr hw h9, zBd_s, if_pos rfl]
        · obtain ⟨f, rfl⟩ := z_s hf
          obtain ⟨r5, m5, e1, e2, e3⟩ := e_copies (F := F) (h0 := 62) (h1 := 61) (by omega) (by decide) hw0 h62
          refine ⟨m5, ?_, e2, fun j _ _ => by rw [e3 60 (by decide)], fun c h1 h2 _ _ => e3 c h2⟩
          rw [fX12_allKnow_35, e_knownByAll (by omega) hr hw, zBd_s, e_has (by omega) (by omega), zBd_s, hb, z_bf, z_more (by omega) (by omega), zG_in rfl (by decide) (by decide), cl9 (by decide), hr.2.2.2.2.2.2.2.1, z_done (by omega) (by omega)]
          unfold fX12_allKnow_76
          rw [e_knownByAll (by omega) hr hw, zBd_s, e_has (by omega) (by omega), zBd_s, hb, e1, zBd_s, z_bf]
theorem pr_allKnow {F : Nat} (hF : 1100 ≤ F) (x y : Int32) : zPair (fX11_allKnow F x y) (fX12_allKnow F x y) := by
  refine zPair.mk fun A μ hW hC => ?_
  cases hx : zIn x 0 15
  · refine ⟨-1, A, μ, ?_, hW, hC, fun _ _ => rfl, fun μ' hM => ⟨μ', ?_, hM, fun _ _ => rfl⟩⟩
    · unfold fX11_allKnow
      rw [e_isSecret, zBd_s, hx, z_bf]
    · unfold fX12_allKnow
      rw [e_in, zBd_s, hx, z_bf]
  · cases hz : zIn y 1 100
    · refine ⟨-1, A, μ, ?_, hW, hC, fun _ _ => rfl, fun μ' hM => ⟨μ', ?_, hM, fun _ _ => rfl⟩⟩
      · unfold fX11_allKnow
        rw [e_isSecret, zBd_s, hx, z_bt, e_isWithin, zBd_s, hz, z_bf]
      · unfold fX12_allKnow
        rw [e_in, zBd_s, hx, z_bt, e_in, zBd_s, hz, z_bf]
    · obtain ⟨N, h1N, hN, rfl⟩ := zIn_t (by decide) (by decide) hz
      obtain ⟨c0, -, hc0, rfl⟩ := zIn_t (by decide) (by decide) hx
      obtain ⟨r, g1, g2⟩ := allKnow_k hW.2.2.2.1 (N := N) (c0 := c0) hN (by omega) N 0 (aN A) (by omega) hW.2.1
      obtain ⟨a, ha, hla, h18, hL⟩ := yLw.get hC.2.2.2.1
      obtain ⟨r0, m0, k1, k2, k3⟩ := e_becomes (F := F) (h0 := 13) (h1 := 3) (by omega) hW.2.1 hC.2.1
      obtain ⟨m1, b1, b2⟩ := g1 F a F m0 (by omega) (by omega) ha (by rw [k3 18 (by omega)]; exact h18) k2 (hL.of (fun c h1 h2 => k3 c (by omega)))
      have ec : ∀ c, (c < 13 ∨ 17 < c) → c ≠ 33 → c ≠ 34 → c ≠ 35 → m1 c = μ c := fun c h1 h2 h3 h4 => by rw [b2 c (by omega) h2 h3 h4, k3 c (by omega)]
      refine ⟨r, A, m1, ?_, hW, hC.trial (fun c _ h1 h2 h3 h4 => ec c h1 h2 h3 h4), fun c hc => ec c (by omega) (by omega) (by omega) (by omega), fun μ' hM => ?_⟩
      · unfold fX11_allKnow
        rw [e_isSecret, zBd_s, hx, z_bt, e_isWithin, zBd_s, hz, z_bt, k1, zBd_s]
        exact b1
      · obtain ⟨r3, m3, d1, d2, d3⟩ := e_copies (F := F) (h0 := 61) (h1 := 62) (by omega) (by decide) hW.2.1 hM.2.1
        obtain ⟨m2, c1, c2, c3, c4⟩ := g2 F F (aN A) m3 hF (by omega) hW.2.1 (hM.2.1.of (d3 61 (by decide))) d2 (hM.2.2.2.1.of (by rw [d3 60 (by decide)]) (fun c h1 h2 => d3 c (by omega)))
        refine ⟨m2, ?_, hM.now2 c2 (fun j hj => by rw [c3 j (by omega) (by omega), d3 60 (by decide)]) (fun c hc => by rw [c4 c (by omega) (by omega) (by omega) (by omega), d3 c (by omega)]), fun c hc => by rw [c4 c (by omega) (by omega) (by omega) (by omega), d3 c (by omega)]⟩
        unfold fX12_allKnow
        rw [e_in, zBd_s, hx, z_bt, e_in, zBd_s, hz, z_bt, d1, zBd_s]
        exact c1
theorem silent_k {l : zLS} (hl : zWFL l) {N : Nat} (hN : N ≤ 100) : ∀ m k row lg s, k + m = N → row ≤ k → lg ≤ k → zWFS s → ∃ r : Int32,
    (∀ (F a f : Nat) (μ : zMem), 300 ≤ F → m < f → (a = 19 ∨ a = 26) → μ 18 0 = nI a → zRepS 13 s μ → yLw l a μ → ∃ m1, fX11_silent_30 F f (nI N) (nI row) (nI lg) (nI k) μ = some (r, m1) ∧ ∀ c, (c < 13 ∨ 17 < c) → c ≠ 33 → c ≠ 34 → c ≠ 35 → m1 c = μ c) ∧
    ∀ (F f : Nat) (s0 : zPS) (μ : zMem), 1100 ≤ F → m < f → zWFS s0 → zRepN 61 s μ → zRepN 62 s0 μ → zLawM l μ → ∃ m1, fX12_silent_30 F f (nI N) (nI row) (nI lg) (nI k) μ = some (r, m1) ∧ zRepN 61 s0 m1 ∧ (∀ j, j ≠ 34 → j ≠ 35 → m1 60 j = μ 60 j) ∧ ∀ c, c ≠ 60 → c ≠ 61 → c ≠ 80 → c ≠ 81 → m1 c = μ c := by
  intro m
  induction m with
  | zero =>
    intro k row lg s hk hrow hlg hw
    refine ⟨nI lg, fun F a f μ hF hf ha h18 hr hL => ⟨μ, ?_, fun _ _ _ _ _ => rfl⟩, fun F f s0 μ hF hf hw0 hr h62 hL => ?_⟩
    · obtain ⟨f, rfl⟩ := z_s hf
      rw [fX11_silent_30, z_done (by omega) (by omega)]
    · obtain ⟨f, rfl⟩ := z_s hf
      obtain ⟨r5, m5, e1, e2, e3⟩ := e_copies (F := F) (h0 := 62) (h1 := 61) (by omega) (by decide) hw0 h62
      refine ⟨m5, ?_, e2, fun j _ _ => by rw [e3 60 (by decide)], fun c h1 h2 _ _ => e3 c h2⟩
      rw [fX12_silent_30, z_done (by omega) (by omega), e1, zBd_s]
  | succ m ih =>
    intro k row lg s hk hrow hlg hw
    have hpw := hw.2.2.2.2.2.2.2.2.1
    by_cases h9 : pw s < 9999
    · obtain ⟨s1, n1, e1, a1, a2, a3, a4, a5, a6, a7⟩ := week_ex hw hl h9
      obtain ⟨row', hrow', erow⟩ : ∃ row', row' ≤ k + 1 ∧ row' = if n1 = 0 then row + 1 else 0 := ⟨_, by split <;> omega, rfl⟩
      obtain ⟨r, g1, g2⟩ := ih (k + 1) row' (max lg row') s1 (by omega) hrow' (by omega) a1
      refine ⟨r, fun F a f μ hF hf ha h18 hr hL => ?_, fun F f s0 μ hF hf hw0 hr h62 hL => ?_⟩
      · obtain ⟨f, rfl⟩ := z_s hf
        obtain ⟨m1, b1, b2, b3, b4⟩ := a6 F 13 a μ hF (by omega) ha hr hL
        obtain ⟨m2, c1, c2⟩ := g1 F a f m1 hF (by omega) ha (by rw [b4 18 (by omega) (by omega) (by omega) (by omega)]; exact h18) b2 (hL.of (fun c h1 h2 => b4 c (by omega) (by omega) (by omega) (by omega)))
        refine ⟨m2, ?_, fun c h1 h2 h3 h4 => by rw [c2 c h1 h2 h3 h4, b4 c (by omega) h2 h3 h4]⟩
        rw [fX11_silent_30, z_more (by omega) (by omega), h18, cl9 (by omega), zGb_t (by rcases ha with rfl | rfl <;> rfl), b1, zBd_s, if_neg (nI_m1 (by omega)), nI_add, nI_add]
        by_cases h0 : n1 = 0
        · rw [if_pos h0] at erow
          rw [h0, if_pos (show nI 0 = 0 from rfl), e_max (by omega) (by omega), zBd_s, ← erow]
          exact c1
        · rw [if_neg h0] at erow
          rw [if_neg (fun z => h0 ((nI_z (by omega)).mp z)), e_max (by omega) (by omega), zBd_s, ← erow]
          exact c1
      · obtain ⟨f, rfl⟩ := z_s hf
        obtain ⟨r3, m1, b1, b2, b3, b4, b5, b6⟩ := a7 F (zUp μ 60 34 (nI 0)) (by omega) (hr.of (zUp_ne (by decide))) (hL.of (zUp_o (by decide)) (fun c h1 h2 => zUp_ne (by omega)))
        rw [zUp_s, nI_add, Nat.zero_add] at b3
        obtain ⟨m2, c1, c2, c3, c4⟩ := g2 F f s0 m1 hF (by omega) hw0 b2 (h62.of (by rw [b6 62 (by decide) (by decide) (by decide) (by decide), zUp_ne (by decide)])) (hL.of (by rw [b5 18 (by decide) (by decide), zUp_o (by decide)]) (fun c h1 h2 => by rw [b6 c (by omega) (by omega) (by omega) (by omega), zUp_ne (by omega)]))
        refine ⟨m2, ?_, c2, fun j h1 h2 => by rw [c3 j h1 h2, b5 j h1 h2, zUp_o h1], fun c h1 h2 h3 h4 => by rw [c4 c h1 h2 h3 h4, b6 c h1 h2 h3 h4, zUp_ne h1]⟩
        rw [fX12_silent_30, z_more (by omega) (by omega), zG_in rfl (by decide) (by decide), cl9 (by decide), hr.2.2.2.2.2.2.2.1, z_more h9 (by decide)]
        dsimp only [zLt]
        rw [b1, zBd_s, b3, nI_add, nI_add]
        by_cases h0 : n1 = 0
        · rw [if_pos h0] at erow
          rw [h0, if_pos (show nI 0 ≤ 0 by decide), e_mmax (by omega) (by omega), zBd_s, ← erow]
          exact c1
        · rw [if_neg h0] at erow
          rw [if_neg (nI_nle (by omega) (by omega)), e_mmax (by omega) (by omega), zBd_s, ← erow]
          exact c1
    · refine ⟨nI lg, fun F a f μ hF hf ha h18 hr hL => ⟨μ, ?_, fun _ _ _ _ _ => rfl⟩, fun F f s0 μ hF hf hw0 hr h62 hL => ?_⟩
      · obtain ⟨f, rfl⟩ := z_s hf
        rw [fX11_silent_30, z_more (by omega) (by omega), h18, cl9 (by omega), zGb_t (by rcases ha with rfl | rfl <;> rfl), week_no hr hw h9, zBd_s, if_pos rfl]
      · obtain ⟨f, rfl⟩ := z_s hf
        obtain ⟨r5, m5, e1, e2, e3⟩ := e_copies (F := F) (h0 := 62) (h1 := 61) (by omega) (by decide) hw0 h62
        refine ⟨m5, ?_, e2, fun j _ _ => by rw [e3 60 (by decide)], fun c h1 h2 _ _ => e3 c h2⟩
        rw [fX12_silent_30, z_more (by omega) (by omega), zG_in rfl (by decide) (by decide), cl9 (by decide), hr.2.2.2.2.2.2.2.1, z_done (by omega) (by omega), e1, zBd_s]
theorem pr_silent {F : Nat} (hF : 1100 ≤ F) (y : Int32) : zPair (fX11_silent F y) (fX12_silent F y) := by
  refine zPair.mk fun A μ hW hC => ?_
  cases hz : zIn y 1 100
  · refine ⟨-1, A, μ, ?_, hW, hC, fun _ _ => rfl, fun μ' hM => ⟨μ', ?_, hM, fun _ _ => rfl⟩⟩
    · unfold fX11_silent
      rw [e_isWithin, zBd_s, hz, z_bf]
    · unfold fX12_silent
      rw [e_in, zBd_s, hz, z_bf]
  · obtain ⟨N, h1N, hN, rfl⟩ := zIn_t (by decide) (by decide) hz
    obtain ⟨r, g1, g2⟩ := silent_k hW.2.2.2.1 (N := N) hN N 0 0 0 (aN A) (by omega) (by omega) (by omega) hW.2.1
    obtain ⟨a, ha, hla, h18, hL⟩ := yLw.get hC.2.2.2.1
    obtain ⟨r0, m0, k1, k2, k3⟩ := e_becomes (F := F) (h0 := 13) (h1 := 3) (by omega) hW.2.1 hC.2.1
    obtain ⟨m1, b1, b2⟩ := g1 F a F m0 (by omega) (by omega) ha (by rw [k3 18 (by omega)]; exact h18) k2 (hL.of (fun c h1 h2 => k3 c (by omega)))
    have ec : ∀ c, (c < 13 ∨ 17 < c) → c ≠ 33 → c ≠ 34 → c ≠ 35 → m1 c = μ c := fun c h1 h2 h3 h4 => by rw [b2 c (by omega) h2 h3 h4, k3 c (by omega)]
    refine ⟨r, A, m1, ?_, hW, hC.trial (fun c _ h1 h2 h3 h4 => ec c h1 h2 h3 h4), fun c hc => ec c (by omega) (by omega) (by omega) (by omega), fun μ' hM => ?_⟩
    · unfold fX11_silent
      rw [e_isWithin, zBd_s, hz, z_bt, k1, zBd_s]
      exact b1
    · obtain ⟨r3, m3, d1, d2, d3⟩ := e_copies (F := F) (h0 := 61) (h1 := 62) (by omega) (by decide) hW.2.1 hM.2.1
      obtain ⟨m2, c1, c2, c3, c4⟩ := g2 F F (aN A) m3 hF (by omega) hW.2.1 (hM.2.1.of (d3 61 (by decide))) d2 (hM.2.2.2.1.of (by rw [d3 60 (by decide)]) (fun c h1 h2 => d3 c (by omega)))
      refine ⟨m2, ?_, hM.now2 c2 (fun j hj => by rw [c3 j (by omega) (by omega), d3 60 (by decide)]) (fun c hc => by rw [c4 c (by omega) (by omega) (by omega) (by omega), d3 c (by omega)]), fun c hc => by rw [c4 c (by omega) (by omega) (by omega) (by omega), d3 c (by omega)]⟩
      unfold fX12_silent
      rw [e_in, zBd_s, hz, z_bt, d1, zBd_s]
      exact c1
