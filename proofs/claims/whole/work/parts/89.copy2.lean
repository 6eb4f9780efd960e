/-! ===== copy: all of it ===== -/
theorem copy_k {N : Nat} {b : Nat → Nat} (hN : N ≤ 200) (hb : ∀ j, b j < 256) : ∀ m p i w (L U : Nat → Nat), N - p ≤ m → p ≤ N → i ≤ w → w ≤ 60 → (∀ i, i < w → 1 ≤ L i ∧ L i ≤ 12) → fb_sm L w = fb_sm U 26 → ∃ (ok : Bool) (w' : Nat) (L' U' : Nat → Nat) (ft : Int32), (ok = true → w' ≤ 60 ∧ (∀ i, i < w' → 1 ≤ L' i ∧ L' i ≤ 12) ∧ fb_sm L' w' = fb_sm U' 26) ∧
    (∀ (F h f : Nat) (μ : zMem), 20 ≤ F → m < f → (h = 40 ∨ h = 43) → yTC N b p μ → yDC h w L U μ → ∃ m1, fX1_reads_28 F h f (nI i) μ = some (zB ok, m1) ∧ (ok = true → yDC h w' L' U' m1) ∧ (ok = false → m1 1 3 = ft) ∧ ∀ c, c ≠ 1 → c ≠ h → c ≠ h + 1 → c ≠ h + 2 → m1 c = μ c) ∧
    ∀ (F f : Nat) (μ : zMem), 20 ≤ F → m + 1 < f → yTM N b p μ → yDM w L U μ → ∃ m1, zBd (fX12_readsWord F μ) (fun r4 m4 => if r4 = 0 then fX12_copy_57 F f (nI 0) m4 else fX12_copy_57 F f (nI 1) m4) = fX12_copy_97 F (zB ok) m1 ∧ (ok = true → yDM w' L' U' m1) ∧ (ok = false → m1 60 12 = ft) ∧ (∀ j, j ≠ 10 → j ≠ 12 → j ≠ 33 → m1 60 j = μ 60 j) ∧ ∀ c, c ≠ 60 → c ≠ 66 → c ≠ 67 → m1 c = μ c := by
  intro m
  induction m with
  | zero =>
    intro p i w L U hm hp hi hw hL hU
    obtain ⟨ok, p', w', L', U', ft, g1, g2, g3⟩ := word_ex (L := L) (U := U) hN hb hp hw
    cases ok with
    | true => obtain ⟨h1, h2, -⟩ := g1 rfl; omega
    | false =>
      refine ⟨false, 0, L, U, ft, fun h => (by cases h), fun F h f μ hF hf hh hT hD => ?_, fun F f μ hF hf hT hD => ?_⟩
      · obtain ⟨f, rfl⟩ := z_s hf
        obtain ⟨m1, a1, a2, a3, a4⟩ := g2 F h μ hF hh hT hD
        refine ⟨m1, ?_, fun h => (by cases h), a3, a4⟩
        rw [fX1_reads_28, if_neg (fun z => by have := (nI_ltI (by decide) (by omega)).mp z; omega), a1, zBd_s, z_bf]
        rfl
      · obtain ⟨f, rfl⟩ := z_s hf
        obtain ⟨m1, a1, a2, a3, a4, a5⟩ := g3 F μ hF hT hD
        refine ⟨m1, ?_, fun h => (by cases h), a3, a4, a5⟩
        rw [a1, zBd_s, z_bf, fX12_copy_57, if_pos (show nI 0 = 0 from rfl)]
        rfl
  | succ m ih =>
    intro p i w L U hm hp hi hw hL hU
    obtain ⟨ok, p', w', L', U', ft, g1, g2, g3⟩ := word_ex (L := L) (U := U) hN hb hp hw
    cases ok with
    | false =>
      refine ⟨false, 0, L, U, ft, fun h => (by cases h), fun F h f μ hF hf hh hT hD => ?_, fun F f μ hF hf hT hD => ?_⟩
      · obtain ⟨f, rfl⟩ := z_s hf
        obtain ⟨m1, a1, a2, a3, a4⟩ := g2 F h μ hF hh hT hD
        refine ⟨m1, ?_, fun h => (by cases h), a3, a4⟩
        rw [fX1_reads_28, if_neg (fun z => by have := (nI_ltI (by decide) (by omega)).mp z; omega), a1, zBd_s, z_bf]
        rfl
      · obtain ⟨f, rfl⟩ := z_s hf
        obtain ⟨m1, a1, a2, a3, a4, a5⟩ := g3 F μ hF hT hD
        refine ⟨m1, ?_, fun h => (by cases h), a3, a4, a5⟩
        rw [a1, zBd_s, z_bf, fX12_copy_57, if_pos (show nI 0 = 0 from rfl)]
        rfl
    | true =>
      obtain ⟨h1, h2, h3, h4, h5, h6, h7⟩ := g1 rfl
      have hL' : ∀ i, i < w' → 1 ≤ L' i ∧ L' i ≤ 12 := fun i hi => by
        by_cases hiw : i < w
        · rw [h5 i hiw]; exact hL i hiw
        · exact h6 i (by omega) hi
      have hU' : fb_sm L' w' = fb_sm U' 26 := by omega
      by_cases hov : N ≤ p'
      · refine ⟨true, w', L', U', 0, fun _ => ⟨h4, hL', hU'⟩, fun F h f μ hF hf hh hT hD => ?_, fun F f μ hF hf hT hD => ?_⟩
        · obtain ⟨f, rfl⟩ := z_s hf
          obtain ⟨m1, a1, a2, a3, a4⟩ := g2 F h μ hF hh hT hD
          obtain ⟨hT1, hD1⟩ := a2 rfl
          refine ⟨m1, ?_, fun _ => hD1, fun h => (by cases h), a4⟩
          rw [fX1_reads_28, if_neg (fun z => by have := (nI_ltI (by decide) (by omega)).mp z; omega), a1, zBd_s, z_bt, e_isOver hT1 (by omega) (by omega), zBd_s, decide_eq_true hov, z_bt]
          rfl
        · obtain ⟨f, rfl⟩ := z_s hf
          obtain ⟨m1, a1, a2, a3, a4, a5⟩ := g3 F μ hF hT hD
          obtain ⟨hT1, hD1⟩ := a2 rfl
          refine ⟨m1, ?_, fun _ => hD1, fun h => (by cases h), a4, a5⟩
          rw [a1, zBd_s, z_bt, fX12_copy_57, if_neg (by decide), hT1.1, hT1.2.1, z_done hov (by omega)]
          rfl
      · by_cases h95 : b p' = 95
        · obtain ⟨ok, w2, L2, U2, ft2, k1, k2, k3⟩ := ih (p' + 1) (i + 1) w' L' U' (by omega) (by omega) (by omega) h4 hL' hU'
          refine ⟨ok, w2, L2, U2, ft2, k1, fun F h f μ hF hf hh hT hD => ?_, fun F f μ hF hf hT hD => ?_⟩
          · obtain ⟨f, rfl⟩ := z_s hf
            obtain ⟨m1, a1, a2, a3, a4⟩ := g2 F h μ hF hh hT hD
            obtain ⟨hT1, hD1⟩ := a2 rfl
            obtain ⟨m2, c1, c2, c3, c4⟩ := k2 F h f (zUp m1 1 2 (nI (p' + 1))) hF (by omega) hh (hT1.to (zUp_o (by decide)) (zUp_s _ _ _ _) (zUp_ne (by decide))) ⟨by rw [zUp_ne (by omega)]; exact hD1.1, fun i hi => by rw [zUp_ne (by omega)]; exact hD1.2.1 i hi, fun i hi => by rw [zUp_ne (by omega)]; exact hD1.2.2 i hi⟩
            refine ⟨m2, ?_, c2, c3, fun c h1 h2 h3 h4 => by rw [c4 c h1 h2 h3 h4, zUp_ne h1, a4 c h1 h2 h3 h4]⟩
            rw [fX1_reads_28, if_neg (fun z => by have := (nI_ltI (by decide) (by omega)).mp z; omega), a1, zBd_s, z_bt, e_isOver hT1 (by omega) (by omega), zBd_s, decide_eq_false hov, z_bf, e_needs_t hT1 (by omega) (by omega) h95, zBd_s, if_neg (by decide), nI_add]
            exact c1
          · obtain ⟨f, rfl⟩ := z_s hf
            obtain ⟨m1, a1, a2, a3, a4, a5⟩ := g3 F μ hF hT hD
            obtain ⟨hT1, hD1⟩ := a2 rfl
            obtain ⟨m2, c1, c2, c3, c4, c5⟩ := k3 F f (zUp m1 60 10 (nI (p' + 1))) hF (by omega) (hT1.to (zUp_o (by decide)) (zUp_s _ _ _ _) (zUp_ne (by decide))) ⟨by rw [zUp_o (by decide)]; exact hD1.1, fun i hi => by rw [zUp_ne (by decide)]; exact hD1.2.1 i hi, fun i hi => by rw [zUp_ne (by decide)]; exact hD1.2.2 i hi⟩
            refine ⟨m2, ?_, c2, c3, fun j h1 h2 h3 => by rw [c4 j h1 h2 h3, zUp_o h1, a4 j h1 h2 h3], fun c h1 h2 h3 => by rw [c5 c h1 h2 h3, zUp_ne h1, a5 c h1 h2 h3]⟩
            rw [a1, zBd_s, z_bt, fX12_copy_57, if_neg (by decide), hT1.1, hT1.2.1, z_more (by omega) (by omega), e_takes_t hT1 (by omega) (by omega) h95, zBd_s, if_neg (by decide)]
            exact c1
        · refine ⟨false, 0, L, U, yFt 1 p', fun h => (by cases h), fun F h f μ hF hf hh hT hD => ?_, fun F f μ hF hf hT hD => ?_⟩
          · obtain ⟨f, rfl⟩ := z_s hf
            obtain ⟨m1, a1, a2, a3, a4⟩ := g2 F h μ hF hh hT hD
            obtain ⟨hT1, hD1⟩ := a2 rfl
            refine ⟨zUp m1 1 3 (yFt 1 p'), ?_, fun h => (by cases h), fun _ => zUp_s _ _ _ _, fun c h1 h2 h3 h4 => by rw [zUp_ne h1, a4 c h1 h2 h3 h4]⟩
            rw [fX1_reads_28, if_neg (fun z => by have := (nI_ltI (by decide) (by omega)).mp z; omega), a1, zBd_s, z_bt, e_isOver hT1 (by omega) (by omega), zBd_s, decide_eq_false hov, z_bf, e_needs_f hT1 (by omega) (by omega) (hb _) (by decide) (fun z => h95 z.2), zBd_s, if_pos (by decide)]
            rfl
          · obtain ⟨f, rfl⟩ := z_s hf
            obtain ⟨m1, a1, a2, a3, a4, a5⟩ := g3 F μ hF hT hD
            obtain ⟨hT1, hD1⟩ := a2 rfl
            refine ⟨zUp m1 60 12 (yFt 1 p'), ?_, fun h => (by cases h), fun _ => zUp_s _ _ _ _, fun j h1 h2 h3 => by rw [zUp_o h2, a4 j h1 h2 h3], fun c h1 h2 h3 => by rw [zUp_ne h1, a5 c h1 h2 h3]⟩
            obtain ⟨f, rfl⟩ := z_s (show 0 < f by omega)
            rw [a1, zBd_s, z_bt, fX12_copy_57, if_neg (by decide), hT1.1, hT1.2.1, z_more (by omega) (by omega), e_takes_f hT1 (by omega) (by omega) (hb _) (by decide) (fun z => h95 z.2), zBd_s, if_pos (by decide), fX12_copy_57, if_pos (by decide)]
            rfl
theorem e_reads_7 {F h : Nat} : ∀ m k f (μ : zMem), k + m = 26 → m < f → ∃ m1, fX1_reads_7 F h f (nI k) μ = fX1_reads_28 F h F (nI 0) m1 ∧ (∀ i, k ≤ i → i < 26 → m1 (h + 2) i = nI 0) ∧ (∀ i, i < k → m1 (h + 2) i = μ (h + 2) i) ∧ ∀ c, c ≠ h + 2 → m1 c = μ c := by
  intro m
  induction m with
  | zero =>
    intro k f μ hk hf
    obtain ⟨f, rfl⟩ := z_s hf
    refine ⟨μ, ?_, fun i h1 h2 => by omega, fun _ _ => rfl, fun _ _ => rfl⟩
    rw [fX1_reads_7, z_done (by omega) (by omega)]
  | succ m ih =>
    intro k f μ hk hf
    obtain ⟨f, rfl⟩ := z_s hf
    obtain ⟨m1, a1, a2, a3, a4⟩ := ih (k + 1) f (zUp μ (h + 2) k (nI 0)) (by omega) (by omega)
    refine ⟨m1, ?_, fun i h1 h2 => ?_, fun i hi => by rw [a3 i (by omega), zUp_o (by omega)], fun c hc => by rw [a4 c hc, zUp_ne hc]⟩
    · rw [fX1_reads_7, z_more (by omega) (by decide), zG_in rfl (by omega) (by decide), cl9 (by omega), nI_add]
      exact a1
    · by_cases e : i = k
      · rw [e, a3 k (by omega), zUp_s]
      · exact a2 i (by omega) h2
theorem e_copy_33 {F : Nat} : ∀ m k f (μ : zMem), k + m = 26 → m < f → ∃ m1, fX12_copy_33 F f (nI k) μ = zBd (fX12_readsWord F m1) (fun r1 m1 => fX12_copy_57 F F r1 m1) ∧ (∀ i, k ≤ i → i < 26 → m1 67 i = nI 0) ∧ (∀ i, i < k → m1 67 i = μ 67 i) ∧ ∀ c, c ≠ 67 → m1 c = μ c := by
  intro m
  induction m with
  | zero =>
    intro k f μ hk hf
    obtain ⟨f, rfl⟩ := z_s hf
    refine ⟨μ, ?_, fun i h1 h2 => by omega, fun _ _ => rfl, fun _ _ => rfl⟩
    rw [fX12_copy_33, z_done (by omega) (by omega)]
  | succ m ih =>
    intro k f μ hk hf
    obtain ⟨f, rfl⟩ := z_s hf
    obtain ⟨m1, a1, a2, a3, a4⟩ := ih (k + 1) f (zUp μ 67 k (nI 0)) (by omega) (by omega)
    refine ⟨m1, ?_, fun i h1 h2 => ?_, fun i hi => by rw [a3 i (by omega), zUp_o (by omega)], fun c hc => by rw [a4 c hc, zUp_ne hc]⟩
    · rw [fX12_copy_33, z_more (by omega) (by decide), zG_in rfl (by omega) (by decide), cl9 (by omega), nI_add]
      exact a1
    · by_cases e : i = k
      · rw [e, a3 k (by omega), zUp_s]
      · exact a2 i (by omega) h2
theorem e_copy_149 {F : Nat} : ∀ m k f (μ : zMem), k + m = 26 → m < f → ∃ m1, fX12_copy_149 F f (nI k) μ = some (μ 60 33, m1) ∧ (∀ i, k ≤ i → i < 26 → m1 65 i = μ 67 i) ∧ (∀ i, i < k → m1 65 i = μ 65 i) ∧ ∀ c, c ≠ 65 → m1 c = μ c := by
  intro m
  induction m with
  | zero =>
    intro k f μ hk hf
    obtain ⟨f, rfl⟩ := z_s hf
    refine ⟨μ, ?_, fun i h1 h2 => by omega, fun _ _ => rfl, fun _ _ => rfl⟩
    rw [fX12_copy_149, z_done (by omega) (by omega)]
  | succ m ih =>
    intro k f μ hk hf
    obtain ⟨f, rfl⟩ := z_s hf
    obtain ⟨m1, a1, a2, a3, a4⟩ := ih (k + 1) f (zUp μ 65 k (μ 67 k)) (by omega) (by omega)
    refine ⟨m1, ?_, fun i h1 h2 => ?_, fun i hi => by rw [a3 i (by omega), zUp_o (by omega)], fun c hc => by rw [a4 c hc, zUp_ne hc]⟩
    · rw [fX12_copy_149, z_more (by omega) (by decide), zG_in rfl (by omega) (by decide), zG_in rfl (by omega) (by decide), cl9 (by omega), nI_add]
      rw [zUp_ne (by decide)] at a1
      exact a1
    · by_cases e : i = k
      · rw [e, a3 k (by omega), zUp_s]
      · rw [a2 i (by omega) h2, zUp_ne (by decide)]
theorem e_copy_121 {F w : Nat} (hw : w ≤ 60) : ∀ m k f (μ : zMem), k + m = w → m < f → μ 60 33 = nI w → ∃ m1, fX12_copy_121 F f (nI k) μ = fX12_copy_149 F F (nI 0) m1 ∧ (∀ i, k ≤ i → i < w → m1 64 i = μ 66 i) ∧ (∀ i, i < k → m1 64 i = μ 64 i) ∧ ∀ c, c ≠ 64 → m1 c = μ c := by
  intro m
  induction m with
  | zero =>
    intro k f μ hk hf h33
    obtain ⟨f, rfl⟩ := z_s hf
    refine ⟨μ, ?_, fun i h1 h2 => by omega, fun _ _ => rfl, fun _ _ => rfl⟩
    rw [fX12_copy_121, h33, z_done (by omega) (by omega)]
  | succ m ih =>
    intro k f μ hk hf h33
    obtain ⟨f, rfl⟩ := z_s hf
    obtain ⟨m1, a1, a2, a3, a4⟩ := ih (k + 1) f (zUp μ 64 k (μ 66 k)) (by omega) (by omega) (by rw [zUp_ne (by decide)]; exact h33)
    refine ⟨m1, ?_, fun i h1 h2 => ?_, fun i hi => by rw [a3 i (by omega), zUp_o (by omega)], fun c hc => by rw [a4 c hc, zUp_ne hc]⟩
    · rw [fX12_copy_121, h33, z_more (by omega) (by omega), zG_in rfl (by omega) (by decide), zG_in rfl (by omega) (by decide), cl9 (by omega), nI_add]
      exact a1
    · by_cases e : i = k
      · rw [e, a3 k (by omega), zUp_s]
      · rw [a2 i (by omega) h2, zUp_ne (by decide)]
/-! what a text's call does ahead of it -/
def zBeg (μ : zMem) (n : Nat) : zMem := zUp (zUp (zUp (zUp μ 60 10 (nI 0)) 60 11 (nI n)) 60 15 (nI 0)) 60 17 (nI 0)
theorem e_begins {F n : Nat} {μ : zMem} : fX12_beginsText F (nI n) μ = some (nI 0, zBeg μ n) := rfl
theorem zBeg_ne {μ : zMem} {n c : Nat} (h : c ≠ 60) : zBeg μ n c = μ c := by unfold zBeg; rw [zUp_ne h, zUp_ne h, zUp_ne h, zUp_ne h]
theorem zBeg_o {μ : zMem} {n j : Nat} (h1 : j ≠ 10) (h2 : j ≠ 11) (h3 : j ≠ 15) (h4 : j ≠ 17) : zBeg μ n 60 j = μ 60 j := by unfold zBeg; rw [zUp_o h4, zUp_o h3, zUp_o h2, zUp_o h1]
theorem zBeg_t {μ : zMem} {n t : Nat} {b : Nat → Nat} (h : zTapeM t b μ) (hn : n ≤ t) : yTM n b 0 (zBeg μ n) := by
  refine ⟨?_, ?_, fun j hj => ?_⟩
  · unfold zBeg; rw [zUp_o (by decide), zUp_o (by decide), zUp_s]
  · unfold zBeg; rw [zUp_o (by decide), zUp_o (by decide), zUp_o (by decide), zUp_s]
  · rw [zBeg_ne (by decide)]; exact h.2 j (by omega)
theorem zOp_t {μ : zMem} {n t : Nat} {b : Nat → Nat} (h : zTapeC t b μ) (hn : n ≤ t) : yTC n b 0 (zOp μ n) := by
  refine ⟨zOp_1 μ n, ?_, fun j hj => ?_⟩
  · unfold zOp; rw [zUp_o (by decide), zUp_s]
  · rw [zOp_ne (by decide)]; exact h.2 j (by omega)
def aSC (A : zAS) (c : zCS) : zAS := (0, A.2.1, A.2.2.1, A.2.2.2.1, A.2.2.2.2.1, c)
theorem pr_copy {F : Nat} (hF : 300 ≤ F) (x : Int32) : zPair (fX11_copy F x) (fX12_copy F x) := by
  refine zPair.mk fun A μ hW hC => ?_
  cases hz : zIn x 1 200
  · refine ⟨-1, A, μ, ?_, hW, hC, fun _ _ => rfl, fun μ' hM => ⟨μ', ?_, hM, fun _ _ => rfl⟩⟩
    · unfold fX11_copy
      rw [e_isWithin, zBd_s, hz, z_bf]
    · unfold fX12_copy
      rw [e_in, zBd_s, hz, z_bf]
  · obtain ⟨n, h1n, hn, rfl⟩ := zIn_t (by decide) (by decide) hz
    have hT260 := hW.1.1
    by_cases ht : n ≤ aT A
    · obtain ⟨ok, w', L', U', ft, g1, g2, g3⟩ := copy_k (N := n) (b := aB A) (by omega) hW.1.2 n 0 0 0 (fun _ => 0) (fun _ => 0) (by omega) (by omega) (by omega) (by omega) (fun i hi => by omega) (by rw [fb_sm_const]; rfl)
      obtain ⟨h, hcp, c8, c9, cw, cl, cu⟩ := hC.2.2.2.2
      have hh : h = 40 ∨ h = 43 := zIsCp_or hcp
      obtain ⟨d, hd⟩ : ∃ d, d = 83 - h := ⟨_, rfl⟩
      have hdd : d = 40 ∨ d = 43 := by omega
      have hdcp : zIsCp d = true := by rcases hdd with e | e <;> rw [e] <;> rfl
      rw [← hd] at c9
      -- the class reads
      obtain ⟨m1, a1, a2, a3, a4⟩ := e_reads_7 (F := F) (h := d) 26 0 F (zUp (zOp μ n) d 2 (nI 0)) rfl (by omega)
      have hT1 : yTC n (aB A) 0 m1 := (zOp_t hC.1 ht).of (by rw [a4 1 (by omega), zUp_ne (by omega)]) (by rw [a4 1 (by omega), zUp_ne (by omega)]) (by rw [a4 2 (by omega), zUp_ne (by omega)])
      obtain ⟨m2, b1, b2, b3, b4⟩ := g2 F d F m1 (by omega) (by omega) hdd hT1 ⟨by rw [a4 d (by omega), zUp_s], fun i hi => by omega, fun i hi => a2 i (by omega) hi⟩
      have ec : ∀ c, c ≠ 1 → c ≠ d → c ≠ d + 1 → c ≠ d + 2 → m2 c = μ c := fun c h1 h2 h3 h4 => by rw [b4 c h1 h2 h3 h4, a4 c h4, zUp_ne h2, zOp_ne h1]
      have hread : fX1_reads F d (zOp μ n) = some (zB ok, m2) := by
        unfold fX1_reads
        show fX1_reads_7 F d F (nI 0) (zUp (zOp μ n) d 2 (nI 0)) = _
        rw [a1, b1]
      have hcls : fX11_copy F (nI n) μ = (if zB ok = 0 then some ((zUp m2 1 1 (nI 0) 1 3), zUp m2 1 1 (nI 0)) else some (zUp m2 1 1 (nI 0) d 2, zUp (zUp (zUp m2 1 1 (nI 0)) 0 8 (nI d)) 0 9 (nI h))) := by
        unfold fX11_copy
        rw [e_isWithin, zBd_s, hz, z_bt, e_opens_t hC.1.1 hW.1.1 ht, zBd_s, z_bt, zOp_ne (by decide), c9, cl9 (by omega), zGb_t hdcp, hread, zBd_s, e_empties, zBd_s, zUp_ne (show (0 : Nat) ≠ 1 by decide), ec 0 (by omega) (by omega) (by omega) (by omega), c8, c9, cl9 (by omega), cl9 (by omega), zGb_t hcp, zGb_t hdcp]
        dsimp only [zLt]
        rw [zUp_o (show (8 : Nat) ≠ 9 by decide), zUp_s, cl9 (by omega), zGb_t hdcp, zUp_ne (show d ≠ 0 by omega), zUp_ne (show d ≠ 0 by omega)]
      -- the reference reads
      have cM : ∀ μ', zRepM A μ' → ∃ m4, fX12_copy F (nI n) μ' = fX12_copy_97 F (zB ok) m4 ∧ (ok = true → yDM w' L' U' m4) ∧ (ok = false → m4 60 12 = ft) ∧ (∀ j, j = 7 ∨ j = 18 ∨ j = 45 → m4 60 j = μ' 60 j) ∧ ∀ c, c ≠ 60 → c ≠ 66 → c ≠ 67 → m4 c = μ' c := by
        intro μ' hM
        obtain ⟨m3, k1, k2, k3, k4⟩ := e_copy_33 (F := F) 26 0 F (zUp (zBeg μ' n) 60 33 (nI 0)) rfl (by omega)
        have hT3 : yTM n (aB A) 0 m3 := (zBeg_t hM.1 ht).of (by rw [k4 60 (by decide), zUp_o (by decide)]) (by rw [k4 60 (by decide), zUp_o (by decide)]) (by rw [k4 68 (by decide), zUp_ne (by decide)])
        obtain ⟨m4, l1, l2, l3, l4, l5⟩ := g3 F F m3 (by omega) (by omega) hT3 ⟨by rw [k4 60 (by decide), zUp_s], fun i hi => by omega, fun i hi => k2 i (by omega) hi⟩
        refine ⟨m4, ?_, l2, l3, fun j hj => by rw [l4 j (by omega) (by omega) (by omega), k4 60 (by decide), zUp_o (by omega), zBeg_o (by omega) (by omega) (by omega) (by omega)], fun c h1 h2 h3 => by rw [l5 c h1 h2 h3, k4 c h3, zUp_ne h1, zBeg_ne h1]⟩
        unfold fX12_copy
        rw [e_in, zBd_s, hz, z_bt, hM.1.1, if_pos ((nI_leI (by omega) (by omega)).mpr ht), e_begins, zBd_s]
        show fX12_copy_33 F F (nI 0) (zUp (zBeg μ' n) 60 33 (nI 0)) = _
        rw [k1, ← l1]
        -- what a word answers is 0 or 1
        obtain ⟨ok2, p2, w2, L2, U2, ft2, -, -, q3⟩ := word_ex (N := n) (b := aB A) (p := 0) (w := 0) (L := fun _ => 0) (U := fun _ => 0) (by omega) hW.1.2 (by omega) (by omega)
        obtain ⟨m5, q4, -⟩ := q3 F m3 (by omega) hT3 ⟨by rw [k4 60 (by decide), zUp_s], fun i hi => by omega, fun i hi => k2 i (by omega) hi⟩
        rw [q4, zBd_s, zBd_s]
        cases ok2
        · rw [z_bf]; rfl
        · rw [z_bt]; rfl
      cases ok with
      | false =>
        refine ⟨ft, aST A 0 (aB A), zUp m2 1 1 (nI 0), ?_, hW.tape (by omega) hW.1.2, ?_, fun c hc => by rw [zUp_ne (by omega), ec c (by omega) (by omega) (by omega) (by omega)], fun μ' hM => ?_⟩
        · rw [hcls, z_bf, zUp_o (by decide), b3 rfl]
        · have e : ∀ c, c ≠ 1 → c ≠ d → c ≠ d + 1 → c ≠ d + 2 → zUp m2 1 1 (nI 0) c = μ c := fun c h1 h2 h3 h4 => by rw [zUp_ne h1, ec c h1 h2 h3 h4]
          have e0 := e 0 (by omega) (by omega) (by omega) (by omega)
          refine ⟨⟨zUp_s _ _ _ _, fun j hj => by have hj : j < 0 := hj; omega⟩, hC.2.1.of (fun k h1 h2 => e k (by omega) (by omega) (by omega) (by omega)), hC.2.2.1.of (by rw [e0]) (fun k h1 h2 => e k (by omega) (by omega) (by omega) (by omega)), hC.2.2.2.1.of (fun k h1 h2 => e k (by omega) (by omega) (by omega) (by omega)), h, hcp, by rw [e0]; exact c8, by rw [e0, ← hd]; exact c9, by rw [e h (by omega) (by omega) (by omega) (by omega)]; exact cw, fun i hi => by rw [e (h + 1) (by omega) (by omega) (by omega) (by omega)]; exact cl i hi, fun i hi => by rw [e (h + 2) (by omega) (by omega) (by omega) (by omega)]; exact cu i hi⟩
        · obtain ⟨m4, q1, q2, q3, q4, q5⟩ := cM μ' hM
          refine ⟨zUp m4 60 9 (nI 0), ?_, hM.tape ⟨zUp_s _ _ _ _, fun j hj => by omega⟩ (fun j hj => by rw [zUp_o (by omega), q4 j hj]) (fun k hk => by rw [zUp_ne (by omega), q5 k (by omega) (by omega) (by omega)]), fun c hc => by rw [zUp_ne (by omega), q5 c (by omega) (by omega) (by omega)]⟩
          rw [q1]
          unfold fX12_copy_97
          dsimp only [zLt]
          rw [z_bf, zUp_o (by decide), q3 rfl]
      | true =>
        obtain ⟨r1, r2, r3⟩ := g1 rfl
        have hD2 := b2 rfl
        have hwfc : zWFC (w', L', U') := by
          refine ⟨r1, r2, fun i hi => ?_, r3⟩
          have p1 := fb_sm_part U' hi
          have p2 := fb_sm_bound (f := L') (c := 12) (n := w') (fun k hk => (r2 k hk).2)
          show U' i ≤ 720
          omega
        refine ⟨nI w', aSC A (w', L', U'), zUp (zUp (zUp m2 1 1 (nI 0)) 0 8 (nI d)) 0 9 (nI h), ?_, ⟨⟨by show 0 ≤ 260; omega, hW.1.2⟩, hW.2.1, hW.2.2.1, hW.2.2.2.1, hwfc⟩, ?_, fun c hc => by rw [zUp_ne (by omega), zUp_ne (by omega), zUp_ne (by omega), ec c (by omega) (by omega) (by omega) (by omega)], fun μ' hM => ?_⟩
        · rw [hcls, z_bt, zUp_ne (show d ≠ 1 by omega), hD2.1]
        · have e : ∀ c, c ≠ 0 → c ≠ 1 → zUp (zUp (zUp m2 1 1 (nI 0)) 0 8 (nI d)) 0 9 (nI h) c = m2 c := fun c h1 h2 => by rw [zUp_ne h1, zUp_ne h1, zUp_ne h2]
          have e2 : ∀ c, c ≠ 0 → c ≠ 1 → c ≠ d → c ≠ d + 1 → c ≠ d + 2 → zUp (zUp (zUp m2 1 1 (nI 0)) 0 8 (nI d)) 0 9 (nI h) c = μ c := fun c h0 h1 h2 h3 h4 => by rw [e c h0 h1, ec c h1 h2 h3 h4]
          refine ⟨⟨by rw [zUp_ne (by decide), zUp_ne (by decide), zUp_s]; rfl, fun j hj => by have hj : j < 0 := hj; omega⟩, hC.2.1.of (fun k h1 h2 => e2 k (by omega) (by omega) (by omega) (by omega) (by omega)), hC.2.2.1.of (by rw [zUp_o (by decide), zUp_o (by decide), zUp_ne (by decide), ec 0 (by omega) (by omega) (by omega) (by omega)]) (fun k h1 h2 => e2 k (by omega) (by omega) (by omega) (by omega) (by omega)), hC.2.2.2.1.of (fun k h1 h2 => e2 k (by omega) (by omega) (by omega) (by omega) (by omega)), d, hdcp, by rw [zUp_o (by decide), zUp_s], by rw [zUp_s, show 83 - d = h by omega], by rw [e d (by omega) (by omega)]; exact hD2.1, fun i hi => by rw [e (d + 1) (by omega) (by omega)]; exact hD2.2.1 i hi, fun i hi => by rw [e (d + 2) (by omega) (by omega)]; exact hD2.2.2 i hi⟩
        · obtain ⟨m4, q1, q2, q3, q4, q5⟩ := cM μ' hM
          have hD4 := q2 rfl
          obtain ⟨m6, s1, s2, s3, s4⟩ := e_copy_121 (F := F) (w := w') r1 w' 0 F (zUp (zUp m4 60 9 (nI 0)) 60 7 (nI w')) (by omega) (by omega) (by rw [zUp_o (by decide), zUp_o (by decide)]; exact hD4.1)
          obtain ⟨m7, t1, t2, t3, t4⟩ := e_copy_149 (F := F) 26 0 F m6 rfl (by omega)
          have e60 : m7 60 = zUp (zUp m4 60 9 (nI 0)) 60 7 (nI w') 60 := by rw [t4 60 (by decide), s4 60 (by decide)]
          have ek : ∀ c, c ≠ 60 → c ≠ 64 → c ≠ 65 → c ≠ 66 → c ≠ 67 → m7 c = μ' c := fun c h1 h2 h3 h4 h5 => by rw [t4 c h3, s4 c h2, zUp_ne h1, zUp_ne h1, q5 c h1 h4 h5]
          refine ⟨m7, ?_, ⟨⟨by rw [e60, zUp_o (by decide), zUp_s]; rfl, fun j hj => by have hj : j < 0 := hj; omega⟩, hM.2.1.of (ek 61 (by decide) (by decide) (by decide) (by decide) (by decide)), hM.2.2.1.of (by rw [e60, zUp_o (by decide), zUp_o (by decide), q4 45 (by omega)]) (ek 63 (by decide) (by decide) (by decide) (by decide) (by decide)), hM.2.2.2.1.of (by rw [e60, zUp_o (by decide), zUp_o (by decide), q4 18 (by omega)]) (fun k h1 h2 => ek k (by omega) (by omega) (by omega) (by omega) (by omega)), by rw [e60, zUp_s]; rfl, fun i hi => ?_, fun i hi => ?_⟩, fun c hc => ek c (by omega) (by omega) (by omega) (by omega) (by omega)⟩
          · rw [q1]
            unfold fX12_copy_97
            dsimp only [zLt]
            rw [z_bt, zUp_o (show (33 : Nat) ≠ 9 by decide), hD4.1, s1, t1, s4 60 (by decide), zUp_o (by decide), zUp_o (by decide), hD4.1]
          · have hi : i < w' := hi
            rw [t4 64 (by decide), s2 i (by omega) hi, zUp_ne (by decide), zUp_ne (by decide)]
            exact hD4.2.1 i hi
          · rw [t2 i (by omega) hi, s4 67 (by decide), zUp_ne (by decide), zUp_ne (by decide)]
            exact hD4.2.2 i hi
    · refine ⟨-1, A, μ, ?_, hW, hC, fun _ _ => rfl, fun μ' hM => ⟨μ', ?_, hM, fun _ _ => rfl⟩⟩
      · unfold fX11_copy
        rw [e_isWithin, zBd_s, hz, z_bt, e_opens_f hC.1.1 hW.1.1 (by omega) (by omega), zBd_s, z_bf]
      · unfold fX12_copy
        rw [e_in, zBd_s, hz, z_bt, hM.1.1, if_neg (fun z => ht ((nI_leI (by omega) (by omega)).mp z))]
