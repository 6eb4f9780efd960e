/-! ===== seed, whose, personIs, alone ===== -/
/-- a state with another X -/
def sX (s : zPS) (x : Nat) : zPS := (s.1, s.2.1, s.2.2.1, s.2.2.2.1, s.2.2.2.2.1, s.2.2.2.2.2.1, s.2.2.2.2.2.2.1, x)
def aSN (A : zAS) (s : zPS) : zAS := (A.1, A.2.1, s, A.2.2.2.1, A.2.2.2.2.1, A.2.2.2.2.2)
theorem zWF.now {A : zAS} {s : zPS} (h : zWF A) (hs : zWFS s) : zWF (aSN A s) := ⟨h.1, hs, h.2.2.1, h.2.2.2.1, h.2.2.2.2⟩
/-- a change of 'now' alone -/
theorem zRepC.now {A : zAS} {s : zPS} {μ μ1 : zMem} (h : zRepC A μ) (hs : zRepS 3 s μ1) (e : ∀ k, k < 60 → (k < 3 ∨ 7 < k) → μ1 k = μ k) : zRepC (aSN A s) μ1 :=
  ⟨h.1.of (by rw [e 1 (by omega) (by omega)]) (e 2 (by omega) (by omega)), hs, h.2.2.1.of (by rw [e 0 (by omega) (by omega)]) (fun k h1 h2 => e k (by omega) (by omega)), h.2.2.2.1.of (fun k h1 h2 => e k (by omega) (by omega)), h.2.2.2.2.of (by rw [e 0 (by omega) (by omega)]) (by rw [e 0 (by omega) (by omega)]) (fun k h1 h2 => e k (by omega) (by omega))⟩
theorem zRepM.now {A : zAS} {s : zPS} {μ μ1 : zMem} (h : zRepM A μ) (hs : zRepN 61 s μ1) (e : ∀ k, 60 ≤ k → k ≠ 61 → μ1 k = μ k) : zRepM (aSN A s) μ1 :=
  ⟨h.1.of (by rw [e 60 (by omega) (by omega)]) (e 68 (by omega) (by omega)), hs, h.2.2.1.of (by rw [e 60 (by omega) (by omega)]) (e 63 (by omega) (by omega)), h.2.2.2.1.of (by rw [e 60 (by omega) (by omega)]) (fun k h1 h2 => e k (by omega) (by omega)), h.2.2.2.2.of (by rw [e 60 (by omega) (by omega)]) (e 64 (by omega) (by omega)) (e 65 (by omega) (by omega))⟩
theorem pr_seed {F : Nat} (x : Int32) : zPair (fX11_seed F x) (fX12_seed F x) := by
  refine zPair.mk fun A μ hW hC => ?_
  cases hz : zIn x 0 65535
  · refine ⟨nI 0, A, μ, ?_, hW, hC, fun _ _ => rfl, fun μ' hM => ⟨μ', ?_, hM, fun _ _ => rfl⟩⟩
    · unfold fX11_seed
      rw [e_isWithin, zBd_s, hz, z_bf]
    · unfold fX12_seed
      rw [e_in, zBd_s, hz, z_bf]
  · obtain ⟨j, -, hj, rfl⟩ := zIn_t (by decide) (by decide) hz
    obtain ⟨w1, w2, w3, w4, w5, w6, w7, w8, w9, w10⟩ := hW.2.1
    refine ⟨nI 1, aSN A (sX (aN A) j), zUp μ 3 7 (nI j), ?_, hW.now ⟨w1, w2, w3, w4, w5, w6, w7, w8, w9, by show j < 65536; omega⟩, ?_, fun k hk => zUp_ne (by omega), fun μ' hM => ⟨zUp μ' 61 1046 (nI j), ?_, ?_, fun k hk => zUp_ne (by omega)⟩⟩
    · unfold fX11_seed
      rw [e_isWithin, zBd_s, hz, z_bt]
      rfl
    · obtain ⟨r1, r2, r3, r4, r5, r6, r7, r8⟩ := hC.2.1
      refine hC.now ⟨by rw [zUp_o (by decide)]; exact r1, by rw [zUp_o (by decide)]; exact r2, by rw [zUp_o (by decide)]; exact r3, by rw [zUp_s]; rfl, ?_, ?_, ?_, ?_⟩ (fun k _ _ => zUp_ne (by omega))
      · intro p hp; rw [zUp_ne (by decide)]; exact r5 p hp
      · intro p hp; rw [zUp_ne (by decide)]; exact r6 p hp
      · intro p hp; rw [zUp_ne (by decide)]; exact r7 p hp
      · intro q j hq hj; rw [zUp_ne (by decide)]; exact r8 q j hq hj
    · unfold fX12_seed
      rw [e_in, zBd_s, hz, z_bt, zG_in rfl (by decide) (by decide)]
      rfl
    · obtain ⟨r1, r2, r3, r4, r5, r6, r7, r8, r9⟩ := hM.2.1
      refine hM.now ⟨?_, ?_, ?_, ?_, ?_, ?_, by rw [zUp_o (by decide)]; exact r7, by rw [zUp_o (by decide)]; exact r8, by rw [zUp_s]; rfl⟩ (fun k _ hk => zUp_ne hk)
      · intro p hp; rw [zUp_o (by omega)]; exact r1 p hp
      · intro p hp; rw [zUp_o (by omega)]; exact r2 p hp
      · intro p hp; rw [zUp_o (by omega)]; exact r3 p hp
      · intro p hp; rw [zUp_o (by omega)]; exact r4 p hp
      · intro p hp; rw [zUp_o (by omega)]; exact r5 p hp
      · intro q i hq hi
        have hi2 : i < 16 := Nat.lt_of_lt_of_le hi (w7 q hq)
        rw [zUp_o (by omega), zUp_o (by omega), zUp_o (by omega)]
        exact r6 q i hq hi
def zKnows (s : zPS) (c p : Nat) : Bool := (pT s).testBit p && (pK s p).testBit c
theorem e_whoKnow_4 {F h c : Nat} {s : zPS} {μ : zMem} (hr : zRepS h s μ) (hw : zWFS s) (hc : c < 16) : ∀ m k a n, k + m = 16 → m < n → fX8_whoKnow_4 F h n (nI c) (nI a) (nI k) μ = some (nI (zFold (fun p a => if zKnows s c p then a ||| 2 ^ p else a) m k a), μ) := by
  intro m
  induction m with
  | zero =>
    intro k a n hk hn
    obtain ⟨n, rfl⟩ := z_s hn
    rw [fX8_whoKnow_4, z_done (by omega) (by omega)]
    rfl
  | succ m ih =>
    intro k a n hk hn
    obtain ⟨n, rfl⟩ := z_s hn
    have hK := hw.2.2.2.1 k (by omega)
    have hs : zSec s k < 65536 := by unfold zSec; split <;> omega
    rw [fX8_whoKnow_4, z_more (by omega) (by decide), e_secretsOf hr hw (by omega), zBd_s, e_hasBit (by omega) (by omega), zBd_s, nI_add]
    have e : (zSec s k).testBit c = zKnows s c k := by
      unfold zSec zKnows
      cases (pT s).testBit k <;> simp
    rw [e]
    show _ = some (nI (zFold _ m (k + 1) (if zKnows s c k then a ||| 2 ^ k else a)), μ)
    cases hz : zKnows s c k
    · rw [z_bf]
      exact ih (k + 1) _ n (by omega) (by omega)
    · rw [z_bt, zq_1shl (by omega), fa_or]
      exact ih (k + 1) _ n (by omega) (by omega)
theorem e_whoKnow {F h c : Nat} {s : zPS} {μ : zMem} (hF : 17 ≤ F) (hr : zRepS h s μ) (hw : zWFS s) (hc : c < 16) : fX8_whoKnow F h (nI c) μ = some (nI (zMask (zKnows s c)), μ) := e_whoKnow_4 hr hw hc 16 0 0 F rfl (by omega)
theorem e_mWhose_16 {F c : Nat} {s : zPS} {μ : zMem} (hr : zRepN 61 s μ) (hw : zWFS s) (hc : c < 16) : ∀ m k a n, k + m = 16 → m < n → fX12_whose_16 F n (nI c) (nI a) (nI k) μ = some (nI (zFold (fun p a => if zKnows s c p then a ||| 2 ^ p else a) m k a), μ) := by
  intro m
  induction m with
  | zero =>
    intro k a n hk hn
    obtain ⟨n, rfl⟩ := z_s hn
    rw [fX12_whose_16, z_done (by omega) (by omega)]
    rfl
  | succ m ih =>
    intro k a n hk hn
    obtain ⟨n, rfl⟩ := z_s hn
    have hK := hw.2.2.2.1 k (by omega)
    rw [fX12_whose_16, z_more (by omega) (by decide), e_mTold hr, zBd_s, zTold_n (by omega), nI_add, nI_add]
    show _ = some (nI (zFold _ m (k + 1) (if zKnows s c k then a ||| 2 ^ k else a)), μ)
    unfold zKnows
    cases hz : (pT s).testBit k
    · rw [z_bf]
      exact ih (k + 1) _ n (by omega) (by omega)
    · rw [z_bt, zG_in rfl (by omega) (by decide), nI_clamp (by omega), hr.2.1 k (by omega), e_has (by omega) (by omega), zBd_s, Bool.true_and]
      cases hz2 : (pK s k).testBit c
      · rw [z_bf]
        exact ih (k + 1) _ n (by omega) (by omega)
      · rw [z_bt, zq_1shl (by omega), fa_or]
        exact ih (k + 1) _ n (by omega) (by omega)
theorem e_mWhose {F c : Nat} {s : zPS} {μ : zMem} (hF : 17 ≤ F) (hr : zRepN 61 s μ) (hw : zWFS s) (hc : c < 16) : fX12_whose F (nI c) μ = some (nI (zMask (zKnows s c)), μ) := by
  unfold fX12_whose
  rw [e_in, zBd_s, zIn_nI (by omega) (by decide) (by decide), if_neg (by rw [zB_0]; simp; omega)]
  exact e_mWhose_16 hr hw hc 16 0 0 F rfl (by omega)
theorem pr_whose {F : Nat} (hF : 17 ≤ F) (x : Int32) : zPair (fX11_whose F x) (fX12_whose F x) := by
  cases hz : zIn x 0 15
  · refine zPair.ro (fun _ => -1) (fun A μ _ _ => ?_) (fun A μ _ _ => ?_)
    · unfold fX11_whose
      rw [e_isSecret, zBd_s, hz, z_bf]
    · unfold fX12_whose
      rw [e_in, zBd_s, hz, z_bf]
  · obtain ⟨j, -, hj, rfl⟩ := zIn_t (by decide) (by decide) hz
    refine zPair.ro (fun A => nI (zMask (zKnows (aN A) j))) (fun A μ hW hC => ?_) (fun A μ hW hM => e_mWhose hF hM.2.1 hW.2.1 (by omega))
    unfold fX11_whose
    rw [e_isSecret, zBd_s, hz, z_bt, e_whoKnow hF hC.2.1 hW.2.1 (by omega), zBd_s]
theorem pr_personIs {F : Nat} (hF : 17 ≤ F) (x w : Int32) : zPair (fX11_personIs F x w) (fX12_personIs F x w) := by
  refine zPair.ro (fun A => if zTold (aN A) x = true then (if w = nI 0 then nI (pK (aN A) x.toNatClampNeg) else if w = nI 1 then nI (zPop (pK (aN A) x.toNatClampNeg)) else if w = nI 2 then zB ((pR (aN A)).testBit x.toNatClampNeg) else if w = nI 3 then nI (pB (aN A) x.toNatClampNeg) else -1) else -1) (fun A μ hW hC => ?_) (fun A μ hW hM => ?_)
  · unfold fX11_personIs
    rw [e_isTold hC.2.1 hW.2.1, zBd_s]
    cases hz : zTold (aN A) x
    · rw [z_bf, if_neg (by decide)]
    · rw [z_bt, if_pos rfl]
      have hz2 : zIn x 0 15 = true := by unfold zTold at hz; exact (Bool.and_eq_true _ _ ▸ hz).1
      obtain ⟨j, -, hj, rfl⟩ := zIn_t (by decide) (by decide) hz2
      have hK := hW.2.1.2.2.2.1 j (by omega)
      rw [zG_in rfl (by omega) (by decide), zG_in rfl (by omega) (by decide), zG_in rfl (by omega) (by decide), nI_clamp (by omega), hC.2.1.2.2.2.2.1 j (by omega), hC.2.1.2.2.2.2.2.1 j (by omega), e_bitCount hK, zBd_s, e_isReader hC.2.1 hW.2.1 (by omega), zBd_s]
      by_cases h0 : w = nI 0
      · rw [if_pos h0, if_pos h0]
      · rw [if_neg h0, if_neg h0]
        by_cases h1 : w = nI 1
        · rw [if_pos h1, if_pos h1]
        · rw [if_neg h1, if_neg h1]
          by_cases h2 : w = nI 2
          · rw [if_pos h2, if_pos h2]
            cases (pR (aN A)).testBit j
            · rw [z_bf]; rfl
            · rw [z_bt]; rfl
          · rw [if_neg h2, if_neg h2]
            by_cases h3 : w = nI 3
            · rw [if_pos h3, if_pos h3]
            · rw [if_neg h3, if_neg h3]
  · unfold fX12_personIs
    rw [e_mTold hM.2.1, zBd_s]
    cases hz : zTold (aN A) x
    · rw [z_bf, if_neg (by decide)]
    · rw [z_bt, if_pos rfl]
      have hz2 : zIn x 0 15 = true := by unfold zTold at hz; exact (Bool.and_eq_true _ _ ▸ hz).1
      obtain ⟨j, -, hj, rfl⟩ := zIn_t (by decide) (by decide) hz2
      have hK := hW.2.1.2.2.2.1 j (by omega)
      simp only [nI_add]
      rw [zG_in rfl (by omega) (by decide), zG_in rfl (by omega) (by decide), zG_in rfl (by omega) (by decide), zG_in rfl (by omega) (by decide), nI_clamp (by omega), nI_clamp (by omega), nI_clamp (by omega), nI_clamp (by omega), hM.2.1.2.1 j (by omega), hM.2.1.2.2.1 j (by omega), hM.2.1.2.2.2.1 j (by omega), e_bits hF (by omega), zBd_s]
      by_cases h0 : w = nI 0
      · rw [if_pos h0, if_pos h0]
      · rw [if_neg h0, if_neg h0]
        by_cases h1 : w = nI 1
        · rw [if_pos h1, if_pos h1]
        · rw [if_neg h1, if_neg h1]
          by_cases h2 : w = nI 2
          · rw [if_pos h2, if_pos h2]; rfl
          · rw [if_neg h2, if_neg h2]
            by_cases h3 : w = nI 3
            · rw [if_pos h3, if_pos h3]
            · rw [if_neg h3, if_neg h3]
def zAlone (s : zPS) : Nat := zFold (fun c a => if zPop (zMask (zKnows s c)) = 1 then a ||| zMask (zKnows s c) else a) 16 0 0
theorem pr_alone {F : Nat} (hF : 17 ≤ F) : zPair (fX11_alone F) (fX12_alone F) := by
  refine zPair.ro (fun A => nI (zAlone (aN A))) (fun A μ hW hC => ?_) (fun A μ hW hM => ?_)
  · have key : ∀ m k a n, k + m = 16 → m < n → fX11_alone_4 F n (nI a) (nI k) μ = some (nI (zFold (fun c a => if zPop (zMask (zKnows (aN A) c)) = 1 then a ||| zMask (zKnows (aN A) c) else a) m k a), μ) := by
      intro m
      induction m with
      | zero =>
        intro k a n hk hn
        obtain ⟨n, rfl⟩ := z_s hn
        rw [fX11_alone_4, z_done (by omega) (by omega)]
        rfl
      | succ m ih =>
        intro k a n hk hn
        obtain ⟨n, rfl⟩ := z_s hn
        have hl := zMask_lt (zKnows (aN A) k)
        have hp := zPop_le (zMask (zKnows (aN A) k))
        rw [fX11_alone_4, z_more (by omega) (by decide), e_whoKnow hF hC.2.1 hW.2.1 (by omega), zBd_s, e_bitCount hl, zBd_s, nI_add, fa_or]
        show _ = some (nI (zFold _ m (k + 1) (if zPop (zMask (zKnows (aN A) k)) = 1 then a ||| zMask (zKnows (aN A) k) else a)), μ)
        by_cases h1 : zPop (zMask (zKnows (aN A) k)) = 1
        · rw [if_pos (by rw [h1]), if_pos h1]
          exact ih (k + 1) _ n (by omega) (by omega)
        · rw [if_neg (fun z => h1 ((nI_eq (by omega) (by decide)).mp z)), if_neg h1]
          exact ih (k + 1) _ n (by omega) (by omega)
    exact key 16 0 0 F rfl (by omega)
  · have key : ∀ m k a n, k + m = 16 → m < n → fX12_alone_4 F n (nI a) (nI k) μ = some (nI (zFold (fun c a => if zPop (zMask (zKnows (aN A) c)) = 1 then a ||| zMask (zKnows (aN A) c) else a) m k a), μ) := by
      intro m
      induction m with
      | zero =>
        intro k a n hk hn
        obtain ⟨n, rfl⟩ := z_s hn
        rw [fX12_alone_4, z_done (by omega) (by omega)]
        rfl
      | succ m ih =>
        intro k a n hk hn
        obtain ⟨n, rfl⟩ := z_s hn
        have hl := zMask_lt (zKnows (aN A) k)
        have hp := zPop_le (zMask (zKnows (aN A) k))
        rw [fX12_alone_4, z_more (by omega) (by decide), e_mWhose hF hM.2.1 hW.2.1 (by omega), zBd_s, e_bits hF (by omega), zBd_s, e_mWhose hF hM.2.1 hW.2.1 (by omega), zBd_s, nI_add, fa_or]
        show _ = some (nI (zFold _ m (k + 1) (if zPop (zMask (zKnows (aN A) k)) = 1 then a ||| zMask (zKnows (aN A) k) else a)), μ)
        by_cases h1 : zPop (zMask (zKnows (aN A) k)) = 1
        · rw [if_pos (by rw [h1]), if_pos h1]
          exact ih (k + 1) _ n (by omega) (by omega)
        · rw [if_neg (fun z => h1 ((nI_eq (by omega) (by decide)).mp z)), if_neg h1]
          exact ih (k + 1) _ n (by omega) (by omega)
    exact key 16 0 0 F rfl (by omega)
