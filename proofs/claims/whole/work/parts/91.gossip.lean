/-! ===== gossip: one line ===== -/
def sRd (s : zPS) (p : Nat) (v : Int32) : zPS := (pT s, zRd (pR s) p v, pK s, pB s, pP s, pW s, pw s, px s)
theorem sRd_wf {s : zPS} {p : Nat} {v : Int32} (h : zWFS s) (hp : p < 16) (ht : (pT s).testBit p = true) : zWFS (sRd s p v) := by
  obtain ⟨w1, w2, w3, w4, w5, w6, w7, w8, w9, w10⟩ := h
  refine ⟨w1, zRd_lt w2 hp, fun i hi => ?_, w4, w5, w6, w7, w8, w9, w10⟩
  have hi : (zRd (pR s) p v).testBit i = true := hi
  show (pT s).testBit i = true
  rw [zRd_bit w2] at hi
  by_cases e : p = i
  · rw [← e]; exact ht
  · rw [if_neg e] at hi; exact w3 i hi
theorem zRepS.r {h : Nat} {s : zPS} {μ : zMem} (hr : zRepS h s μ) (p : Nat) (v : Int32) : zRepS h (sRd s p v) (zUp μ h 5 (nI (zRd (pR s) p v))) := by
  obtain ⟨r1, r2, r3, r4, r5, r6, r7, r8⟩ := hr
  refine ⟨by rw [zUp_o (by decide)]; exact r1, by rw [zUp_s]; rfl, by rw [zUp_o (by decide)]; exact r3, by rw [zUp_o (by decide)]; exact r4, ?_, ?_, ?_, ?_⟩
  · intro p hp; rw [zUp_ne (by omega)]; exact r5 p hp
  · intro p hp; rw [zUp_ne (by omega)]; exact r6 p hp
  · intro p hp; rw [zUp_ne (by omega)]; exact r7 p hp
  · intro q j hq hj; rw [zUp_ne (by omega)]; exact r8 q j hq hj
theorem zRepN.r {s : zPS} {μ : zMem} (hr : zRepN 61 s μ) (hw : zWFS s) {p : Nat} (hp : p < 16) (b : Bool) : zRepN 61 (sRd s p (zB b)) (zUp μ 61 (32 + p) (zB b)) := by
  obtain ⟨r1, r2, r3, r4, r5, r6, r7, r8, r9⟩ := hr
  refine ⟨?_, ?_, ?_, ?_, ?_, ?_, by rw [zUp_o (by omega)]; exact r7, by rw [zUp_o (by omega)]; exact r8, by rw [zUp_o (by omega)]; exact r9⟩
  · intro p hp; rw [zUp_o (by omega)]; exact r1 p hp
  · intro p hp; rw [zUp_o (by omega)]; exact r2 p hp
  · intro i hi
    show _ = nI ((zRd (pR s) p (zB b)).testBit i).toNat
    rw [zRd_bit hw.2.1]
    by_cases e : i = p
    · rw [e, zUp_s, if_pos rfl]
      cases b <;> rfl
    · rw [zUp_o (by omega), if_neg (fun z => e z.symm)]; exact r3 i hi
  · intro p hp; rw [zUp_o (by omega)]; exact r4 p hp
  · intro p hp; rw [zUp_o (by omega)]; exact r5 p hp
  · intro q j hq hj; rw [zUp_o (by omega), zUp_o (by omega), zUp_o (by omega)]; exact r6 q j hq hj
/-- a line is done -/
def sDo (s : zPS) (w v o : Nat) : zPS := if v = 43 then sK s w (pK s w ||| 2 ^ o) else if v = 45 then sK s w (nAn (pK s w) (2 ^ o)) else if v = 61 then sB s w o else if v = 62 then sK s o (pK s o ||| pK s w) else if v = 33 then sRd s w (zB true) else sRd s w (zB false)
def yGv (s : zPS) (w v o : Nat) : Prop := w < 16 ∧ (pT s).testBit w = true ∧ (v = 33 ∨ v = 63 ∨ ((v = 43 ∨ v = 45) ∧ o < 16) ∨ (v = 61 ∧ o ≤ 9999) ∨ (v = 62 ∧ o < 16 ∧ (pT s).testBit o = true))
theorem sDo_T (s : zPS) (w v o : Nat) : pT (sDo s w v o) = pT s := by
  unfold sDo
  repeat' split
  all_goals rfl
theorem sDo_wf {s : zPS} {w v o : Nat} (h : zWFS s) (hv : yGv s w v o) : zWFS (sDo s w v o) := by
  obtain ⟨h1, h2, h3⟩ := hv
  have hK := h.2.2.2.1 w h1
  unfold sDo
  split
  · exact sK_wf h (or2_lt hK (by omega))
  · split
    · exact sK_wf h (nAn_lt hK)
    · split
      · exact sB_wf h h2 (by omega)
      · split
        · have hKo := h.2.2.2.1 o (by omega)
          exact sK_wf h (Nat.or_lt_two_pow (n := 16) hKo hK)
        · split
          · exact sRd_wf h h1 h2
          · exact sRd_wf h h1 h2
/-- the reference's line behind its sign -/
def yChain (F : Nat) (S W : Int32) (m17 : zMem) : Option zR := (if S = (nI 33) then zG ((nI 32) + W) 1047 (zLt (zUp m17 61 ((nI 32) + W).toNatClampNeg (nI 1)) (fun m19 => some ((nI 1), m19))) else if S = (nI 43) then zBd (fX12_readsSecret F W (nI 1) m17) (fun r20 m20 => zGb (decide (r20 = 0 ∨ r20 = 1)) (some (r20, m20))) else if S = (nI 45) then zBd (fX12_readsSecret F W (nI 0) m17) (fun r21 m21 => zGb (decide (r21 = 0 ∨ r21 = 1)) (some (r21, m21))) else if S = (nI 61) then zBd (fX12_readsBreath F W m17) (fun r22 m22 => zGb (decide (r22 = 0 ∨ r22 = 1)) (some (r22, m22))) else if S = (nI 62) then zBd (fX12_readsOther F W m17) (fun r23 m23 => zGb (decide (r23 = 0 ∨ r23 = 1)) (some (r23, m23))) else if S = (nI 63) then zG ((nI 32) + W) 1047 (zLt (zUp m17 61 ((nI 32) + W).toNatClampNeg (nI 0)) (fun m25 => some ((nI 1), m25))) else zBd (fX12_wrongAt F (nI 1) ((m17 60 10) - (nI 1)) m17) (fun r27 m27 => zGb (decide (r27 = 0 ∨ r27 = 1)) (some (r27, m27))))
theorem e_mIsLetter {F N p : Nat} {b : Nat → Nat} {μ : zMem} (h : yTM N b p μ) (hN : N ≤ 260) (hp : p ≤ 260) (hb : b p < 256) : fX12_isLetter F μ = some (zB (yIs N b p 97 112), μ) := by
  have hs : zIn (ySg N b p - nI 97) 0 15 = yIs N b p 97 112 := zIn_sgs hb (by decide) (by decide) (by decide)
  unfold fX12_isLetter
  rw [e_here h hN hp, zBd_s, e_in, zBd_s, hs, e_gb01]
theorem what_ex {N : Nat} {b : Nat → Nat} (hN : N ≤ 120) (hb : ∀ j, b j < 256) {q n w : Nat} {s : zPS} (hws : zWFS s) (hq : q ≤ N) (hn : n < 20) (hw16 : w < 16) (htw : (pT s).testBit w = true) : ∃ (ok : Bool) (p' v o : Nat) (ft : Int32), (ok = true → q < p' ∧ p' ≤ N ∧ yGv s w v o) ∧
    (∀ (F : Nat) (μ : zMem), 20 ≤ F → yTC N b q μ → μ 36 3 = nI n → μ 37 n = nI w → ∃ m1, fX4_readsWhat F (nI (pT s)) μ = some (zB ok, m1) ∧ (ok = true → yTC N b p' m1 ∧ m1 38 n = nI v ∧ (v ≠ 33 → v ≠ 63 → m1 39 n = nI o)) ∧ (ok = false → m1 1 3 = ft) ∧ (∀ i, i ≠ n → m1 38 i = μ 38 i ∧ m1 39 i = μ 39 i) ∧ ∀ c, c ≠ 1 → c ≠ 38 → c ≠ 39 → m1 c = μ c) ∧
    ∀ (F : Nat) (μ : zMem), 20 ≤ F → yTM N b (q + 1) μ → zRepN 61 s μ → ∃ m1, yChain F (ySg N b q) (nI w) μ = some (zB ok, m1) ∧ (ok = true → yTM N b p' m1 ∧ zRepN 61 (sDo s w v o) m1) ∧ (ok = false → m1 60 12 = ft) ∧ (∀ j, j ≠ 10 → j ≠ 12 → j ≠ 13 → m1 60 j = μ 60 j) ∧ ∀ c, c ≠ 60 → c ≠ 61 → m1 c = μ c := by
  have hT16 := hws.1
  have hKw := hws.2.2.2.1 w hw16
  -- the class ahead of the sign's ways
  have c0 : ∀ (F : Nat) (μ : zMem), yTC N b q μ → μ 36 3 = nI n → fX4_readsWhat F (nI (pT s)) μ = (if ySg N b q = (nI 33) then fX4_readsWhat_76 F (zUp μ 38 n (ySg N b q)) else if ySg N b q = (nI 43) then fX4_readsWhat_88 F (zUp μ 38 n (ySg N b q)) else if ySg N b q = (nI 45) then fX4_readsWhat_88 F (zUp μ 38 n (ySg N b q)) else if ySg N b q = (nI 61) then zLt (zUp (zUp μ 38 n (ySg N b q)) 1 2 (nI (q + 1))) (fun m6 => zBd (fX9_number F (nI 4) m6) (fun r9 m9 => zG (m6 36 3) 20 (zLt (zUp m9 39 (m6 36 3).toNatClampNeg r9) (fun m10 => zG (m10 36 3) 20 (if (m10 39 (m10 36 3).toNatClampNeg) = (-1 : Int32) then some ((nI 0), m10) else some ((nI 1), m10)))))) else if ySg N b q = (nI 62) then zLt (zUp (zUp μ 38 n (ySg N b q)) 1 2 (nI (q + 1))) (fun m14 => zBd (fX4_readsOther F (nI (pT s)) m14) (fun r15 m15 => zGb (decide (r15 = 0 ∨ r15 = 1)) (some (r15, m15)))) else if ySg N b q = (nI 63) then fX4_readsWhat_76 F (zUp μ 38 n (ySg N b q)) else zBd (fX9_fails F (nI 1) (zUp μ 38 n (ySg N b q))) (fun r16 m16 => zGb (decide (r16 = 0 ∨ r16 = 1)) (some (r16, m16)))) := by
    intro F μ hT h36
    unfold fX4_readsWhat
    rw [e_sign hT (by omega) (by omega), zBd_s, h36, zG_in rfl hn (by decide), cl9 (by omega)]
    dsimp only [zLt]
    rw [zUp_ne (show (1 : Nat) ≠ 38 by decide), hT.2.1, nI_add]
  have hTB : ∀ (μ : zMem) (x : Int32), yTC N b q μ → yTC N b q (zUp μ 38 n x) := fun μ x hT => hT.of (by rw [zUp_ne (by decide)]) (by rw [zUp_ne (by decide)]) (by rw [zUp_ne (by decide)])
  -- nothing that can stand there
  have bad : (∀ c, c = 33 ∨ c = 43 ∨ c = 45 ∨ c = 61 ∨ c = 62 ∨ c = 63 → ¬ ySg N b q = nI c) → ∃ (ok : Bool) (p' v o : Nat) (ft : Int32), (ok = true → q < p' ∧ p' ≤ N ∧ yGv s w v o) ∧
    (∀ (F : Nat) (μ : zMem), 20 ≤ F → yTC N b q μ → μ 36 3 = nI n → μ 37 n = nI w → ∃ m1, fX4_readsWhat F (nI (pT s)) μ = some (zB ok, m1) ∧ (ok = true → yTC N b p' m1 ∧ m1 38 n = nI v ∧ (v ≠ 33 → v ≠ 63 → m1 39 n = nI o)) ∧ (ok = false → m1 1 3 = ft) ∧ (∀ i, i ≠ n → m1 38 i = μ 38 i ∧ m1 39 i = μ 39 i) ∧ ∀ c, c ≠ 1 → c ≠ 38 → c ≠ 39 → m1 c = μ c) ∧
    ∀ (F : Nat) (μ : zMem), 20 ≤ F → yTM N b (q + 1) μ → zRepN 61 s μ → ∃ m1, yChain F (ySg N b q) (nI w) μ = some (zB ok, m1) ∧ (ok = true → yTM N b p' m1 ∧ zRepN 61 (sDo s w v o) m1) ∧ (ok = false → m1 60 12 = ft) ∧ (∀ j, j ≠ 10 → j ≠ 12 → j ≠ 13 → m1 60 j = μ 60 j) ∧ ∀ c, c ≠ 60 → c ≠ 61 → m1 c = μ c := by
    intro hno
    have n33 := hno 33 (by omega)
    have n43 := hno 43 (by omega)
    have n45 := hno 45 (by omega)
    have n61 := hno 61 (by omega)
    have n62 := hno 62 (by omega)
    have n63 := hno 63 (by omega)
    refine ⟨false, 0, 0, 0, yFt 1 q, fun h => (by cases h), fun F μ hF hT h36 h37 => ?_, fun F μ hF hT hr => ?_⟩
    · refine ⟨zUp (zUp μ 38 n (ySg N b q)) 1 3 (yFt 1 q), ?_, fun h => (by cases h), fun _ => zUp_s _ _ _ _, fun i hi => ⟨by rw [zUp_ne (by decide), zUp_o hi], by rw [zUp_ne (by decide), zUp_ne (by decide)]⟩, fun c h1 h2 h3 => by rw [zUp_ne h1, zUp_ne h2]⟩
      rw [c0 F μ hT h36, if_neg n33, if_neg n43, if_neg n45, if_neg n61, if_neg n62, if_neg n63, e_fails (hTB μ _ hT), zBd_s, zGb0]
      rfl
    · refine ⟨zUp μ 60 12 (yFt 1 q), ?_, fun h => (by cases h), fun _ => zUp_s _ _ _ _, fun j h1 h2 h3 => zUp_o h2, fun c h1 h2 => zUp_ne h1⟩
      unfold yChain
      rw [if_neg n33, if_neg n43, if_neg n45, if_neg n61, if_neg n62, if_neg n63, hT.2.1, pk_sub (by omega), show q + 1 - 1 = q by omega, e_wrongAt, zBd_s, zGb0]
      rfl
  by_cases hin : q < N
  · have hS : ySg N b q = nI (b q) := ySg_in hin
    have hbq := hb q
    have ne : ∀ c, c < 256 → b q ≠ c → ¬ nI (b q) = nI c := fun c hc h z => h ((nI_eq (by omega) (by omega)).mp z)
    have hs65 : zIn (ySg N b (q + 1) - nI 65) 0 15 = yIs N b (q + 1) 65 80 := zIn_sgs (hb _) (by decide) (by decide) (by decide)
    have hs97 : zIn (ySg N b (q + 1) - nI 97) 0 15 = yIs N b (q + 1) 97 112 := zIn_sgs (hb _) (by decide) (by decide) (by decide)
    -- a reader or none
    have rd : ∀ (v : Nat), (v = 33 ∨ v = 63) → b q = v → ∃ (ok : Bool) (p' v o : Nat) (ft : Int32), (ok = true → q < p' ∧ p' ≤ N ∧ yGv s w v o) ∧
      (∀ (F : Nat) (μ : zMem), 20 ≤ F → yTC N b q μ → μ 36 3 = nI n → μ 37 n = nI w → ∃ m1, fX4_readsWhat F (nI (pT s)) μ = some (zB ok, m1) ∧ (ok = true → yTC N b p' m1 ∧ m1 38 n = nI v ∧ (v ≠ 33 → v ≠ 63 → m1 39 n = nI o)) ∧ (ok = false → m1 1 3 = ft) ∧ (∀ i, i ≠ n → m1 38 i = μ 38 i ∧ m1 39 i = μ 39 i) ∧ ∀ c, c ≠ 1 → c ≠ 38 → c ≠ 39 → m1 c = μ c) ∧
      ∀ (F : Nat) (μ : zMem), 20 ≤ F → yTM N b (q + 1) μ → zRepN 61 s μ → ∃ m1, yChain F (ySg N b q) (nI w) μ = some (zB ok, m1) ∧ (ok = true → yTM N b p' m1 ∧ zRepN 61 (sDo s w v o) m1) ∧ (ok = false → m1 60 12 = ft) ∧ (∀ j, j ≠ 10 → j ≠ 12 → j ≠ 13 → m1 60 j = μ 60 j) ∧ ∀ c, c ≠ 60 → c ≠ 61 → m1 c = μ c := by
      intro v hv hbv
      refine ⟨true, q + 1, v, 0, 0, fun _ => ⟨by omega, by omega, hw16, htw, by omega⟩, fun F μ hF hT h36 h37 => ?_, fun F μ hF hT hr => ?_⟩
      · refine ⟨zUp (zUp μ 38 n (nI v)) 1 2 (nI (q + 1)), ?_, fun _ => ⟨hT.to (by rw [zUp_o (by decide), zUp_ne (by decide)]) (zUp_s _ _ _ _) (by rw [zUp_ne (by decide), zUp_ne (by decide)]), by rw [zUp_ne (by decide), zUp_s], fun h1 h2 => absurd hv (by omega)⟩, fun h => (by cases h), fun i hi => ⟨by rw [zUp_ne (by decide), zUp_o hi], by rw [zUp_ne (by decide), zUp_ne (by decide)]⟩, fun c h1 h2 h3 => by rw [zUp_ne h1, zUp_ne h2]⟩
        have k76 : fX4_readsWhat_76 F (zUp μ 38 n (nI v)) = some (zB true, zUp (zUp μ 38 n (nI v)) 1 2 (nI (q + 1))) := by
          unfold fX4_readsWhat_76
          rw [zUp_ne (show (1 : Nat) ≠ 38 by decide), hT.2.1, nI_add]
          rfl
        rw [c0 F μ hT h36, hS, hbv, k76]
        rcases hv with rfl | rfl
        · rw [if_pos rfl]
        · rw [if_neg (by decide), if_neg (by decide), if_neg (by decide), if_neg (by decide), if_neg (by decide), if_pos rfl]
      · unfold yChain
        rw [hS, hbv, nI_add]
        rcases hv with rfl | rfl
        · refine ⟨zUp μ 61 (32 + w) (zB true), ?_, fun _ => ⟨hT.of (by rw [zUp_ne (by decide)]) (by rw [zUp_ne (by decide)]) (zUp_ne (by decide)), hr.r hws hw16 true⟩, fun h => (by cases h), fun j h1 h2 h3 => by rw [zUp_ne (by decide)], fun c h1 h2 => zUp_ne h2⟩
          rw [if_pos rfl, zG_in rfl (by omega) (by decide), cl9 (by omega)]
          rfl
        · refine ⟨zUp μ 61 (32 + w) (zB false), ?_, fun _ => ⟨hT.of (by rw [zUp_ne (by decide)]) (by rw [zUp_ne (by decide)]) (zUp_ne (by decide)), hr.r hws hw16 false⟩, fun h => (by cases h), fun j h1 h2 h3 => by rw [zUp_ne (by decide)], fun c h1 h2 => zUp_ne h2⟩
          rw [if_neg (by decide), if_neg (by decide), if_neg (by decide), if_neg (by decide), if_neg (by decide), if_pos rfl, zG_in rfl (by omega) (by decide), cl9 (by omega)]
          rfl
    -- a secret more or less
    have sec : ∀ (v : Nat), (v = 43 ∨ v = 45) → b q = v → ∃ (ok : Bool) (p' v o : Nat) (ft : Int32), (ok = true → q < p' ∧ p' ≤ N ∧ yGv s w v o) ∧
      (∀ (F : Nat) (μ : zMem), 20 ≤ F → yTC N b q μ → μ 36 3 = nI n → μ 37 n = nI w → ∃ m1, fX4_readsWhat F (nI (pT s)) μ = some (zB ok, m1) ∧ (ok = true → yTC N b p' m1 ∧ m1 38 n = nI v ∧ (v ≠ 33 → v ≠ 63 → m1 39 n = nI o)) ∧ (ok = false → m1 1 3 = ft) ∧ (∀ i, i ≠ n → m1 38 i = μ 38 i ∧ m1 39 i = μ 39 i) ∧ ∀ c, c ≠ 1 → c ≠ 38 → c ≠ 39 → m1 c = μ c) ∧
      ∀ (F : Nat) (μ : zMem), 20 ≤ F → yTM N b (q + 1) μ → zRepN 61 s μ → ∃ m1, yChain F (ySg N b q) (nI w) μ = some (zB ok, m1) ∧ (ok = true → yTM N b p' m1 ∧ zRepN 61 (sDo s w v o) m1) ∧ (ok = false → m1 60 12 = ft) ∧ (∀ j, j ≠ 10 → j ≠ 12 → j ≠ 13 → m1 60 j = μ 60 j) ∧ ∀ c, c ≠ 60 → c ≠ 61 → m1 c = μ c := by
      intro v hv hbv
      have cW : ∀ (F : Nat) (μ : zMem), yTC N b q μ → μ 36 3 = nI n → fX4_readsWhat F (nI (pT s)) μ = zBd (fX4_readsSecret F (zUp (zUp μ 38 n (nI v)) 1 2 (nI (q + 1)))) (fun r3 m3 => zGb (decide (r3 = 0 ∨ r3 = 1)) (some (r3, m3))) := by
        intro F μ hT h36
        have k88 : fX4_readsWhat_88 F (zUp μ 38 n (nI v)) = zBd (fX4_readsSecret F (zUp (zUp μ 38 n (nI v)) 1 2 (nI (q + 1)))) (fun r3 m3 => zGb (decide (r3 = 0 ∨ r3 = 1)) (some (r3, m3))) := by
          unfold fX4_readsWhat_88
          rw [zUp_ne (show (1 : Nat) ≠ 38 by decide), hT.2.1, nI_add]
          rfl
        rw [c0 F μ hT h36, hS, hbv, k88]
        rcases hv with rfl | rfl
        · rw [if_neg (by decide), if_pos rfl]
        · rw [if_neg (by decide), if_neg (by decide), if_pos rfl]
      have hTB1 : ∀ μ, yTC N b q μ → yTC N b (q + 1) (zUp (zUp μ 38 n (nI v)) 1 2 (nI (q + 1))) := fun μ hT => hT.to (by rw [zUp_o (by decide), zUp_ne (by decide)]) (zUp_s _ _ _ _) (by rw [zUp_ne (by decide), zUp_ne (by decide)])
      have mW : ∀ (F : Nat) (μ : zMem), yChain F (ySg N b q) (nI w) μ = zBd (fX12_readsSecret F (nI w) (zB (decide (v = 43))) μ) (fun r3 m3 => zGb (decide (r3 = 0 ∨ r3 = 1)) (some (r3, m3))) := by
        intro F μ
        unfold yChain
        rw [hS, hbv]
        rcases hv with rfl | rfl
        · rw [if_neg (by decide), if_pos rfl]; rfl
        · rw [if_neg (by decide), if_neg (by decide), if_pos rfl]; rfl
      cases hl : yIs N b (q + 1) 65 80 with
      | false =>
        refine ⟨false, 0, 0, 0, yFt 1 (q + 1), fun h => (by cases h), fun F μ hF hT h36 h37 => ?_, fun F μ hF hT hr => ?_⟩
        · refine ⟨zUp (zUp (zUp μ 38 n (nI v)) 1 2 (nI (q + 1))) 1 3 (yFt 1 (q + 1)), ?_, fun h => (by cases h), fun _ => zUp_s _ _ _ _, fun i hi => ⟨by rw [zUp_ne (by decide), zUp_ne (by decide), zUp_o hi], by rw [zUp_ne (by decide), zUp_ne (by decide), zUp_ne (by decide)]⟩, fun c h1 h2 h3 => by rw [zUp_ne h1, zUp_ne h1, zUp_ne h2]⟩
          rw [cW F μ hT h36]
          unfold fX4_readsSecret
          rw [e_sign (hTB1 μ hT) (by omega) (by omega), zBd_s, e_isSecret, zBd_s, hs65, hl, z_bf, e_fails (hTB1 μ hT), zBd_s, zGb0, zBd_s, zGb0]
          rfl
        · refine ⟨zUp μ 60 12 (yFt 1 (q + 1)), ?_, fun h => (by cases h), fun _ => zUp_s _ _ _ _, fun j h1 h2 h3 => zUp_o h2, fun c h1 h2 => zUp_ne h1⟩
          rw [mW F μ]
          unfold fX12_readsSecret
          rw [e_here hT (by omega) (by omega), zBd_s, e_in, zBd_s, hs65, hl, z_bf, hT.2.1, e_wrongAt, zBd_s, zGb0, zBd_s, zGb0]
          rfl
      | true =>
        obtain ⟨hp1, hlo, hhi⟩ := yIs_t hl
        have hS1 : ySg N b (q + 1) - nI 65 = nI (b (q + 1) - 65) := by rw [ySg_in hp1, pk_sub hlo]
        refine ⟨true, q + 2, v, b (q + 1) - 65, 0, fun _ => ⟨by omega, by omega, hw16, htw, Or.inr (Or.inr (Or.inl ⟨hv, by omega⟩))⟩, fun F μ hF hT h36 h37 => ?_, fun F μ hF hT hr => ?_⟩
        · refine ⟨zUp (zUp (zUp (zUp μ 38 n (nI v)) 1 2 (nI (q + 1))) 1 2 (nI (q + 2))) 39 n (nI (b (q + 1) - 65)), ?_, fun _ => ⟨hT.to (by rw [zUp_ne (by decide), zUp_o (by decide), zUp_o (by decide), zUp_ne (by decide)]) (by rw [zUp_ne (by decide), zUp_s]) (by rw [zUp_ne (by decide), zUp_ne (by decide), zUp_ne (by decide), zUp_ne (by decide)]), by rw [zUp_ne (by decide), zUp_ne (by decide), zUp_ne (by decide), zUp_s], fun _ _ => zUp_s _ _ _ _⟩, fun h => (by cases h), fun i hi => ⟨by rw [zUp_ne (by decide), zUp_ne (by decide), zUp_ne (by decide), zUp_o hi], by rw [zUp_o hi, zUp_ne (by decide), zUp_ne (by decide), zUp_ne (by decide)]⟩, fun c h1 h2 h3 => by rw [zUp_ne h3, zUp_ne h1, zUp_ne h1, zUp_ne h2]⟩
          rw [cW F μ hT h36]
          unfold fX4_readsSecret
          rw [e_sign (hTB1 μ hT) (by omega) (by omega), zBd_s, e_isSecret, zBd_s, hs65, hl, z_bt, hS1, zUp_s, nI_add]
          dsimp only [zLt]
          rw [zUp_ne (show (36 : Nat) ≠ 1 by decide), zUp_ne (show (36 : Nat) ≠ 1 by decide), zUp_ne (show (36 : Nat) ≠ 38 by decide), h36, zG_in rfl hn (by decide), cl9 (by omega), zBd_s, zGb1]
          rfl
        · have eo : nI 1 <<< (nI (b (q + 1) - 65) &&& 31) = nI (2 ^ (b (q + 1) - 65)) := zq_1shl (by omega)
          have h61 : ∀ x, zUp μ 60 10 x 61 = μ 61 := fun x => zUp_ne (by decide)
          have vK : μ 61 (16 + w) = nI (pK s w) := hr.2.1 w hw16
          rw [mW F μ]
          unfold fX12_readsSecret
          rw [e_here hT (by omega) (by omega), zBd_s, e_in, zBd_s, hs65, hl, z_bt, hT.2.1, nI_add, hS1, eo, nI_add]
          dsimp only [zLt]
          rw [h61, cl9 (by omega), vK, zG_in rfl (by omega) (by decide), zG_in rfl (by omega) (by decide), zG_in rfl (by omega) (by decide), zG_in rfl (by omega) (by decide), zq_andn hKw, fa_or]
          have hr1 : zRepN 61 s (zUp μ 60 10 (nI (q + 2))) := hr.of (zUp_ne (by decide))
          rcases hv with rfl | rfl
          · refine ⟨zUp (zUp μ 60 10 (nI (q + 2))) 61 (16 + w) (nI (pK s w ||| 2 ^ (b (q + 1) - 65))), ?_, fun _ => ⟨hT.to (by rw [zUp_ne (by decide), zUp_o (by decide)]) (by rw [zUp_ne (by decide), zUp_s]) (by rw [zUp_ne (by decide), zUp_ne (by decide)]), hr1.k hw16 _⟩, fun h => (by cases h), fun j h1 h2 h3 => by rw [zUp_ne (by decide), zUp_o h1], fun c h1 h2 => by rw [zUp_ne h2, zUp_ne h1]⟩
            rw [if_neg (show ¬ zB (decide (43 = 43)) = 0 by decide), zBd_s, zGb1]
            rfl
          · refine ⟨zUp (zUp μ 60 10 (nI (q + 2))) 61 (16 + w) (nI (nAn (pK s w) (2 ^ (b (q + 1) - 65)))), ?_, fun _ => ⟨hT.to (by rw [zUp_ne (by decide), zUp_o (by decide)]) (by rw [zUp_ne (by decide), zUp_s]) (by rw [zUp_ne (by decide), zUp_ne (by decide)]), hr1.k hw16 _⟩, fun h => (by cases h), fun j h1 h2 h3 => by rw [zUp_ne (by decide), zUp_o h1], fun c h1 h2 => by rw [zUp_ne h2, zUp_ne h1]⟩
            rw [if_pos (show zB (decide (45 = 43)) = 0 from rfl), zBd_s, zGb1]
            rfl
    by_cases e33 : b q = 33
    · exact rd 33 (by omega) e33
    by_cases e63 : b q = 63
    · exact rd 63 (by omega) e63
    by_cases e43 : b q = 43
    · exact sec 43 (by omega) e43
    by_cases e45 : b q = 45
    · exact sec 45 (by omega) e45
    by_cases e61 : b q = 61
    · -- breath
      obtain ⟨ok, i', v', k, g1, g2, g3, g4, g5, g6, g7, g8, -⟩ := num_k (N := N) (D := 4) (q := q + 1) (b := b) (by omega) hb (by omega) 4 0 0 rfl (by omega) (by decide)
      have hp4 : 10 ^ i' ≤ 10 ^ 4 := Nat.pow_le_pow_right (by decide) g2
      have hTB1 : ∀ μ, yTC N b q μ → yTC N b (q + 1 + 0) (zUp (zUp μ 38 n (nI 61)) 1 2 (nI (q + 1))) := fun μ hT => hT.to (by rw [zUp_o (by decide), zUp_ne (by decide)]) (zUp_s _ _ _ _) (by rw [zUp_ne (by decide), zUp_ne (by decide)])
      have cW : ∀ (F : Nat) (μ : zMem), 20 ≤ F → yTC N b q μ → μ 36 3 = nI n → ∃ m1, fX4_readsWhat F (nI (pT s)) μ = some (zB ok, zUp m1 39 n (if ok then nI v' else -1)) ∧ yTC N b (q + 1 + i') m1 ∧ (ok = false → m1 1 3 = yFt k (q + 1 + i')) ∧ ∀ c, c ≠ 1 → m1 c = zUp μ 38 n (nI 61) c := by
        intro F μ hF hT h36
        obtain ⟨m1, a1, a2, a3, a4⟩ := g7 F F (zUp (zUp μ 38 n (nI 61)) 1 2 (nI (q + 1))) (by omega) (hTB1 μ hT)
        refine ⟨m1, ?_, a2, a3, fun c hc => by rw [a4 c hc, zUp_ne hc]⟩
        have e36 : m1 36 3 = nI n := by rw [a4 36 (by decide), zUp_ne (by decide), zUp_ne (by decide)]; exact h36
        rw [c0 F μ hT h36, hS, e61, if_neg (by decide), if_neg (by decide), if_neg (by decide), if_pos rfl]
        dsimp only [zLt]
        unfold fX9_number
        rw [a1, zBd_s, zUp_ne (show (36 : Nat) ≠ 1 by decide), zUp_ne (show (36 : Nat) ≠ 38 by decide), h36, zG_in rfl hn (by decide), cl9 (by omega), zUp_ne (show (36 : Nat) ≠ 39 by decide), e36, zG_in rfl hn (by decide), cl9 (by omega), zUp_s]
        cases ok
        · rw [if_pos (show (if false = true then nI v' else (-1 : Int32)) = -1 from rfl)]; rfl
        · rw [if_neg (by rw [if_pos rfl]; exact nI_m1 (by omega))]; rfl
      have mW : ∀ (F : Nat) (μ : zMem), yChain F (ySg N b q) (nI w) μ = zBd (fX12_readsBreath F (nI w) μ) (fun r3 m3 => zGb (decide (r3 = 0 ∨ r3 = 1)) (some (r3, m3))) := by
        intro F μ
        unfold yChain
        rw [hS, e61, if_neg (by decide), if_neg (by decide), if_neg (by decide), if_pos rfl]
      cases hl : yIs N b (q + 1 + 0) 48 57 with
      | false =>
        -- no digit: both refuse
        have hs48 : zIn (ySg N b (q + 1 + 0) - nI 48) 0 9 = yIs N b (q + 1 + 0) 48 57 := zIn_sgs (hb _) (by decide) (by decide) (by decide)
        refine ⟨false, 0, 0, 0, yFt 1 (q + 1), fun h => (by cases h), fun F μ hF hT h36 h37 => ?_, fun F μ hF hT hr => ?_⟩
        · have hTT := hTB1 μ hT
          have en : fX9_number F (nI 4) (zUp (zUp μ 38 n (nI 61)) 1 2 (nI (q + 1))) = some (-1, zUp (zUp (zUp μ 38 n (nI 61)) 1 2 (nI (q + 1))) 1 3 (yFt 1 (q + 1))) := by
            obtain ⟨F, rfl⟩ := z_s hF
            unfold fX9_number
            rw [fX9_number_4, if_neg (by decide), e_sign hTT (by omega) (by omega), zBd_s, e_isWithin, zBd_s, hs48, hl, z_bf, if_pos (show nI 0 = 0 from rfl), e_fails hTT, zBd_s]
          refine ⟨zUp (zUp (zUp (zUp μ 38 n (nI 61)) 1 2 (nI (q + 1))) 1 3 (yFt 1 (q + 1))) 39 n (-1), ?_, fun h => (by cases h), fun _ => by rw [zUp_ne (by decide), zUp_s], fun i hi => ⟨by rw [zUp_ne (by decide), zUp_ne (by decide), zUp_ne (by decide), zUp_o hi], by rw [zUp_o hi, zUp_ne (by decide), zUp_ne (by decide), zUp_ne (by decide)]⟩, fun c h1 h2 h3 => by rw [zUp_ne h3, zUp_ne h1, zUp_ne h1, zUp_ne h2]⟩
          rw [c0 F μ hT h36, hS, e61, if_neg (by decide), if_neg (by decide), if_neg (by decide), if_pos rfl]
          dsimp only [zLt]
          rw [en, zBd_s, zUp_ne (show (36 : Nat) ≠ 1 by decide), zUp_ne (show (36 : Nat) ≠ 38 by decide), h36, zG_in rfl hn (by decide), cl9 (by omega), zUp_ne (show (36 : Nat) ≠ 39 by decide), zUp_ne (show (36 : Nat) ≠ 1 by decide), zUp_ne (show (36 : Nat) ≠ 1 by decide), zUp_ne (show (36 : Nat) ≠ 38 by decide), h36, zG_in rfl hn (by decide), cl9 (by omega), zUp_s, if_pos rfl]
          rfl
        · refine ⟨zUp μ 60 12 (yFt 1 (q + 1)), ?_, fun h => (by cases h), fun _ => zUp_s _ _ _ _, fun j h1 h2 h3 => zUp_o h2, fun c h1 h2 => zUp_ne h1⟩
          rw [mW F μ]
          unfold fX12_readsBreath
          rw [e_isDigit hT (by omega) (by omega) (hb _), zBd_s, show yIs N b (q + 1) 48 57 = false from hl, z_bf, hT.2.1, e_wrongAt, zBd_s, zGb0, zBd_s, zGb0]
          rfl
      | true =>
        have hdig : yIs N b (q + 1 + 0) 48 57 = true := hl
        have mB : ∀ (F : Nat) (μ : zMem), 20 ≤ F → yTM N b (q + 1) μ → ∃ m1, yTM N b (q + 1 + i') m1 ∧ (∀ j, j ≠ 10 → j ≠ 12 → j ≠ 13 → m1 60 j = μ 60 j) ∧ (∀ c, c ≠ 60 → m1 c = μ c) ∧ (ok = true → fX12_readsBreath F (nI w) μ = some (nI 1, zUp m1 61 (48 + w) (nI v'))) ∧ (ok = false → fX12_readsBreath F (nI w) μ = some (nI 0, m1) ∧ m1 60 12 = yFt k (q + 1 + i')) := by
          intro F μ hF hT
          obtain ⟨m1, a1, a2, a3, a4, a5⟩ := g8 rfl (Or.inr hdig) F F w (zUp μ 60 13 (nI 0)) (by omega) hw16 (hT.of (zUp_o (by decide)) (zUp_o (by decide)) (zUp_ne (by decide))) (zUp_s _ _ _ _)
          have e : fX12_readsBreath F (nI w) μ = fX12_readsBreath_27 F F (nI w) (nI (q + 1)) (zUp μ 60 13 (nI 0)) := by
            unfold fX12_readsBreath
            rw [e_isDigit hT (by omega) (by omega) (hb _), zBd_s, show yIs N b (q + 1) 48 57 = true from hl, z_bt, hT.2.1]
            rfl
          rw [e]
          exact ⟨m1, a1, fun j h1 h2 h3 => by rw [a2 j h1 h2 h3, zUp_o h3], fun c h1 => by rw [a3 c h1, zUp_ne h1], a4, a5⟩
        cases ok with
        | true =>
          refine ⟨true, q + 1 + i', 61, v', 0, fun _ => ⟨by omega, g3, hw16, htw, Or.inr (Or.inr (Or.inr (Or.inl ⟨rfl, by omega⟩)))⟩, fun F μ hF hT h36 h37 => ?_, fun F μ hF hT hr => ?_⟩
          · obtain ⟨m1, a1, a2, a3, a4⟩ := cW F μ hF hT h36
            rw [if_pos rfl] at a1
            refine ⟨zUp m1 39 n (nI v'), a1, fun _ => ⟨a2.of (by rw [zUp_ne (by decide)]) (by rw [zUp_ne (by decide)]) (zUp_ne (by decide)), by rw [zUp_ne (by decide), a4 38 (by decide), zUp_s], fun _ _ => zUp_s _ _ _ _⟩, fun h => (by cases h), fun i hi => ⟨by rw [zUp_ne (by decide), a4 38 (by decide), zUp_o hi], by rw [zUp_o hi, a4 39 (by decide), zUp_ne (by decide)]⟩, fun c h1 h2 h3 => by rw [zUp_ne h3, a4 c h1, zUp_ne h2]⟩
          · obtain ⟨m1, a1, a2, a3, a4, a5⟩ := mB F μ hF hT
            refine ⟨zUp m1 61 (48 + w) (nI v'), ?_, fun _ => ⟨a1.of (by rw [zUp_ne (by decide)]) (by rw [zUp_ne (by decide)]) (zUp_ne (by decide)), (hr.of (a3 61 (by decide))).b hw16 v'⟩, fun h => (by cases h), fun j h1 h2 h3 => by rw [zUp_ne (by decide), a2 j h1 h2 h3], fun c h1 h2 => by rw [zUp_ne h2, a3 c h1]⟩
            rw [mW F μ, a4 rfl, zBd_s, zGb1]
            rfl
        | false =>
          refine ⟨false, 0, 0, 0, yFt k (q + 1 + i'), fun h => (by cases h), fun F μ hF hT h36 h37 => ?_, fun F μ hF hT hr => ?_⟩
          · obtain ⟨m1, a1, a2, a3, a4⟩ := cW F μ hF hT h36
            refine ⟨_, a1, fun h => (by cases h), fun _ => by rw [zUp_ne (by decide)]; exact a3 rfl, fun i hi => ⟨by rw [zUp_ne (by decide), a4 38 (by decide), zUp_o hi], by rw [zUp_o hi, a4 39 (by decide), zUp_ne (by decide)]⟩, fun c h1 h2 h3 => by rw [zUp_ne h3, a4 c h1, zUp_ne h2]⟩
          · obtain ⟨m1, a1, a2, a3, a4, a5⟩ := mB F μ hF hT
            obtain ⟨b1, b2⟩ := a5 rfl
            refine ⟨m1, ?_, fun h => (by cases h), fun _ => b2, a2, fun c h1 h2 => a3 c h1⟩
            rw [mW F μ, b1, zBd_s, zGb0]
            rfl
    by_cases e62 : b q = 62
    · -- all to another one
      have cW : ∀ (F : Nat) (μ : zMem), yTC N b q μ → μ 36 3 = nI n → fX4_readsWhat F (nI (pT s)) μ = zBd (fX4_readsOther F (nI (pT s)) (zUp (zUp μ 38 n (nI 62)) 1 2 (nI (q + 1)))) (fun r3 m3 => zGb (decide (r3 = 0 ∨ r3 = 1)) (some (r3, m3))) := by
        intro F μ hT h36
        rw [c0 F μ hT h36, hS, e62, if_neg (by decide), if_neg (by decide), if_neg (by decide), if_neg (by decide), if_pos rfl]
        rfl
      have hTB1 : ∀ μ, yTC N b q μ → yTC N b (q + 1) (zUp (zUp μ 38 n (nI 62)) 1 2 (nI (q + 1))) := fun μ hT => hT.to (by rw [zUp_o (by decide), zUp_ne (by decide)]) (zUp_s _ _ _ _) (by rw [zUp_ne (by decide), zUp_ne (by decide)])
      have mW : ∀ (F : Nat) (μ : zMem), yChain F (ySg N b q) (nI w) μ = zBd (fX12_readsOther F (nI w) μ) (fun r3 m3 => zGb (decide (r3 = 0 ∨ r3 = 1)) (some (r3, m3))) := by
        intro F μ
        unfold yChain
        rw [hS, e62, if_neg (by decide), if_neg (by decide), if_neg (by decide), if_neg (by decide), if_pos rfl]
      have flt : ∀ (kk : Nat), (∀ (F : Nat) (μ : zMem), yTC N b q μ → μ 36 3 = nI n → μ 37 n = nI w → fX4_readsOther F (nI (pT s)) (zUp (zUp μ 38 n (nI 62)) 1 2 (nI (q + 1))) = some (nI 0, zUp (zUp (zUp μ 38 n (nI 62)) 1 2 (nI (q + 1))) 1 3 (yFt kk (q + 1)))) → (∀ (F : Nat) (μ : zMem), yTM N b (q + 1) μ → zRepN 61 s μ → fX12_readsOther F (nI w) μ = some (nI 0, zUp μ 60 12 (yFt kk (q + 1)))) → ∃ (ok : Bool) (p' v o : Nat) (ft : Int32), (ok = true → q < p' ∧ p' ≤ N ∧ yGv s w v o) ∧
        (∀ (F : Nat) (μ : zMem), 20 ≤ F → yTC N b q μ → μ 36 3 = nI n → μ 37 n = nI w → ∃ m1, fX4_readsWhat F (nI (pT s)) μ = some (zB ok, m1) ∧ (ok = true → yTC N b p' m1 ∧ m1 38 n = nI v ∧ (v ≠ 33 → v ≠ 63 → m1 39 n = nI o)) ∧ (ok = false → m1 1 3 = ft) ∧ (∀ i, i ≠ n → m1 38 i = μ 38 i ∧ m1 39 i = μ 39 i) ∧ ∀ c, c ≠ 1 → c ≠ 38 → c ≠ 39 → m1 c = μ c) ∧
        ∀ (F : Nat) (μ : zMem), 20 ≤ F → yTM N b (q + 1) μ → zRepN 61 s μ → ∃ m1, yChain F (ySg N b q) (nI w) μ = some (zB ok, m1) ∧ (ok = true → yTM N b p' m1 ∧ zRepN 61 (sDo s w v o) m1) ∧ (ok = false → m1 60 12 = ft) ∧ (∀ j, j ≠ 10 → j ≠ 12 → j ≠ 13 → m1 60 j = μ 60 j) ∧ ∀ c, c ≠ 60 → c ≠ 61 → m1 c = μ c := by
        intro kk h1 h2
        refine ⟨false, 0, 0, 0, yFt kk (q + 1), fun h => (by cases h), fun F μ hF hT h36 h37 => ?_, fun F μ hF hT hr => ?_⟩
        · refine ⟨zUp (zUp (zUp μ 38 n (nI 62)) 1 2 (nI (q + 1))) 1 3 (yFt kk (q + 1)), ?_, fun h => (by cases h), fun _ => zUp_s _ _ _ _, fun i hi => ⟨by rw [zUp_ne (by decide), zUp_ne (by decide), zUp_o hi], by rw [zUp_ne (by decide), zUp_ne (by decide), zUp_ne (by decide)]⟩, fun c h1 h2 h3 => by rw [zUp_ne h1, zUp_ne h1, zUp_ne h2]⟩
          rw [cW F μ hT h36, h1 F μ hT h36 h37, zBd_s, zGb0]
          rfl
        · refine ⟨zUp μ 60 12 (yFt kk (q + 1)), ?_, fun h => (by cases h), fun _ => zUp_s _ _ _ _, fun j h1 h2 h3 => zUp_o h2, fun c h1 h2 => zUp_ne h1⟩
          rw [mW F μ, h2 F μ hT hr, zBd_s, zGb0]
          rfl
      have e36 : ∀ μ : zMem, zUp (zUp μ 38 n (nI 62)) 1 2 (nI (q + 1)) 36 = μ 36 := fun μ => by rw [zUp_ne (by decide), zUp_ne (by decide)]
      have e37 : ∀ μ : zMem, zUp (zUp μ 38 n (nI 62)) 1 2 (nI (q + 1)) 37 = μ 37 := fun μ => by rw [zUp_ne (by decide), zUp_ne (by decide)]
      cases hl : yIs N b (q + 1) 97 112 with
      | false =>
        refine flt 1 (fun F μ hT h36 h37 => ?_) (fun F μ hT hr => ?_)
        · unfold fX4_readsOther
          rw [e_sign (hTB1 μ hT) (by omega) (by omega), zBd_s, e_isPerson, zBd_s, hs97, hl, z_bf, e_fails (hTB1 μ hT), zBd_s, zGb0]
        · unfold fX12_readsOther
          rw [e_mIsLetter hT (by omega) (by omega) (hb _), zBd_s, hl, z_bf, hT.2.1, e_wrongAt, zBd_s, zGb0]
      | true =>
        obtain ⟨hp1, hlo, hhi⟩ := yIs_t hl
        have hS1 : ySg N b (q + 1) - nI 97 = nI (b (q + 1) - 97) := by rw [ySg_in hp1, pk_sub hlo]
        obtain ⟨o, ho⟩ : ∃ o, o = b (q + 1) - 97 := ⟨_, rfl⟩
        rw [← ho] at hS1
        have ho16 : o < 16 := by omega
        by_cases how : o = w
        · refine flt 6 (fun F μ hT h36 h37 => ?_) (fun F μ hT hr => ?_)
          · unfold fX4_readsOther
            rw [e_sign (hTB1 μ hT) (by omega) (by omega), zBd_s, e_isPerson, zBd_s, hs97, hl, z_bt, e36, h36, zG_in rfl hn (by decide), cl9 (by omega), e37, h37, hS1, if_pos (by rw [how]), e_fails (hTB1 μ hT), zBd_s, zGb0]
          · unfold fX12_readsOther
            rw [e_mIsLetter hT (by omega) (by omega) (hb _), zBd_s, hl, z_bt, e_here hT (by omega) (by omega), zBd_s, hS1, if_pos (by rw [how]), hT.2.1, e_wrongAt, zBd_s, zGb0]
        · have now : ¬ nI o = nI w := fun z => how ((nI_eq (by omega) (by omega)).mp z)
          cases hto : (pT s).testBit o with
          | false =>
            refine flt 7 (fun F μ hT h36 h37 => ?_) (fun F μ hT hr => ?_)
            · unfold fX4_readsOther
              rw [e_sign (hTB1 μ hT) (by omega) (by omega), zBd_s, e_isPerson, zBd_s, hs97, hl, z_bt, e36, h36, zG_in rfl hn (by decide), cl9 (by omega), e37, h37, hS1, if_neg now, e_hasBit (by omega) (by omega), zBd_s, hto, z_bf, e_fails (hTB1 μ hT), zBd_s, zGb0]
            · unfold fX12_readsOther
              rw [e_mIsLetter hT (by omega) (by omega) (hb _), zBd_s, hl, z_bt, e_here hT (by omega) (by omega), zBd_s, hS1, if_neg now, e_mTold hr, zBd_s, zTold_n ho16, hto, z_bf, hT.2.1, e_wrongAt, zBd_s, zGb0]
          | true =>
            refine ⟨true, q + 2, 62, o, 0, fun _ => ⟨by omega, by omega, hw16, htw, Or.inr (Or.inr (Or.inr (Or.inr ⟨rfl, ho16, hto⟩)))⟩, fun F μ hF hT h36 h37 => ?_, fun F μ hF hT hr => ?_⟩
            · refine ⟨zUp (zUp (zUp (zUp μ 38 n (nI 62)) 1 2 (nI (q + 1))) 1 2 (nI (q + 2))) 39 n (nI o), ?_, fun _ => ⟨hT.to (by rw [zUp_ne (by decide), zUp_o (by decide), zUp_o (by decide), zUp_ne (by decide)]) (by rw [zUp_ne (by decide), zUp_s]) (by rw [zUp_ne (by decide), zUp_ne (by decide), zUp_ne (by decide), zUp_ne (by decide)]), by rw [zUp_ne (by decide), zUp_ne (by decide), zUp_ne (by decide), zUp_s], fun _ _ => zUp_s _ _ _ _⟩, fun h => (by cases h), fun i hi => ⟨by rw [zUp_ne (by decide), zUp_ne (by decide), zUp_ne (by decide), zUp_o hi], by rw [zUp_o hi, zUp_ne (by decide), zUp_ne (by decide), zUp_ne (by decide)]⟩, fun c h1 h2 h3 => by rw [zUp_ne h3, zUp_ne h1, zUp_ne h1, zUp_ne h2]⟩
              rw [cW F μ hT h36]
              unfold fX4_readsOther
              rw [e_sign (hTB1 μ hT) (by omega) (by omega), zBd_s, e_isPerson, zBd_s, hs97, hl, z_bt, e36, h36, zG_in rfl hn (by decide), cl9 (by omega), e37, h37, hS1, if_neg now, e_hasBit (by omega) (by omega), zBd_s, hto, z_bt, zUp_s, nI_add]
              dsimp only [zLt]
              rw [zUp_ne (show (36 : Nat) ≠ 1 by decide), e36, h36, zG_in rfl hn (by decide), cl9 (by omega), zBd_s, zGb1]
              rfl
            · have hr1 : zRepN 61 s (zUp μ 60 10 (nI (q + 2))) := hr.of (zUp_ne (by decide))
              refine ⟨zUp (zUp μ 60 10 (nI (q + 2))) 61 (16 + o) (nI (pK s o ||| pK s w)), ?_, fun _ => ⟨hT.to (by rw [zUp_ne (by decide), zUp_o (by decide)]) (by rw [zUp_ne (by decide), zUp_s]) (by rw [zUp_ne (by decide), zUp_ne (by decide)]), hr1.k ho16 _⟩, fun h => (by cases h), fun j h1 h2 h3 => by rw [zUp_ne (by decide), zUp_o h1], fun c h1 h2 => by rw [zUp_ne h2, zUp_ne h1]⟩
              rw [mW F μ]
              unfold fX12_readsOther
              rw [e_mIsLetter hT (by omega) (by omega) (hb _), zBd_s, hl, z_bt, e_here hT (by omega) (by omega), zBd_s, hS1, if_neg now, e_mTold hr, zBd_s, zTold_n ho16, hto, z_bt, hT.2.1, nI_add]
              dsimp only [zLt]
              rw [nI_add, nI_add, zG_in rfl (by omega) (by decide), zG_in rfl (by omega) (by decide), zG_in rfl (by omega) (by decide), cl9 (by omega), cl9 (by omega), zUp_ne (show (61 : Nat) ≠ 60 by decide), hr.2.1 o ho16, hr.2.1 w hw16, fa_or, zBd_s, zGb1]
              rfl
    · refine bad (fun c hc => ?_)
      rw [hS]
      exact ne c (by omega) (by omega)
  · refine bad (fun c hc z => ?_)
    have := (ySg_eq (hb q) (show c < 256 by omega)).mp z
    exact hin this.1
