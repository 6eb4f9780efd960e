/-! ===== the tape is read: check ===== -/
def aST (A : zAS) (t : Nat) (b : Nat → Nat) : zAS := (t, b, A.2.2.1, A.2.2.2.1, A.2.2.2.2.1, A.2.2.2.2.2)
theorem zWF.tape {A : zAS} {t : Nat} {b : Nat → Nat} (h : zWF A) (ht : t ≤ 260) (hb : ∀ j, b j < 256) : zWF (aST A t b) := ⟨⟨ht, hb⟩, h.2⟩
theorem zRepC.tape {A : zAS} {t : Nat} {b : Nat → Nat} {μ μ1 : zMem} (h : zRepC A μ) (ht : zTapeC t b μ1) (e : ∀ k, k < 60 → k ≠ 1 → k ≠ 2 → (k < 33 ∨ (39 < k ∧ k < 46)) → μ1 k = μ k) : zRepC (aST A t b) μ1 :=
  ⟨ht, h.2.1.of (fun k h1 h2 => e k (by omega) (by omega) (by omega) (by omega)), h.2.2.1.of (by rw [e 0 (by omega) (by omega) (by omega) (by omega)]) (fun k h1 h2 => e k (by omega) (by omega) (by omega) (by omega)), h.2.2.2.1.of (fun k h1 h2 => e k (by omega) (by omega) (by omega) (by omega)), h.2.2.2.2.of (by rw [e 0 (by omega) (by omega) (by omega) (by omega)]) (by rw [e 0 (by omega) (by omega) (by omega) (by omega)]) (fun k h1 h2 => e k (by omega) (by omega) (by omega) (by omega))⟩
/-- the reference's cells that hold no state -/
theorem zRepM.tape {A : zAS} {t : Nat} {b : Nat → Nat} {μ μ1 : zMem} (h : zRepM A μ) (ht : zTapeM t b μ1) (e60 : ∀ j, (j = 7 ∨ j = 18 ∨ j = 45) → μ1 60 j = μ 60 j) (e : ∀ k, (k = 61 ∨ k = 63 ∨ k = 64 ∨ k = 65 ∨ (75 ≤ k ∧ k ≤ 79)) → μ1 k = μ k) : zRepM (aST A t b) μ1 :=
  ⟨ht, h.2.1.of (e 61 (by omega)), h.2.2.1.of (e60 45 (by omega)) (e 63 (by omega)), h.2.2.2.1.of (e60 18 (by omega)) (fun k h1 h2 => e k (by omega)), h.2.2.2.2.of (e60 7 (by omega)) (e 64 (by omega)) (e 65 (by omega))⟩
/-- the tape cut to its first n bytes -/
def zOp (μ : zMem) (n : Nat) : zMem := zUp (zUp (zUp μ 1 1 (nI n)) 1 2 (nI 0)) 1 3 (nI 0)
theorem zOp_ne {μ : zMem} {n c : Nat} (h : c ≠ 1) : zOp μ n c = μ c := by unfold zOp; rw [zUp_ne h, zUp_ne h, zUp_ne h]
theorem zOp_1 (μ : zMem) (n : Nat) : zOp μ n 1 1 = nI n := by unfold zOp; rw [zUp_o (by decide), zUp_o (by decide), zUp_s]
theorem e_opens_t {F n t : Nat} {μ : zMem} (ht : μ 1 1 = nI t) (h260 : t ≤ 260) (hn : n ≤ t) : fX9_opens F (nI n) μ = some (zB true, zOp μ n) := by
  unfold fX9_opens
  rw [ht, e_isWithin, zBd_s, zIn_nI (by omega) (by omega) (by decide), decide_eq_true (show n ≤ t from hn), decide_eq_true (Nat.zero_le n), if_neg (by decide)]
  rfl
theorem e_opens_f {F n t : Nat} {μ : zMem} (ht : μ 1 1 = nI t) (h260 : t ≤ 260) (hn : t < n) (hn2 : n < 2 ^ 31) : fX9_opens F (nI n) μ = some (zB false, μ) := by
  unfold fX9_opens
  rw [ht, e_isWithin, zBd_s, zIn_nI hn2 (by omega) (by decide), decide_eq_false (show ¬ n ≤ t by omega), Bool.and_false, if_pos (by decide)]
  rfl
theorem e_empties {F : Nat} {μ : zMem} : fX9_empties F μ = some (nI 0, zUp μ 1 1 (nI 0)) := rfl
theorem e_byteAt {F n i : Nat} {μ : zMem} (ht : μ 1 1 = nI n) (hn : n ≤ 260) (hi : i < n) : fX9_byteAt F (nI i) μ = some (μ 2 i, μ) := by
  unfold fX9_byteAt
  rw [if_neg (nI_nlt0 (by omega)), ht, z_more hi (by omega), zG_in rfl (by omega) (by decide), nI_clamp (by omega)]
theorem e_octet {F i : Nat} {μ : zMem} (hi : i < 260) : fX12_octet F (nI i) μ = some (μ 68 i &&& nI 255, μ) := by
  unfold fX12_octet
  rw [zG_in rfl hi (by decide), nI_clamp (by omega)]
/-- the first number from k on, of m, of which something is not so -/
def zChk (ok : Nat → Bool) : Nat → Nat → Int32
  | 0, _ => -1
  | m + 1, k => if ok k then zChk ok m (k + 1) else nI k
def zDue (s : zPS) (p : Nat) : Nat := if (pT s).testBit p then zPop (pK s p) else 255
theorem zDue_le (s : zPS) (p : Nat) : zDue s p ≤ 255 := by
  unfold zDue
  split
  · have := zPop_le (pK s p); omega
  · omega
theorem nI_m1 {k : Nat} (h : k < 2 ^ 31) : nI k ≠ -1 := by
  intro e
  have := nI_pos' h
  rw [e] at this
  exact absurd this (by decide)
theorem pr_check {F : Nat} (hF : 20 ≤ F) (x : Int32) : zPair (fX11_check F x) (fX12_check F x) := by
  refine zPair.mk fun A μ hW hC => ?_
  cases hz : zIn x 0 16
  · refine ⟨-2, A, μ, ?_, hW, hC, fun _ _ => rfl, fun μ' hM => ⟨μ', ?_, hM, fun _ _ => rfl⟩⟩
    · unfold fX11_check
      rw [e_isWithin, zBd_s, hz, z_bf]
    · unfold fX12_check
      rw [e_in, zBd_s, hz, z_bf]
  · obtain ⟨n, -, hn, rfl⟩ := zIn_t (by decide) (by decide) hz
    by_cases ht : n ≤ aT A
    · have key : ∀ m k f, k + m = n → m < f → fX11_check_28 F f (nI n) (-1) (nI k) (zOp μ n) = some (zChk (fun p => aB A p == zDue (aN A) p) m k, zUp (zOp μ n) 1 1 (nI 0)) := by
        have hS : zRepS 3 (aN A) (zOp μ n) := hC.2.1.of (fun c h1 h2 => zOp_ne (by omega))
        intro m
        induction m with
        | zero =>
          intro k f hk hf
          obtain ⟨f, rfl⟩ := z_s hf
          rw [fX11_check_28, z_done (by omega) (by omega), e_empties, zBd_s]
          rfl
        | succ m ih =>
          intro k f hk hf
          obtain ⟨f, rfl⟩ := z_s hf
          have hK := hW.2.1.2.2.2.1 k (by omega)
          have hb := hW.1.2 k
          have hdue := zDue_le (aN A) k
          have e67 : ∀ d, d ≤ 255 → fX11_check_67 F (fX11_check_28 F f) (nI n) (-1) (nI k) (nI d) (zOp μ n) = if aB A k = d then fX11_check_28 F f (nI n) (-1) (nI (k + 1)) (zOp μ n) else fX11_check_28 F f (nI n) (nI k) (nI (k + 1)) (zOp μ n) := by
            intro d hd
            unfold fX11_check_67
            rw [e_byteAt (zOp_1 μ n) (by omega) (by omega), zBd_s, zOp_ne (by decide), hC.1.2 k (by omega), nI_add]
            by_cases hbd : aB A k = d
            · rw [if_pos (by rw [hbd]), if_pos hbd]
            · rw [if_neg (fun z => hbd ((nI_eq (by omega) (by omega)).mp z)), if_neg hbd]
          rw [fX11_check_28, z_more (by omega) (by omega), if_pos rfl, e_isTold hS hW.2.1, zBd_s, zTold_n (by omega)]
          have e0 : (if zB ((pT (aN A)).testBit k) = 0 then fX11_check_67 F (fX11_check_28 F f) (nI n) (-1) (nI k) (nI 255) (zOp μ n) else zG (nI k) 16 (zBd (fJ6_bitCount_0f7a4 F (zOp μ n 4 (nI k).toNatClampNeg) (zOp μ n)) fun r7 m7 => fX11_check_67 F (fX11_check_28 F f) (nI n) (-1) (nI k) r7 m7)) = fX11_check_67 F (fX11_check_28 F f) (nI n) (-1) (nI k) (nI (zDue (aN A) k)) (zOp μ n) := by
            unfold zDue
            cases hb2 : (pT (aN A)).testBit k
            · rw [z_bf]; rfl
            · rw [z_bt, zG_in rfl (by omega) (by decide), nI_clamp (by omega), hS.2.2.2.2.1 k (by omega), e_bitCount hK, zBd_s]; rfl
          rw [e0, e67 _ hdue]
          show _ = some (if (aB A k == zDue (aN A) k) = true then zChk _ m (k + 1) else nI k, _)
          by_cases hbd : aB A k = zDue (aN A) k
          · rw [if_pos hbd, if_pos (beq_iff_eq.mpr hbd)]
            exact ih (k + 1) f (by omega) (by omega)
          · rw [if_neg hbd, if_neg (fun z => hbd (beq_iff_eq.mp z))]
            obtain ⟨f, rfl⟩ : ∃ g, f = g + 1 := z_s (m := 0) (by omega)
            rw [fX11_check_28]
            by_cases hl : n ≤ k + 1
            · rw [z_done hl (by omega), e_empties, zBd_s]
            · rw [z_more (by omega) (by omega), if_neg (nI_m1 (by omega)), e_empties, zBd_s]
      refine ⟨zChk (fun p => aB A p == zDue (aN A) p) n 0, aST A 0 (aB A), zUp (zOp μ n) 1 1 (nI 0), ?_, hW.tape (by omega) hW.1.2, ?_, fun c hc => by rw [zUp_ne (by omega), zOp_ne (by omega)], fun μ' hM => ?_⟩
      · unfold fX11_check
        rw [e_isWithin, zBd_s, hz, z_bt, e_opens_t hC.1.1 hW.1.1 ht, zBd_s, z_bt]
        exact key n 0 F (by omega) (by omega)
      · exact hC.tape ⟨by rw [zUp_s], fun j hj => by omega⟩ (fun k _ h1 _ _ => by rw [zUp_ne h1, zOp_ne h1])
      · have hN : zRepN 61 (aN A) (zUp μ' 60 9 (nI 0)) := hM.2.1.of (zUp_ne (by decide))
        have mkey : ∀ m k f, k + m = n → m < f → fX12_check_28 F f (nI n) (nI k) (zUp μ' 60 9 (nI 0)) = some (zChk (fun p => aB A p == zDue (aN A) p) m k, zUp μ' 60 9 (nI 0)) := by
          intro m
          induction m with
          | zero =>
            intro k f hk hf
            obtain ⟨f, rfl⟩ := z_s hf
            rw [fX12_check_28, z_done (by omega) (by omega)]
            rfl
          | succ m ih =>
            intro k f hk hf
            obtain ⟨f, rfl⟩ := z_s hf
            have hK := hW.2.1.2.2.2.1 k (by omega)
            have hb := hW.1.2 k
            have hp := zPop_le (pK (aN A) k)
            rw [fX12_check_28, z_more (by omega) (by omega), e_octet (by have := hW.1.1; omega), zBd_s, zUp_ne (by decide), hM.1.2 k (by omega), e_mTold hN, zBd_s, zTold_n (by omega), nI_add]
            show _ = some (if (aB A k == zDue (aN A) k) = true then zChk _ m (k + 1) else nI k, _)
            cases hb2 : (pT (aN A)).testBit k
            · have hd : zDue (aN A) k = 255 := by unfold zDue; rw [hb2]; rfl
              rw [z_bf, hd]
              by_cases hbd : aB A k = 255
              · rw [if_pos (by rw [hbd]), if_pos (beq_iff_eq.mpr hbd)]
                exact ih (k + 1) f (by omega) (by omega)
              · rw [if_neg (fun z => hbd ((nI_eq (by omega) (by decide)).mp z)), if_neg (fun z => hbd (beq_iff_eq.mp z))]
            · have hd : zDue (aN A) k = zPop (pK (aN A) k) := by unfold zDue; rw [hb2]; rfl
              rw [hd, z_bt, nI_add, zG_in rfl (by omega) (by decide), nI_clamp (by omega), hN.2.1 k (by omega), e_bits (by omega) (by omega), zBd_s]
              by_cases hbd : aB A k = zPop (pK (aN A) k)
              · rw [if_pos (by rw [hbd]), if_pos (beq_iff_eq.mpr hbd)]
                exact ih (k + 1) f (by omega) (by omega)
              · rw [if_neg (fun z => hbd ((nI_eq (by omega) (by omega)).mp z)), if_neg (fun z => hbd (beq_iff_eq.mp z))]
        refine ⟨zUp μ' 60 9 (nI 0), ?_, hM.tape ⟨by rw [zUp_s], fun j hj => by omega⟩ (fun j hj => zUp_o (by omega)) (fun k hk => zUp_ne (by omega)), fun c hc => zUp_ne (by omega)⟩
        unfold fX12_check
        rw [e_in, zBd_s, hz, z_bt, hM.1.1, if_pos ((nI_leI (by omega) (by have := hW.1.1; omega)).mpr ht)]
        exact mkey n 0 F (by omega) (by omega)
    · refine ⟨-2, A, μ, ?_, hW, hC, fun _ _ => rfl, fun μ' hM => ⟨μ', ?_, hM, fun _ _ => rfl⟩⟩
      · unfold fX11_check
        rw [e_isWithin, zBd_s, hz, z_bt, e_opens_f hC.1.1 hW.1.1 (by omega) (by omega), zBd_s, z_bf]
      · unfold fX12_check
        rw [e_in, zBd_s, hz, z_bt, hM.1.1, if_neg (fun z => ht ((nI_leI (by omega) (by have := hW.1.1; omega)).mp z))]
