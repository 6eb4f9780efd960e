/-! ===== space ===== -/
def zAdd (b : Nat → Nat) (s o m k a : Nat) : Nat := zFold (fun i a => if s.testBit i then a + b (2 * i + o) else a) m k a
theorem zAdd_le {b : Nat → Nat} (hb : ∀ j, b j < 256) (s o : Nat) : ∀ m k a, zAdd b s o m k a ≤ a + 256 * m
  | 0, _, a => by show a ≤ _; omega
  | m + 1, k, a => by
    have h1 := hb (2 * k + o)
    show zAdd b s o m (k + 1) (if s.testBit k then a + b (2 * k + o) else a) ≤ _
    cases s.testBit k
    · have := zAdd_le hb s o m (k + 1) a
      rw [if_neg (by decide)]; omega
    · have := zAdd_le hb s o m (k + 1) (a + b (2 * k + o))
      rw [if_pos rfl]; omega
theorem e_added {F n s o : Nat} {b : Nat → Nat} {m : zMem} (hF : 12 ≤ F) (hn : n ≤ 10) (h : zTB (2 * n) b m) (hs : s < 2 ^ 31) (ho : o ≤ 1) : fX3_added F (nI n) (nI s) (nI o) m = some (nI (zAdd b s o n 0 0), m) := by
  have key : ∀ j k a f, k + j = n → j < f → fX3_added_6 F f (nI n) (nI s) (nI o) (nI a) (nI k) m = some (nI (zAdd b s o j k a), m) := by
    intro j
    induction j with
    | zero =>
      intro k a f hk hf
      obtain ⟨f, rfl⟩ := z_s hf
      rw [fX3_added_6, z_done (by omega) (by omega)]
      rfl
    | succ j ih =>
      intro k a f hk hf
      obtain ⟨f, rfl⟩ := z_s hf
      rw [fX3_added_6, z_more (by omega) (by omega), e_hasBit hs (by omega), zBd_s, pk_mul, nI_add, nI_add, e_bA h (by omega), zBd_s, nI_add]
      show _ = some (nI (zAdd b s o j (k + 1) (if s.testBit k then a + b (2 * k + o) else a)), m)
      cases s.testBit k
      · rw [z_bf]
        exact ih (k + 1) _ f (by omega) (by omega)
      · rw [z_bt]
        exact ih (k + 1) _ f (by omega) (by omega)
  exact key n 0 0 F (by omega) (by omega)
def zBst (b : Nat → Nat) (n h : Nat) (m k p : Nat) : Nat := zFold (fun s p => if zAdd b s 1 n 0 0 ≤ zAdd b p 1 n 0 0 then p else if h < zAdd b s 0 n 0 0 then p else s) m k p
theorem zBst_lt (b : Nat → Nat) (n h : Nat) : ∀ m k p N, k + m ≤ N → p < N → zBst b n h m k p < N
  | 0, _, _, _, _, hp => hp
  | m + 1, k, p, N, h1, h2 => zBst_lt b n h m (k + 1) _ N (by omega) (by dsimp only; split; exact h2; split; exact h2; omega)
theorem zAdd_0 (b : Nat → Nat) (o : Nat) : ∀ m k a, zAdd b 0 o m k a = a
  | 0, _, _ => rfl
  | m + 1, k, a => by
    show zAdd b 0 o m (k + 1) (if (0 : Nat).testBit k then a + b (2 * k + o) else a) = a
    rw [Nat.zero_testBit, if_neg (by decide)]
    exact zAdd_0 b o m (k + 1) a
def zOkN (b : Nat → Nat) (k : Nat) : Bool := decide (1 ≤ b (2 * k)) && decide (b (2 * k) ≤ 60)
def zAllN (b : Nat → Nat) : Nat → Nat → Bool
  | 0, _ => true
  | m + 1, k => zOkN b k && zAllN b m (k + 1)
theorem nI_m3 {k : Nat} (h : k < 2 ^ 31) : nI k ≠ -3 := by
  intro e
  have := nI_pos' h
  rw [e] at this
  exact absurd this (by decide)
theorem pw_le {n : Nat} (h : n ≤ 10) : 2 ^ n ≤ 1024 := Nat.pow_le_pow_right (n := 2) (by decide) h
theorem pr_space {F : Nat} (hF : 1100 ≤ F) (x y w : Int32) : zPair (fX11_space F x y w) (fX12_space F x y w) := by
  refine zPair.mk fun A μ hW hC => ?_
  cases hz : zIn x 1 10
  · refine ⟨-1, A, μ, ?_, hW, hC, fun _ _ => rfl, fun μ' hM => ⟨μ', ?_, hM, fun _ _ => rfl⟩⟩
    · unfold fX11_space
      rw [e_isWithin, zBd_s, hz, z_bf]
    · unfold fX12_space
      rw [e_in, zBd_s, hz, z_bf]
  · cases hz2 : zIn y 0 255
    · refine ⟨-1, A, μ, ?_, hW, hC, fun _ _ => rfl, fun μ' hM => ⟨μ', ?_, hM, fun _ _ => rfl⟩⟩
      · unfold fX11_space
        rw [e_isWithin, zBd_s, hz, z_bt, e_isWithin, zBd_s, hz2, z_bf]
      · unfold fX12_space
        rw [e_in, zBd_s, hz, z_bt, e_in, zBd_s, hz2, z_bf]
    · cases hz3 : zIn w 0 1
      · refine ⟨-1, A, μ, ?_, hW, hC, fun _ _ => rfl, fun μ' hM => ⟨μ', ?_, hM, fun _ _ => rfl⟩⟩
        · unfold fX11_space
          rw [e_isWithin, zBd_s, hz, z_bt, e_isWithin, zBd_s, hz2, z_bt, e_isWithin, zBd_s, hz3, z_bf]
        · unfold fX12_space
          rw [e_in, zBd_s, hz, z_bt, e_in, zBd_s, hz2, z_bt, e_in, zBd_s, hz3, z_bf]
      · obtain ⟨n, hn1, hn2, rfl⟩ := zIn_t (by decide) (by decide) hz
        obtain ⟨h, -, hh, rfl⟩ := zIn_t (by decide) (by decide) hz2
        obtain ⟨w0, -, hw0, rfl⟩ := zIn_t (by decide) (by decide) hz3
        have hb := hW.1.2
        have hp := pw_le hn2
        by_cases ht : 2 * n ≤ aT A
        · have hT := zOp_TB hW hC ht
          have k40 : ∀ j k p f, k + j = 2 ^ n → p < 2 ^ n → j < f → fX3_noticesThatPayMost_40 F f (nI n) (nI h) (nI p) (nI (zAdd (aB A) p 1 n 0 0)) (nI k) (zOp μ (2 * n)) = some (nI (zBst (aB A) n h j k p), zOp μ (2 * n)) := by
            intro j
            induction j with
            | zero =>
              intro k p f hk hp hf
              obtain ⟨f, rfl⟩ := z_s hf
              rw [fX3_noticesThatPayMost_40, zq_1shl (by omega), z_done (by omega) (by omega)]
              rfl
            | succ j ih =>
              intro k p f hk hp hf
              obtain ⟨f, rfl⟩ := z_s hf
              have d1 := zAdd_le hb k 1 n 0 0
              have d2 := zAdd_le hb p 1 n 0 0
              have d3 := zAdd_le hb k 0 n 0 0
              rw [fX3_noticesThatPayMost_40, zq_1shl (by omega), z_more (by omega) (by omega)]
              unfold fX3_paidFor
              rw [e_added (by omega) hn2 hT (by omega) (by omega), zBd_s, zBd_s, e_added (by omega) hn2 hT (by omega) (by omega), zBd_s, nI_add]
              show _ = some (nI (zBst (aB A) n h j (k + 1) (if zAdd (aB A) k 1 n 0 0 ≤ zAdd (aB A) p 1 n 0 0 then p else if h < zAdd (aB A) k 0 n 0 0 then p else k)), _)
              by_cases g1 : zAdd (aB A) k 1 n 0 0 ≤ zAdd (aB A) p 1 n 0 0
              · rw [if_pos ((nI_leI (by omega) (by omega)).mpr g1), if_pos g1]
                exact ih (k + 1) _ f (by omega) hp (by omega)
              · rw [if_neg (fun z => g1 ((nI_leI (by omega) (by omega)).mp z)), if_neg g1]
                by_cases g2 : h < zAdd (aB A) k 0 n 0 0
                · rw [if_pos ((nI_ltI (by omega) (by omega)).mpr g2), if_pos g2]
                  exact ih (k + 1) _ f (by omega) hp (by omega)
                · rw [if_neg (fun z => g2 ((nI_ltI (by omega) (by omega)).mp z)), if_neg g2]
                  exact ih (k + 1) _ f (by omega) (by omega) (by omega)
          have k2 : ∀ j k f, k + j = n → j < f → fX3_noticesThatPayMost_2 F f (nI n) (nI h) (nI k) (zOp μ (2 * n)) = some (if zAllN (aB A) j k = true then nI (zBst (aB A) n h (2 ^ n - 1) 1 0) else -3, zOp μ (2 * n)) := by
            intro j
            induction j with
            | zero =>
              intro k f hk hf
              obtain ⟨f, rfl⟩ := z_s hf
              have := Nat.one_le_two_pow (n := n)
              have e0 := k40 (2 ^ n - 1) 1 0 F (by omega) (by omega) (by omega)
              rw [zAdd_0] at e0
              rw [fX3_noticesThatPayMost_2, z_done (by omega) (by omega), e0]
              rfl
            | succ j ih =>
              intro k f hk hf
              obtain ⟨f, rfl⟩ := z_s hf
              have h1 := hb (2 * k)
              rw [fX3_noticesThatPayMost_2, z_more (by omega) (by omega), pk_mul, e_bA hT (by omega), zBd_s, e_isWithin, zBd_s, zIn_nI (by omega) (by decide) (by decide), nI_add]
              show (if zB (zOkN (aB A) k) = 0 then _ else _) = some (if (zOkN (aB A) k && zAllN (aB A) j (k + 1)) = true then _ else _, _)
              cases hok : zOkN (aB A) k
              · rw [z_bf, Bool.false_and, if_neg (by decide)]
              · rw [z_bt, Bool.true_and]
                exact ih (k + 1) f (by omega) (by omega)
          have hlt : zBst (aB A) n h (2 ^ n - 1) 1 0 < 2 ^ n := zBst_lt _ _ _ _ _ _ (2 ^ n) (by have := Nat.one_le_two_pow (n := n); omega) (by have := Nat.one_le_two_pow (n := n); omega)
          refine ⟨if zAllN (aB A) n 0 = true then (if w0 = 0 then nI (zAdd (aB A) (zBst (aB A) n h (2 ^ n - 1) 1 0) 1 n 0 0) else nI (zBst (aB A) n h (2 ^ n - 1) 1 0)) else -3, aST A 0 (aB A), zUp (zOp μ (2 * n)) 1 1 (nI 0), ?_, hW.tape (by omega) hb, rc_desk hC (fun _ _ => rfl), fun c hc => by rw [zUp_ne (by omega), zOp_ne (by omega)], fun μ' hM => ?_⟩
          · unfold fX11_space fX11_space_68 fX3_noticesThatPayMost
            rw [e_isWithin, zBd_s, hz, z_bt, e_isWithin, zBd_s, hz2, z_bt, e_isWithin, zBd_s, hz3, z_bt, pk_mul, e_opens_t hC.1.1 hW.1.1 ht, zBd_s, z_bt, k2 n 0 F (by omega) (by omega), zBd_s, e_empties, zBd_s]
            cases hall : zAllN (aB A) n 0
            · rw [if_neg (show ¬ false = true by decide), if_neg (show ¬ false = true by decide)]
              by_cases g : nI w0 = nI 1
              · rw [if_pos g]
              · rw [if_neg g, if_pos rfl]
            · rw [if_pos rfl, if_pos rfl]
              have : w0 = 0 ∨ w0 = 1 := by omega
              rcases this with rfl | rfl
              · rw [if_neg (by decide), if_neg (nI_m3 (by omega)), if_pos rfl]
                unfold fX3_paidFor
                rw [e_added (by omega) hn2 hT (by omega) (by omega), zBd_s, zBd_s, e_empties, zBd_s]
              · rw [if_pos rfl, if_neg (by decide)]
          · have hO := zUp_TO hW hM ht
            have m108 : ∀ (K : Int32 → Int32 → Int32 → Int32 → Int32 → Int32 → zMem → Option zR) (v3 v4 v5 : Int32) (s : Nat), s < 2 ^ n → ∀ j k a c f, k + j = n → j < f → fX12_space_108 F K f (nI n) (nI h) v3 v4 v5 (nI s) (nI a) (nI c) (nI k) (zUp μ' 60 9 (nI 0)) = if nI h < nI (zAdd (aB A) s 0 j k a) then K (nI n) (nI h) v3 v4 v5 (nI (s + 1)) (zUp μ' 60 9 (nI 0)) else if v5 < nI (zAdd (aB A) s 1 j k c) then K (nI n) (nI h) v3 (nI s) (nI (zAdd (aB A) s 1 j k c)) (nI (s + 1)) (zUp μ' 60 9 (nI 0)) else K (nI n) (nI h) v3 v4 v5 (nI (s + 1)) (zUp μ' 60 9 (nI 0)) := by
              intro K v3 v4 v5 s hs j
              induction j with
              | zero =>
                intro k a c f hk hf
                obtain ⟨f, rfl⟩ := z_s hf
                rw [fX12_space_108, z_done (by omega) (by omega), nI_add]
                rfl
              | succ j ih =>
                intro k a c f hk hf
                obtain ⟨f, rfl⟩ := z_s hf
                rw [fX12_space_108, z_more (by omega) (by omega), e_has (by omega) (by omega), zBd_s, pk_mul, nI_add, nI_add, e_oc hO (by omega), zBd_s, e_oc hO (by omega), zBd_s, nI_add, nI_add]
                have e0 : ∀ o a, zAdd (aB A) s o (j + 1) k a = zAdd (aB A) s o j (k + 1) (if s.testBit k then a + aB A (2 * k + o) else a) := fun _ _ => rfl
                rw [e0, e0]
                cases s.testBit k
                · rw [z_bf]
                  exact ih (k + 1) _ _ f (by omega) (by omega)
                · rw [z_bt]
                  exact ih (k + 1) _ _ f (by omega) (by omega)
            have m91 : ∀ j k p f, k + j = 2 ^ n → p < 2 ^ n → j < f → fX12_space_91 F f (nI n) (nI h) (nI w0) (nI p) (nI (zAdd (aB A) p 1 n 0 0)) (nI k) (zUp μ' 60 9 (nI 0)) = some (if w0 = 0 then nI (zAdd (aB A) (zBst (aB A) n h j k p) 1 n 0 0) else nI (zBst (aB A) n h j k p), zUp μ' 60 9 (nI 0)) := by
              intro j
              induction j with
              | zero =>
                intro k p f hk hp hf
                obtain ⟨f, rfl⟩ := z_s hf
                rw [fX12_space_91, zq_1shl (by omega), z_done (by omega) (by omega)]
                by_cases g : w0 = 0
                · rw [if_pos ((nI_z (by omega)).mpr g), if_pos g]; rfl
                · rw [if_neg (fun z => g ((nI_z (by omega)).mp z)), if_neg g]; rfl
              | succ j ih =>
                intro k p f hk hp hf
                obtain ⟨f, rfl⟩ := z_s hf
                have d1 := zAdd_le hb k 1 n 0 0
                have d2 := zAdd_le hb p 1 n 0 0
                have d3 := zAdd_le hb k 0 n 0 0
                rw [fX12_space_91, zq_1shl (by omega), z_more (by omega) (by omega), m108 _ _ _ _ k (by omega) n 0 0 0 F (by omega) (by omega)]
                have e0 : zBst (aB A) n h (j + 1) k p = zBst (aB A) n h j (k + 1) (if zAdd (aB A) k 1 n 0 0 ≤ zAdd (aB A) p 1 n 0 0 then p else if h < zAdd (aB A) k 0 n 0 0 then p else k) := rfl
                rw [e0]
                by_cases g2 : h < zAdd (aB A) k 0 n 0 0
                · rw [if_pos ((nI_ltI (by omega) (by omega)).mpr g2), if_pos g2]
                  have : (if zAdd (aB A) k 1 n 0 0 ≤ zAdd (aB A) p 1 n 0 0 then p else p) = p := by split <;> rfl
                  rw [this]
                  exact ih (k + 1) _ f (by omega) hp (by omega)
                · rw [if_neg (fun z => g2 ((nI_ltI (by omega) (by omega)).mp z)), if_neg g2]
                  by_cases g1 : zAdd (aB A) k 1 n 0 0 ≤ zAdd (aB A) p 1 n 0 0
                  · rw [if_neg (fun z => by have := (nI_ltI (by omega) (by omega)).mp z; omega), if_pos g1]
                    exact ih (k + 1) _ f (by omega) hp (by omega)
                  · rw [if_pos ((nI_ltI (by omega) (by omega)).mpr (by omega)), if_neg g1]
                    exact ih (k + 1) _ f (by omega) (by omega) (by omega)
            have m50 : ∀ j k f, k + j = n → j < f → fX12_space_50 F f (nI n) (nI h) (nI w0) (nI k) (zUp μ' 60 9 (nI 0)) = some (if zAllN (aB A) j k = true then (if w0 = 0 then nI (zAdd (aB A) (zBst (aB A) n h (2 ^ n - 1) 1 0) 1 n 0 0) else nI (zBst (aB A) n h (2 ^ n - 1) 1 0)) else -3, zUp μ' 60 9 (nI 0)) := by
              intro j
              induction j with
              | zero =>
                intro k f hk hf
                obtain ⟨f, rfl⟩ := z_s hf
                have hp1 := Nat.one_le_two_pow (n := n)
                have e0 := m91 (2 ^ n) 0 0 F (by omega) (by omega) (by omega)
                rw [zAdd_0] at e0
                rw [fX12_space_50, z_done (by omega) (by omega), e0]
                have e1 : zBst (aB A) n h (2 ^ n) 0 0 = zBst (aB A) n h (2 ^ n - 1) 1 0 := by
                  obtain ⟨q, hq⟩ : ∃ q, 2 ^ n = q + 1 := ⟨2 ^ n - 1, by omega⟩
                  rw [hq]
                  show zBst (aB A) n h q (0 + 1) (if zAdd (aB A) 0 1 n 0 0 ≤ zAdd (aB A) 0 1 n 0 0 then 0 else _) = _
                  rw [if_pos (Nat.le_refl _)]
                  rfl
                rw [e1]
                rfl
              | succ j ih =>
                intro k f hk hf
                obtain ⟨f, rfl⟩ := z_s hf
                have h1 := hb (2 * k)
                rw [fX12_space_50, z_more (by omega) (by omega), pk_mul, e_oc hO (by omega), zBd_s, e_in, zBd_s, zIn_nI (by omega) (by decide) (by decide), nI_add]
                show (if zB (zOkN (aB A) k) = 0 then _ else _) = some (if (zOkN (aB A) k && zAllN (aB A) j (k + 1)) = true then _ else _, _)
                cases hok : zOkN (aB A) k
                · rw [z_bf, Bool.false_and, if_neg (by decide)]
                · rw [z_bt, Bool.true_and]
                  exact ih (k + 1) f (by omega) (by omega)
            refine ⟨zUp μ' 60 9 (nI 0), ?_, rm_desk hM (fun _ _ _ => rfl), fun c hc => zUp_ne (by omega)⟩
            unfold fX12_space
            rw [e_in, zBd_s, hz, z_bt, e_in, zBd_s, hz2, z_bt, e_in, zBd_s, hz3, z_bt, pk_mul, hM.1.1, if_pos ((nI_leI (by omega) (by have := hW.1.1; omega)).mpr ht)]
            exact m50 n 0 F (by omega) (by omega)
        · refine ⟨-1, A, μ, ?_, hW, hC, fun _ _ => rfl, fun μ' hM => ⟨μ', ?_, hM, fun _ _ => rfl⟩⟩
          · unfold fX11_space
            rw [e_isWithin, zBd_s, hz, z_bt, e_isWithin, zBd_s, hz2, z_bt, e_isWithin, zBd_s, hz3, z_bt, pk_mul, e_opens_f hC.1.1 hW.1.1 (by omega) (by omega), zBd_s, z_bf]
          · unfold fX12_space
            rw [e_in, zBd_s, hz, z_bt, e_in, zBd_s, hz2, z_bt, e_in, zBd_s, hz3, z_bt, pk_mul, hM.1.1, if_neg (fun z => ht ((nI_leI (by omega) (by have := hW.1.1; omega)).mp z))]
