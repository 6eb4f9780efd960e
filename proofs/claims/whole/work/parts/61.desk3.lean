/-! ===== hands ===== -/
/-- when each has the paper -/
def zDays (b : Nat → Nat) (i : Nat) : Nat := if h : b (2 * i) < i then zDays b (b (2 * i)) + b (2 * i + 1) else 0
termination_by i
theorem zDays_0 (b : Nat → Nat) : zDays b 0 = 0 := by rw [zDays, dif_neg (by omega)]
theorem zDays_s {b : Nat → Nat} {i : Nat} (h : b (2 * i) < i) : zDays b i = zDays b (b (2 * i)) + b (2 * i + 1) := by rw [zDays, dif_pos h]
theorem zDays_le {b : Nat → Nat} (hb : ∀ j, b j < 256) : ∀ i, zDays b i ≤ 256 * i := by
  intro i
  induction i using Nat.strongRecOn with
  | ind i ih =>
    rw [zDays]
    by_cases h : b (2 * i) < i
    · rw [dif_pos h]
      have h1 := ih (b (2 * i)) h
      have h2 := hb (2 * i + 1)
      omega
    · rw [dif_neg h]; omega
def zFit (b : Nat → Nat) (k : Nat) : Bool := decide (b (2 * k) < k) && decide (b (2 * k + 1) ≤ 15)
/-- who has it last from k on, of m, or that one can't get it so -/
def zLast (b : Nat → Nat) : Nat → Nat → Nat → Int32
  | 0, _, p => nI p
  | m + 1, k, p => if zFit b k = true then zLast b m (k + 1) (if zDays b k ≤ zDays b p then p else k) else -2
def zLastN (b : Nat → Nat) : Nat → Nat → Nat → Nat
  | 0, _, p => p
  | m + 1, k, p => zLastN b m (k + 1) (if zDays b k ≤ zDays b p then p else k)
def zAllFit (b : Nat → Nat) : Nat → Nat → Bool
  | 0, _ => true
  | m + 1, k => zFit b k && zAllFit b m (k + 1)
theorem zLast_eq (b : Nat → Nat) : ∀ m k p, zLast b m k p = if zAllFit b m k = true then nI (zLastN b m k p) else -2
  | 0, k, p => rfl
  | m + 1, k, p => by
    show (if zFit b k = true then zLast b m (k + 1) _ else -2) = if (zFit b k && zAllFit b m (k + 1)) = true then nI (zLastN b m (k + 1) _) else -2
    cases hz : zFit b k
    · rw [if_neg (by decide), Bool.false_and, if_neg (by decide)]
    · rw [if_pos rfl, zLast_eq b m (k + 1), Bool.true_and]
theorem zLastN_lt (b : Nat → Nat) : ∀ m k p N, k + m ≤ N → p < N → zLastN b m k p < N
  | 0, _, _, _, _, h => h
  | m + 1, k, p, N, h1, h2 => zLastN_lt b m (k + 1) _ N (by omega) (by split <;> omega)
theorem pr_hands {F : Nat} (hF : 20 ≤ F) (x w : Int32) : zPair (fX11_hands F x w) (fX12_hands F x w) := by
  refine zPair.mk fun A μ hW hC => ?_
  cases hz : zIn x 2 16
  · refine ⟨-1, A, μ, ?_, hW, hC, fun _ _ => rfl, fun μ' hM => ⟨μ', ?_, hM, fun _ _ => rfl⟩⟩
    · unfold fX11_hands
      rw [e_isWithin, zBd_s, hz, z_bf]
    · unfold fX12_hands
      rw [e_in, zBd_s, hz, z_bf]
  · cases hz2 : zIn w 0 1
    · refine ⟨-1, A, μ, ?_, hW, hC, fun _ _ => rfl, fun μ' hM => ⟨μ', ?_, hM, fun _ _ => rfl⟩⟩
      · unfold fX11_hands
        rw [e_isWithin, zBd_s, hz, z_bt, e_isWithin, zBd_s, hz2, z_bf]
      · unfold fX12_hands
        rw [e_in, zBd_s, hz, z_bt, e_in, zBd_s, hz2, z_bf]
    · obtain ⟨n, hn1, hn2, rfl⟩ := zIn_t (by decide) (by decide) hz
      have hb := hW.1.2
      have hle := zDays_le hb
      by_cases ht : 2 * n ≤ aT A
      · have hT0 := zOp_TB hW hC ht
        -- the class
        have k1 : ∀ j k p f m, k + j = n → 1 ≤ k → p < k → j < f → zTB (2 * n) (aB A) m → (∀ i, i < k → m 58 i = nI (zDays (aB A) i)) → zTo (fX3_lastToGetIt_12 F f (nI n) (nI p) (nI k) m) (fun r m' => r = zLast (aB A) j k p ∧ (∀ c, c ≠ 58 → m' c = m c) ∧ (zAllFit (aB A) j k = true → ∀ i, i < n → m' 58 i = nI (zDays (aB A) i))) := by
          intro j
          induction j with
          | zero =>
            intro k p f m hk h1 hp hf hT hd
            obtain ⟨f, rfl⟩ := z_s hf
            rw [fX3_lastToGetIt_12, z_done (by omega) (by omega)]
            exact zTo_ret ⟨rfl, fun _ _ => rfl, fun _ i hi => hd i (by omega)⟩
          | succ j ih =>
            intro k p f m hk h1 hp hf hT hd
            obtain ⟨f, rfl⟩ := z_s hf
            have b1 := hb (2 * k)
            have b2 := hb (2 * k + 1)
            rw [fX3_lastToGetIt_12, z_more (by omega) (by omega), pk_mul, e_bA hT (by omega), zBd_s, nI_add, e_bA hT (by omega), zBd_s, pk_sub h1, e_isWithin, zBd_s, zIn_nI (by omega) (by omega) (by decide), e_isWithin, zBd_s, zIn_nI (by omega) (by decide) (by decide)]
            by_cases q1 : aB A (2 * k) < k
            · rw [decide_eq_true (Nat.zero_le _), decide_eq_true (show aB A (2 * k) ≤ k - 1 by omega), Bool.and_self, z_bt]
              by_cases q2 : aB A (2 * k + 1) ≤ 15
              · rw [decide_eq_true (Nat.zero_le _), decide_eq_true q2, Bool.and_self, z_bt]
                have hfit : zFit (aB A) k = true := by unfold zFit; rw [decide_eq_true q1, decide_eq_true q2]; rfl
                refine zTo_G rfl (by omega) (by decide) (zTo_G rfl (by omega) (by decide) (zTo_let fun m7 e7 => zTo_G rfl (by omega) (by decide) (zTo_G rfl (by omega) (by decide) ?_)))
                rw [nI_clamp (by omega), nI_clamp (by omega), hd _ q1, nI_add, ← zDays_s q1] at e7
                have hd7 : ∀ i, i < k + 1 → m7 58 i = nI (zDays (aB A) i) := by
                  intro i hi
                  rw [e7]
                  by_cases hik : i = k
                  · rw [hik, zUp_s]
                  · rw [zUp_o hik]; exact hd i (by omega)
                have hT7 : zTB (2 * n) (aB A) m7 := ⟨by rw [e7, zUp_ne (by decide)]; exact hT.1, hT.2.1, fun i hi => by rw [e7, zUp_ne (by decide)]; exact hT.2.2 i hi⟩
                have l1 := hle k
                have l2 := hle p
                rw [nI_clamp (by omega), nI_clamp (by omega), hd7 k (by omega), hd7 p (by omega), nI_add]
                have fin : ∀ p', p' < k + 1 → p' = (if zDays (aB A) k ≤ zDays (aB A) p then p else k) → zTo (fX3_lastToGetIt_12 F f (nI n) (nI p') (nI (k + 1)) m7) (fun r m' => r = zLast (aB A) (j + 1) k p ∧ (∀ c, c ≠ 58 → m' c = m c) ∧ (zAllFit (aB A) (j + 1) k = true → ∀ i, i < n → m' 58 i = nI (zDays (aB A) i))) := by
                  intro p' hp' he
                  refine (ih (k + 1) p' f m7 (by omega) (by omega) hp' (by omega) hT7 hd7).mono fun r m' ⟨g1, g2, g3⟩ => ⟨?_, fun c hc => by rw [g2 c hc, e7, zUp_ne hc], fun ha => g3 ?_⟩
                  · rw [g1, he]
                    show _ = if zFit (aB A) k = true then _ else _
                    rw [if_pos hfit]
                  · have ha : (zFit (aB A) k && zAllFit (aB A) j (k + 1)) = true := ha
                    rw [hfit, Bool.true_and] at ha
                    exact ha
                by_cases hd2 : zDays (aB A) k ≤ zDays (aB A) p
                · rw [if_pos ((nI_leI (by omega) (by omega)).mpr hd2)]
                  exact fin p (by omega) (by rw [if_pos hd2])
                · rw [if_neg (fun z => hd2 ((nI_leI (by omega) (by omega)).mp z))]
                  exact fin k (by omega) (by rw [if_neg hd2])
              · rw [decide_eq_true (Nat.zero_le _), decide_eq_false q2, Bool.and_false, z_bf]
                have hfit : zFit (aB A) k = false := by unfold zFit; rw [decide_eq_false q2, Bool.and_false]
                refine zTo_ret ⟨?_, fun _ _ => rfl, fun ha => ?_⟩
                · show _ = if zFit (aB A) k = true then _ else _
                  rw [hfit, if_neg (by decide)]
                · have ha : (zFit (aB A) k && zAllFit (aB A) j (k + 1)) = true := ha
                  rw [hfit, Bool.false_and] at ha
                  cases ha
            · rw [decide_eq_true (Nat.zero_le _), decide_eq_false (show ¬ aB A (2 * k) ≤ k - 1 by omega), Bool.and_false, z_bf]
              have hfit : zFit (aB A) k = false := by unfold zFit; rw [decide_eq_false q1, Bool.false_and]
              refine zTo_ret ⟨?_, fun _ _ => rfl, fun ha => ?_⟩
              · show _ = if zFit (aB A) k = true then _ else _
                rw [hfit, if_neg (by decide)]
              · have ha : (zFit (aB A) k && zAllFit (aB A) j (k + 1)) = true := ha
                rw [hfit, Bool.false_and] at ha
                cases ha
        have k2 : zTo (fX3_lastToGetIt F (nI n) (zOp μ (2 * n))) (fun r m' => r = zLast (aB A) (n - 1) 1 0 ∧ (∀ c, c ≠ 58 → m' c = zOp μ (2 * n) c) ∧ (zAllFit (aB A) (n - 1) 1 = true → ∀ i, i < n → m' 58 i = nI (zDays (aB A) i))) := by
          unfold fX3_lastToGetIt
          refine zTo_G rfl (by decide) (by decide) (zTo_let fun m2 e2 => ?_)
          have c0 : (nI 0).toNatClampNeg = 0 := rfl
          rw [c0] at e2
          refine (k1 (n - 1) 1 0 F m2 (by omega) (by omega) (by omega) (by omega) ⟨by rw [e2, zUp_ne (by decide)]; exact hT0.1, hT0.2.1, fun i hi => by rw [e2, zUp_ne (by decide)]; exact hT0.2.2 i hi⟩ (fun i hi => ?_)).mono fun r m' ⟨g1, g2, g3⟩ => ⟨g1, fun c hc => by rw [g2 c hc, e2, zUp_ne hc], g3⟩
          have : i = 0 := by omega
          rw [this, e2, zUp_s, zDays_0]
        obtain ⟨r, m, t1, t2, t3, t4⟩ := k2
        have hlt := zLastN_lt (aB A) (n - 1) 1 0 n (by omega) (by omega)
        have hl2 := hle (zLastN (aB A) (n - 1) 1 0)
        refine ⟨if zAllFit (aB A) (n - 1) 1 = true then (if w = 0 then nI (zDays (aB A) (zLastN (aB A) (n - 1) 1 0)) else nI (zLastN (aB A) (n - 1) 1 0)) else -2, aST A 0 (aB A), zUp m 1 1 (nI 0), ?_, hW.tape (by omega) hb, rc_desk hC (fun c hc => t3 c (by omega)), fun c hc => ?_, fun μ' hM => ?_⟩
        · unfold fX11_hands
          rw [e_isWithin, zBd_s, hz, z_bt, e_isWithin, zBd_s, hz2, z_bt, pk_mul, e_opens_t hC.1.1 hW.1.1 ht, zBd_s, z_bt, t1, zBd_s, e_empties, zBd_s]
          obtain ⟨v, -, hv, rfl⟩ := zIn_t (by decide) (by decide) hz2
          cases hA : zAllFit (aB A) (n - 1) 1
          · have hr : r = -2 := by rw [t2, zLast_eq, hA]; rfl
            rw [hr, if_neg (show ¬ (false = true) by decide)]
            by_cases hv1 : nI v = nI 1
            · rw [if_pos hv1]
            · rw [if_neg hv1, if_pos rfl]
          · have hr : r = nI (zLastN (aB A) (n - 1) 1 0) := by rw [t2, zLast_eq, hA]; rfl
            rw [hr, if_pos (show (true = true) from rfl)]
            have : v = 0 ∨ v = 1 := by omega
            rcases this with rfl | rfl
            · rw [if_neg (by decide), if_pos (show nI 0 = 0 from rfl), if_neg (fun e => by
                have := nI_pos' (n := zLastN (aB A) (n - 1) 1 0) (by omega)
                rw [e] at this
                exact absurd this (by decide)), zG_in rfl (by omega) (by decide), nI_clamp (by omega), zUp_ne (by decide), t4 hA _ hlt]
            · rw [if_pos rfl, if_neg (by decide)]
        · by_cases h58 : c = 58
          · omega
          · rw [zUp_ne (by omega), t3 c h58, zOp_ne (by omega)]
        · have hO := zUp_TO hW hM ht
          have m89 : ∀ j k p f m, k + j = n → 1 ≤ k → p < k → j < f → zTO (2 * n) (aB A) m → (∀ i, i < k → m 88 i = nI (zDays (aB A) i)) → (∀ i, 1 ≤ i → i < n → aB A (2 * i) < i) → zTo (fX12_hands_89 F f (nI n) w (nI p) (nI k) m) (fun r m' => r = (if w = 0 then nI (zDays (aB A) (zLastN (aB A) j k p)) else nI (zLastN (aB A) j k p)) ∧ ∀ c, c ≠ 88 → m' c = m c) := by
            intro j
            induction j with
            | zero =>
              intro k p f m hk h1 hp hf hO hd hlo
              obtain ⟨f, rfl⟩ := z_s hf
              rw [fX12_hands_89, z_done (by omega) (by omega)]
              by_cases h0 : w = 0
              · rw [if_pos h0, zG_in rfl (by omega) (by decide), nI_clamp (by omega), hd p hp]
                exact zTo_ret ⟨by rw [if_pos h0]; rfl, fun _ _ => rfl⟩
              · rw [if_neg h0]
                exact zTo_ret ⟨by rw [if_neg h0]; rfl, fun _ _ => rfl⟩
            | succ j ih =>
              intro k p f m hk h1 hp hf hO hd hlo
              obtain ⟨f, rfl⟩ := z_s hf
              have b1 := hb (2 * k)
              have b2 := hb (2 * k + 1)
              have q1 := hlo k h1 (by omega)
              rw [fX12_hands_89, z_more (by omega) (by omega), pk_mul, e_oc hO (by omega), zBd_s, zG_in rfl (by omega) (by decide), nI_add, e_oc hO (by omega), zBd_s]
              refine zTo_G rfl (by omega) (by decide) (zTo_let fun m6 e6 => zTo_G rfl (by omega) (by decide) (zTo_G rfl (by omega) (by decide) ?_))
              rw [nI_clamp (by omega), nI_clamp (by omega), hd _ q1, nI_add, ← zDays_s q1] at e6
              have hd6 : ∀ i, i < k + 1 → m6 88 i = nI (zDays (aB A) i) := by
                intro i hi
                rw [e6]
                by_cases hik : i = k
                · rw [hik, zUp_s]
                · rw [zUp_o hik]; exact hd i (by omega)
              have hO6 : zTO (2 * n) (aB A) m6 := ⟨hO.1, fun i hi => by rw [e6, zUp_ne (by decide)]; exact hO.2 i hi⟩
              have l1 := hle k
              have l2 := hle p
              rw [nI_clamp (by omega), nI_clamp (by omega), hd6 k (by omega), hd6 p (by omega), nI_add]
              have fin : ∀ p', p' < k + 1 → p' = (if zDays (aB A) k ≤ zDays (aB A) p then p else k) → zTo (fX12_hands_89 F f (nI n) w (nI p') (nI (k + 1)) m6) (fun r m' => r = (if w = 0 then nI (zDays (aB A) (zLastN (aB A) (j + 1) k p)) else nI (zLastN (aB A) (j + 1) k p)) ∧ ∀ c, c ≠ 88 → m' c = m c) := by
                intro p' hp' he
                refine (ih (k + 1) p' f m6 (by omega) (by omega) hp' (by omega) hO6 hd6 hlo).mono fun r m' ⟨g1, g2⟩ => ⟨?_, fun c hc => by rw [g2 c hc, e6, zUp_ne hc]⟩
                rw [g1, he]
                rfl
              by_cases hd2 : zDays (aB A) k ≤ zDays (aB A) p
              · rw [if_pos ((nI_leI (by omega) (by omega)).mpr hd2)]
                exact fin p (by omega) (by rw [if_pos hd2])
              · rw [if_neg (fun z => hd2 ((nI_leI (by omega) (by omega)).mp z))]
                exact fin k (by omega) (by rw [if_neg hd2])
          have m38 : ∀ j k f, k + j = n → 1 ≤ k → j < f → (∀ i, 1 ≤ i → i < k → aB A (2 * i) < i) → zTo (fX12_hands_38 F f (nI n) w (nI k) (zUp μ' 60 9 (nI 0))) (fun r m' => r = (if zAllFit (aB A) j k = true then (if w = 0 then nI (zDays (aB A) (zLastN (aB A) (n - 1) 1 0)) else nI (zLastN (aB A) (n - 1) 1 0)) else -2) ∧ ∀ c, c ≠ 88 → m' c = zUp μ' 60 9 (nI 0) c) := by
            intro j
            induction j with
            | zero =>
              intro k f hk h1 hf hlo
              obtain ⟨f, rfl⟩ := z_s hf
              rw [fX12_hands_38, z_done (by omega) (by omega)]
              refine zTo_G rfl (by decide) (by decide) (zTo_let fun m2 e2 => ?_)
              have c0 : (nI 0).toNatClampNeg = 0 := rfl
              rw [c0] at e2
              refine (m89 (n - 1) 1 0 F m2 (by omega) (by omega) (by omega) (by omega) ⟨hO.1, fun i hi => by rw [e2, zUp_ne (by decide)]; exact hO.2 i hi⟩ (fun i hi => ?_) (fun i hi1 hi2 => hlo i hi1 (by omega))).mono fun r m' ⟨g1, g2⟩ => ⟨g1, fun c hc => by rw [g2 c hc, e2, zUp_ne hc]⟩
              have : i = 0 := by omega
              rw [this, e2, zUp_s, zDays_0]
            | succ j ih =>
              intro k f hk h1 hf hlo
              obtain ⟨f, rfl⟩ := z_s hf
              have b1 := hb (2 * k)
              have b2 := hb (2 * k + 1)
              rw [fX12_hands_38, z_more (by omega) (by omega), pk_mul, e_oc hO (by omega), zBd_s, nI_add, e_oc hO (by omega), zBd_s, nI_add]
              by_cases q1 : aB A (2 * k) < k
              · rw [z_more q1 (by omega)]
                by_cases q2 : aB A (2 * k + 1) ≤ 15
                · have hfit : zFit (aB A) k = true := by unfold zFit; rw [decide_eq_true q1, decide_eq_true q2]; rfl
                  rw [if_pos ((nI_leI (by omega) (by decide)).mpr q2)]
                  refine (ih (k + 1) f (by omega) (by omega) (by omega) (fun i hi1 hi2 => ?_)).mono fun r m' ⟨g1, g2⟩ => ⟨?_, g2⟩
                  · by_cases hik : i = k
                    · rw [hik]; exact q1
                    · exact hlo i hi1 (by omega)
                  · rw [g1]
                    show _ = if (zFit (aB A) k && zAllFit (aB A) j (k + 1)) = true then _ else _
                    rw [hfit, Bool.true_and]
                · have hfit : zFit (aB A) k = false := by unfold zFit; rw [decide_eq_false q2, Bool.and_false]
                  rw [if_neg (fun z => q2 ((nI_leI (by omega) (by decide)).mp z))]
                  refine zTo_ret ⟨?_, fun _ _ => rfl⟩
                  show _ = if (zFit (aB A) k && zAllFit (aB A) j (k + 1)) = true then _ else _
                  rw [hfit, Bool.false_and, if_neg (by decide)]
              · have hfit : zFit (aB A) k = false := by unfold zFit; rw [decide_eq_false q1, Bool.false_and]
                rw [z_done (by omega) (by omega)]
                refine zTo_ret ⟨?_, fun _ _ => rfl⟩
                show _ = if (zFit (aB A) k && zAllFit (aB A) j (k + 1)) = true then _ else _
                rw [hfit, Bool.false_and, if_neg (by decide)]
          obtain ⟨r2, m2, u1, u2, u3⟩ := m38 (n - 1) 1 F (by omega) (by omega) (by omega) (fun i h1 h2 => by omega)
          refine ⟨m2, ?_, rm_desk hM (fun c _ hc => u3 c hc), fun c hc => by rw [u3 c (by omega), zUp_ne (by omega)]⟩
          unfold fX12_hands
          rw [e_in, zBd_s, hz, z_bt, e_in, zBd_s, hz2, z_bt, pk_mul, hM.1.1, if_pos ((nI_leI (by omega) (by have := hW.1.1; omega)).mpr ht)]
          show fX12_hands_38 F F (nI n) w (nI 1) (zUp μ' 60 9 (nI 0)) = _
          rw [u1, u2]
      · refine ⟨-1, A, μ, ?_, hW, hC, fun _ _ => rfl, fun μ' hM => ⟨μ', ?_, hM, fun _ _ => rfl⟩⟩
        · unfold fX11_hands
          rw [e_isWithin, zBd_s, hz, z_bt, e_isWithin, zBd_s, hz2, z_bt, pk_mul, e_opens_f hC.1.1 hW.1.1 (by omega) (by omega), zBd_s, z_bf]
        · unfold fX12_hands
          rw [e_in, zBd_s, hz, z_bt, e_in, zBd_s, hz2, z_bt, pk_mul, hM.1.1, if_neg (fun z => ht ((nI_leI (by omega) (by have := hW.1.1; omega)).mp z))]
