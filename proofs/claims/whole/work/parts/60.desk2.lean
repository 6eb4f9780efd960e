/-! ===== duty ===== -/
/-- what is owed beyond some bounds on, or that they do not rise -/
def zDt (b : Nat → Nat) (br : Nat) : Nat → Nat → Nat → Nat → Int32
  | 0, _, _, sum => nI sum
  | m + 1, k, fr, sum => if fr < 10 * b (2 * k) then zDt b br m (k + 1) (10 * b (2 * k)) (sum + (min br (10 * b (2 * k)) - fr) * b (2 * k + 1)) else -3
def zRise (b : Nat → Nat) : Nat → Nat → Nat → Bool
  | 0, _, _ => true
  | m + 1, k, pr => decide (pr < b (2 * k)) && zRise b m (k + 1) (b (2 * k))
def zDs (b : Nat → Nat) (br : Nat) : Nat → Nat → Nat → Nat → Nat
  | 0, _, _, sum => sum
  | m + 1, k, fr, sum => zDs b br m (k + 1) (10 * b (2 * k)) (sum + b (2 * k + 1) * (min (10 * b (2 * k)) br - fr))
theorem zDt_eq (b : Nat → Nat) (br : Nat) : ∀ m k pr sum, zDt b br m k (10 * pr) sum = if zRise b m k pr = true then nI (zDs b br m k (10 * pr) sum) else -3
  | 0, k, pr, sum => rfl
  | m + 1, k, pr, sum => by
    show (if 10 * pr < 10 * b (2 * k) then zDt b br m (k + 1) (10 * b (2 * k)) _ else -3) = if (decide (pr < b (2 * k)) && zRise b m (k + 1) (b (2 * k))) = true then nI (zDs b br m (k + 1) (10 * b (2 * k)) _) else -3
    by_cases h : pr < b (2 * k)
    · rw [if_pos (by omega), zDt_eq b br m (k + 1), decide_eq_true h, Bool.true_and, Nat.mul_comm (min br _ - _), Nat.min_comm]
    · rw [if_neg (by omega), decide_eq_false h, Bool.false_and, if_neg (by decide)]
theorem pr_duty {F : Nat} (hF : 20 ≤ F) (x y : Int32) : zPair (fX11_duty F x y) (fX12_duty F x y) := by
  refine zPair.mk fun A μ hW hC => ?_
  cases hz : zTold (aN A) x
  · refine ⟨-1, A, μ, ?_, hW, hC, fun _ _ => rfl, fun μ' hM => ⟨μ', ?_, hM, fun _ _ => rfl⟩⟩
    · unfold fX11_duty
      rw [e_isTold hC.2.1 hW.2.1, zBd_s, hz, z_bf]
    · unfold fX12_duty
      rw [e_mTold hM.2.1, zBd_s, hz, z_bf]
  · cases hz2 : zIn y 1 6
    · refine ⟨-1, A, μ, ?_, hW, hC, fun _ _ => rfl, fun μ' hM => ⟨μ', ?_, hM, fun _ _ => rfl⟩⟩
      · unfold fX11_duty
        rw [e_isTold hC.2.1 hW.2.1, zBd_s, hz, z_bt, e_isWithin, zBd_s, hz2, z_bf]
      · unfold fX12_duty
        rw [e_mTold hM.2.1, zBd_s, hz, z_bt, e_in, zBd_s, hz2, z_bf]
    · obtain ⟨n, hn1, hn2, rfl⟩ := zIn_t (by decide) (by decide) hz2
      have hz3 : zIn x 0 15 = true := by unfold zTold at hz; exact (Bool.and_eq_true _ _ ▸ hz).1
      obtain ⟨p, -, hp, rfl⟩ := zIn_t (by decide) (by decide) hz3
      have hb := hW.1.2
      have hB := hW.2.1.2.2.2.2.1 p (by omega)
      by_cases ht : 2 * n ≤ aT A
      · have hT := zOp_TB hW hC ht
        have k1 : ∀ j k fr sum f, k + j = n → fr ≤ 2550 → j < f → fX3_dutyOn_8 F f (nI n) (nI (pB (aN A) p)) (nI fr) (nI sum) (nI k) (zOp μ (2 * n)) = some (zDt (aB A) (pB (aN A) p) j k fr sum, zOp μ (2 * n)) := by
          intro j
          induction j with
          | zero =>
            intro k fr sum f hk hfr hf
            obtain ⟨f, rfl⟩ := z_s hf
            rw [fX3_dutyOn_8, z_done (by omega) (by omega)]
            rfl
          | succ j ih =>
            intro k fr sum f hk hfr hf
            obtain ⟨f, rfl⟩ := z_s hf
            have h1 := hb (2 * k)
            rw [fX3_dutyOn_8, z_more (by omega) (by omega), pk_mul, e_bA hT (by omega), zBd_s, pk_mul, e_min (by omega) (by omega), zBd_s, e_maxsub (by omega) (by omega), zBd_s, nI_add, e_bA hT (by omega), zBd_s, pk_mul, nI_add, nI_add]
            show _ = some (if fr < 10 * aB A (2 * k) then zDt (aB A) (pB (aN A) p) j (k + 1) (10 * aB A (2 * k)) (sum + (min (pB (aN A) p) (10 * aB A (2 * k)) - fr) * aB A (2 * k + 1)) else -3, _)
            by_cases hd : fr < 10 * aB A (2 * k)
            · rw [if_pos ((nI_ltI (by omega) (by omega)).mpr hd), if_pos hd]
              exact ih (k + 1) _ _ f (by omega) (by omega) (by omega)
            · rw [if_neg (fun z => hd ((nI_ltI (by omega) (by omega)).mp z)), if_neg hd]
        refine ⟨zDt (aB A) (pB (aN A) p) n 0 0 0, aST A 0 (aB A), zUp (zOp μ (2 * n)) 1 1 (nI 0), ?_, hW.tape (by omega) hb, rc_desk hC (fun _ _ => rfl), fun c hc => by rw [zUp_ne (by omega), zOp_ne (by omega)], fun μ' hM => ?_⟩
        · unfold fX11_duty
          rw [e_isTold hC.2.1 hW.2.1, zBd_s, hz, z_bt, e_isWithin, zBd_s, hz2, z_bt, pk_mul, e_opens_t hC.1.1 hW.1.1 ht, zBd_s, z_bt, zG_in rfl (by omega) (by decide), nI_clamp (by omega), zOp_ne (by decide), hC.2.1.2.2.2.2.2.1 p (by omega)]
          unfold fX3_dutyOn
          rw [k1 n 0 0 0 F (by omega) (by omega) (by omega), zBd_s, e_empties, zBd_s]
        · have hO := zUp_TO hW hM ht
          have hN : zRepN 61 (aN A) (zUp μ' 60 9 (nI 0)) := hM.2.1.of (zUp_ne (by decide))
          have m86 : ∀ j k fr sum f, k + j = n → fr ≤ 2550 → j < f → fX12_duty_86 F f (nI p) (nI n) (nI sum) (nI fr) (nI k) (zUp μ' 60 9 (nI 0)) = some (nI (zDs (aB A) (pB (aN A) p) j k fr sum), zUp μ' 60 9 (nI 0)) := by
            intro j
            induction j with
            | zero =>
              intro k fr sum f hk hfr hf
              obtain ⟨f, rfl⟩ := z_s hf
              rw [fX12_duty_86, z_done (by omega) (by omega)]
              rfl
            | succ j ih =>
              intro k fr sum f hk hfr hf
              obtain ⟨f, rfl⟩ := z_s hf
              have h1 := hb (2 * k)
              rw [fX12_duty_86, z_more (by omega) (by omega), pk_mul, e_oc hO (by omega), zBd_s, nI_add, e_oc hO (by omega), zBd_s, nI_add, zG_in rfl (by omega) (by decide), nI_clamp (by omega), hN.2.2.2.1 p (by omega), pk_mul, e_mmin (by omega) (by omega), zBd_s, e_mmaxsub (by omega) (by omega), zBd_s, pk_mul, nI_add, nI_add]
              exact ih (k + 1) _ _ f (by omega) (by omega) (by omega)
          have m37 : ∀ j k f, k + j = n → j < f → fX12_duty_37 F f (nI p) (nI n) (nI k) (zUp μ' 60 9 (nI 0)) = some (if zRise (aB A) j k (if k = 0 then 0 else aB A (2 * k - 2)) = true then nI (zDs (aB A) (pB (aN A) p) n 0 0 0) else -3, zUp μ' 60 9 (nI 0)) := by
            intro j
            induction j with
            | zero =>
              intro k f hk hf
              obtain ⟨f, rfl⟩ := z_s hf
              rw [fX12_duty_37, z_done (by omega) (by omega), m86 n 0 0 0 F (by omega) (by omega) (by omega)]
              rfl
            | succ j ih =>
              intro k f hk hf
              obtain ⟨f, rfl⟩ := z_s hf
              have h1 := hb (2 * k)
              have e1 := ih (k + 1) f (by omega) (by omega)
              rw [if_neg (show ¬ k + 1 = 0 by omega), show 2 * (k + 1) - 2 = 2 * k by omega] at e1
              rw [fX12_duty_37, z_more (by omega) (by omega), pk_mul, e_oc hO (by omega), zBd_s, nI_add, e1]
              show _ = some (if (decide ((if k = 0 then 0 else aB A (2 * k - 2)) < aB A (2 * k)) && zRise (aB A) j (k + 1) (aB A (2 * k))) = true then nI (zDs (aB A) (pB (aN A) p) n 0 0 0) else -3, _)
              by_cases hk0 : k = 0
              · rw [if_pos (show nI k = 0 by rw [hk0]; rfl), if_pos hk0]
                by_cases hd : 0 < aB A (2 * k)
                · rw [if_pos ((nI_ltI (by decide) (by omega)).mpr hd), decide_eq_true hd, Bool.true_and]
                · rw [if_neg (fun z => hd ((nI_ltI (by decide) (by omega)).mp z)), decide_eq_false hd, Bool.false_and, if_neg (by decide)]
              · have h2 := hb (2 * k - 2)
                rw [if_neg (fun z => hk0 ((nI_z (by omega)).mp z)), if_neg hk0, pk_sub (show 2 ≤ 2 * k by omega), e_oc hO (by omega), zBd_s]
                by_cases hd : aB A (2 * k - 2) < aB A (2 * k)
                · rw [if_pos ((nI_ltI (by omega) (by omega)).mpr hd), decide_eq_true hd, Bool.true_and]; exact e1
                · rw [if_neg (fun z => hd ((nI_ltI (by omega) (by omega)).mp z)), decide_eq_false hd, Bool.false_and, if_neg (by decide)]
          refine ⟨zUp μ' 60 9 (nI 0), ?_, rm_desk hM (fun _ _ _ => rfl), fun c hc => zUp_ne (by omega)⟩
          unfold fX12_duty
          rw [e_mTold hM.2.1, zBd_s, hz, z_bt, e_in, zBd_s, hz2, z_bt, pk_mul, hM.1.1, if_pos ((nI_leI (by omega) (by have := hW.1.1; omega)).mpr ht)]
          show fX12_duty_37 F F (nI p) (nI n) (nI 0) (zUp μ' 60 9 (nI 0)) = _
          have e2 := zDt_eq (aB A) (pB (aN A) p) n 0 0 0
          rw [Nat.mul_zero] at e2
          rw [m37 n 0 F (by omega) (by omega), e2]
          rfl
      · refine ⟨-1, A, μ, ?_, hW, hC, fun _ _ => rfl, fun μ' hM => ⟨μ', ?_, hM, fun _ _ => rfl⟩⟩
        · unfold fX11_duty
          rw [e_isTold hC.2.1 hW.2.1, zBd_s, hz, z_bt, e_isWithin, zBd_s, hz2, z_bt, pk_mul, e_opens_f hC.1.1 hW.1.1 (by omega) (by omega), zBd_s, z_bf]
        · unfold fX12_duty
          rw [e_mTold hM.2.1, zBd_s, hz, z_bt, e_in, zBd_s, hz2, z_bt, pk_mul, hM.1.1, if_neg (fun z => ht ((nI_leI (by omega) (by have := hW.1.1; omega)).mp z))]
