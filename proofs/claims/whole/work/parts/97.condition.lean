/-! ===== the law is read: tests and conditions ===== -/
def yAT (F n f g : Nat) (μ : zMem) : Option zR := zBd (fX12_endsPiece_0 F f μ) (fun _ m => fX12_readsCondition_92 F (fX12_readsCondition_40 F n) g m)
def yTEST (N : Nat) (b : Nat → Nat) (p o : Nat) (k : yCd) : Prop := ∃ (ok : Bool) (p' : Nat) (k' : yCd) (ft : Int32), (ok = true → p < p' ∧ p' ≤ N ∧ kE k k' ∧ k'.1 + p ≤ k.1 + p' ∧ yST (yL k') k.1 k'.1 24) ∧
  (∀ (F D d : Nat) (μ : zMem), 300 ≤ F → 15 - 2 * o ≤ D → (d = 19 ∨ d = 26) → yPC N b p d k μ → ∃ m1, fGC F D 1 (nI o) μ = some (zB ok, m1) ∧ (ok = true → yPC N b p' d k' m1) ∧ (ok = false → m1 1 3 = ft) ∧ frC d μ m1) ∧
  ∀ (F n w : Nat) (Wk : Nat → Nat) (μ : zMem), 300 ≤ F → N < n + p → w ≤ p → 1 ≤ w → yWb w Wk → yFl w Wk → yPM N b p o w Wk k μ → ∃ m1, (ok = true → ∃ n' f' g', N < n' + p' ∧ o < f' ∧ o < g' ∧ fX12_readsCondition_40 F n μ = yAT F n' f' g' m1 ∧ yPM N b p' o w Wk k' m1) ∧ (ok = false → fX12_readsCondition_40 F n μ = some (nI 0, m1) ∧ m1 60 12 = ft) ∧ frM μ m1
def yCOND (N : Nat) (b : Nat → Nat) (p o orr an a : Nat) (k : yCd) : Prop := ∃ (ok : Bool) (p' : Nat) (k1 : yCd) (or1 an1 : Nat) (ft : Int32), (ok = true → p < p' ∧ p' ≤ N ∧ k.1 ≤ k1.1 ∧ k1.1 + p ≤ k.1 + p' ∧ yJk k1 or1 12 ∧ yJk k1 an1 11 ∧ (an1 ≠ 0 → or1 ≠ an1) ∧ (p' < N → b p' ≠ 38 ∧ b p' ≠ 124) ∧ (∀ i, i < a → (yLand (yLand k1 an1) or1).2.1 i = k.2.1 i ∧ (yLand (yLand k1 an1) or1).2.2 i = k.2.2 i) ∧ yST (yL (yLand (yLand k1 an1) or1)) a k1.1 24) ∧
  (∀ (F D d f i : Nat) (μ : zMem), 300 ≤ F → 15 - 2 * o ≤ D → N < f + p → 2 * i ≤ p → (d = 19 ∨ d = 26) → yPC N b p d k μ → ∃ m1, fX6_readsCondition_8 F (fGC F D 0) (fGC F D 1) (fGC F D 2) (fGC F D 3) f (nI o) (yAn an) (yAn orr) (nI i) μ = some (zB ok, m1) ∧ (ok = true → yPC N b p' d (yLand (yLand k1 an1) or1) m1) ∧ (ok = false → m1 1 3 = ft) ∧ frC d μ m1) ∧
  ∀ (F n w : Nat) (Wk : Nat → Nat) (μ : zMem), 300 ≤ F → N < n + p → yCn w orr an ≤ p → 1 ≤ w → yWb w Wk → Wk (w - 1) / 1048576 = 13 → yPM N b p o (yCn w orr an) (yCk Wk w orr an) k μ → ∃ m1, (ok = true → ∃ n' g', N < n' + p' ∧ o < g' ∧ fX12_readsCondition_40 F n μ = fX12_readsCondition_92 F (fX12_readsCondition_40 F n') g' m1 ∧ yPM N b p' o (yCn w or1 an1) (yCk Wk w or1 an1) k1 m1) ∧ (ok = false → fX12_readsCondition_40 F n μ = some (nI 0, m1) ∧ m1 60 12 = ft) ∧ frM μ m1
/-- what has been read of this condition so far -/
def ySc (a orr an : Nat) (k : yCd) : Prop := ∃ x, a ≤ x ∧ x ≤ k.1 ∧ (if orr = 0 then a = x else x = orr ∧ yST (yL k) a (orr - 1) 24 ∧ k.2.1 (orr - 1) = 12 ∧ k.2.2 (orr - 1) = 0) ∧ (if an = 0 then x = k.1 else k.1 = an ∧ yST (yL k) x (an - 1) 24 ∧ k.2.1 (an - 1) = 11 ∧ k.2.2 (an - 1) = 0)
theorem zBd_as {x : Option zR} {K1 K2 : Int32 → zMem → Option zR} : zBd (zBd x K1) K2 = zBd x (fun r m => zBd (K1 r m) K2) := by
  cases x with
  | none => rfl
  | some r => rfl
theorem test_of {N : Nat} {b : Nat → Nat} (hN : N ≤ 240) (hb : ∀ j, b j < 256) {p o : Nat} {k : yCd} (hp : p ≤ N) (ho : o ≤ 6) (hk : k.1 ≤ p) (hT : o < 6 → p < N → yTEST N b (p + 1) (o + 1) k) (hC : o < 6 → p < N → yCOND N b (p + 1) (o + 1) 0 0 k.1 k) : yTEST N b p o k := by
  by_cases hop : p < N ∧ (b p = 33 ∨ b p = 40)
  · obtain ⟨hpN, hbp⟩ := hop
    have hS : ySg N b p = nI (b p) := ySg_in hpN
    -- the class
    have c17 : ∀ (F D : Nat) (d : Nat) (μ : zMem), yPC N b p d k μ → fGC F (D + 1) 1 (nI o) μ = fX6_readsTest_17 F (fGC F D 0) (fGC F D 1) (fGC F D 2) (fGC F D 3) (nI o) (nI (b p)) μ := by
      intro F D d μ hP
      rw [fGC, if_neg (by decide), if_pos rfl]
      unfold bX6_readsTest
      rw [e_sign hP.1 (by omega) (by omega), zBd_s, hS]
      rcases hbp with e | e
      · rw [if_pos (by rw [e])]
      · rw [if_neg (by rw [e]; decide), if_pos (by rw [e])]
    have m58 : ∀ (F n w : Nat) (Wk : Nat → Nat) (μ : zMem), yPM N b p o w Wk k μ → fX12_readsCondition_40 F (n + 1) μ = zBd (fX12_opens F (if b p = 33 then nI 10 else nI 13) μ) (fun r2 m2 => if r2 = 0 then some ((nI 0), m2) else fX12_readsCondition_40 F n m2) := by
      intro F n w Wk μ hP
      rw [fX12_readsCondition_40, e_here hP.1 (by omega) (by omega), zBd_s, hS]
      rcases hbp with e | e
      · rw [if_pos (by rw [e]), if_pos e]
        unfold fX12_readsCondition_58
        rw [e_here hP.1 (by omega) (by omega), zBd_s, hS, if_pos (by rw [e])]
      · rw [if_neg (by rw [e]; decide), e_here hP.1 (by omega) (by omega), zBd_s, hS, if_pos (by rw [e]), if_neg (by rw [e]; decide)]
        unfold fX12_readsCondition_58
        rw [e_here hP.1 (by omega) (by omega), zBd_s, hS, if_neg (by rw [e]; decide)]
    by_cases ho6 : o = 6
    · refine ⟨false, 0, k, yFt 5 p, fun h => (by cases h), fun F D d μ hF hD hd hP => ?_, fun F n w Wk μ hF hn hwp hw1 hWb hfl hP => ?_⟩
      · obtain ⟨D, rfl⟩ : ∃ D1, D = D1 + 1 := ⟨D - 1, by omega⟩
        refine ⟨zUp μ 1 3 (yFt 5 p), ?_, fun h => (by cases h), fun _ => zUp_s _ _ _ _, frC_1 hd⟩
        rw [c17 F D d μ hP]
        unfold fX6_readsTest_17
        rw [if_neg (fun z => by have := (nI_ltI (by omega) (by decide)).mp z; omega), e_fails hP.1, zBd_s, zGb0]
        rfl
      · obtain ⟨n, rfl⟩ : ∃ n1, n = n1 + 1 := ⟨n - 1, by omega⟩
        refine ⟨zUp μ 60 12 (yFt 5 p), fun h => (by cases h), fun _ => ⟨?_, zUp_s _ _ _ _⟩, frM_60 (by omega)⟩
        rw [m58 F n w Wk μ hP]
        by_cases e : b p = 33
        · rw [if_pos e, e_mOpens_f hP ho6, zBd_s, if_pos (show nI 0 = 0 from rfl)]
        · rw [if_neg e, e_mOpens_f hP ho6, zBd_s, if_pos (show nI 0 = 0 from rfl)]
    · have ho5 : o < 6 := by omega
      have wb : ∀ (w x : Nat) (Wk : Nat → Nat), x ≤ 13 → yWb w Wk → yWb (w + 1) (uN Wk w (1048576 * x)) := fun w x Wk hx hWb i hi => by
        by_cases e : i = w
        · rw [e, uN_s]; omega
        · rw [uN_o e]; exact hWb i (by omega)
      rcases hbp with e33 | e40
      · -- not
        obtain ⟨ok, p', k', ft, g1, g2, g3⟩ := hT ho5 hpN
        have m40 : ∀ (F n w : Nat) (Wk : Nat → Nat) (μ : zMem), 300 ≤ F → N < n + 1 + p → w ≤ p → yWb w Wk → yPM N b p o w Wk k μ → ∃ m1, (ok = true → ∃ n' f' g', N < n' + p' ∧ o + 1 < f' ∧ o + 1 < g' ∧ fX12_readsCondition_40 F (n + 1) μ = yAT F n' f' g' m1 ∧ yPM N b p' (o + 1) (w + 1) (uN Wk w (1048576 * 10)) k' m1) ∧ (ok = false → fX12_readsCondition_40 F (n + 1) μ = some (nI 0, m1) ∧ m1 60 12 = ft) ∧ frM μ m1 := by
          intro F n w Wk μ hF hn hwp hWb hP
          obtain ⟨m0, a1, a2, a3⟩ := e_mOpens_t (F := F) (x := 10) hP ho5 (by omega)
          obtain ⟨m1, b1, b2, b3⟩ := g3 F n (w + 1) (uN Wk w (1048576 * 10)) m0 hF (by omega) (by omega) (by omega) (wb w 10 Wk (by omega) hWb) (Or.inr (by rw [show w + 1 - 1 = w by omega, uN_s]; decide)) a2
          have e : fX12_readsCondition_40 F (n + 1) μ = fX12_readsCondition_40 F n m0 := by
            rw [m58 F n w Wk μ hP, if_pos e33, a1, zBd_s, if_neg (show ¬ nI 1 = 0 by decide)]
          rw [e]
          exact ⟨m1, b1, b2, a3.trans b3⟩
        have cT : ∀ (F D d : Nat) (μ : zMem), 300 ≤ F → 15 - 2 * o ≤ D + 1 → (d = 19 ∨ d = 26) → yPC N b p d k μ → ∃ m1, fGC F (D + 1) 1 (nI o) μ = zBd (some (zB ok, m1)) (fun r5 m5 => if r5 = 0 then some ((nI 0), m5) else zGb (zIsLw ((m5 18 1).toNatClampNeg)) (zBd (fX5_puts F ((m5 18 1).toNatClampNeg) (nI 33) (nI 0) m5) (fun r7 m7 => some ((nI 1), m7)))) ∧ (ok = true → yPC N b p' d k' m1) ∧ (ok = false → m1 1 3 = ft) ∧ frC d μ m1 := by
          intro F D d μ hF hD hd hP
          obtain ⟨m1, a1, a2, a3, a4⟩ := g2 F D d (zUp μ 1 2 (nI (p + 1))) hF (by omega) hd (hP.pos hd)
          refine ⟨m1, ?_, a2, a3, (frC_1 hd).trans a4⟩
          rw [c17 F D d μ hP]
          unfold fX6_readsTest_17
          rw [if_pos ((nI_ltI (by omega) (by decide)).mpr ho5), hP.1.2.1, nI_add, nI_add, e33]
          dsimp only [zLt]
          rw [if_neg (by decide), a1]
        cases ok with
        | false =>
          refine ⟨false, 0, k, ft, fun h => (by cases h), fun F D d μ hF hD hd hP => ?_, fun F n w Wk μ hF hn hwp hw1 hWb hfl hP => ?_⟩
          · obtain ⟨D, rfl⟩ : ∃ D1, D = D1 + 1 := ⟨D - 1, by omega⟩
            obtain ⟨m1, a1, a2, a3, a4⟩ := cT F D d μ hF hD hd hP
            refine ⟨m1, ?_, fun h => (by cases h), a3, a4⟩
            rw [a1, zBd_s, z_bf]
            rfl
          · obtain ⟨n, rfl⟩ : ∃ n1, n = n1 + 1 := ⟨n - 1, by omega⟩
            obtain ⟨m1, a1, a2, a3⟩ := m40 F n w Wk μ hF hn hwp hWb hP
            exact ⟨m1, fun h => (by cases h), a2, a3⟩
        | true =>
          obtain ⟨q1, q2, q3, q4, q5⟩ := g1 rfl
          have hlt := yST.lt q5
          refine ⟨true, p', kP k' 10 0, 0, fun _ => ⟨by omega, q2, q3.trans (kE_kP _ _ _), by show k'.1 + 1 + p ≤ _; omega, ?_⟩, fun F D d μ hF hD hd hP => ?_, fun F n w Wk μ hF hn hwp hw1 hWb hfl hP => ?_⟩
          · have e1 : yST (yL (kP k' 10 0)) k.1 k'.1 24 := q5.ext (fun i h1 h2 => (kE_kP k' 10 0).2 i h2)
            exact e1.not (uN_s _ _ _) (uN_s _ _ _)
          · obtain ⟨D, rfl⟩ : ∃ D1, D = D1 + 1 := ⟨D - 1, by omega⟩
            obtain ⟨m1, a1, a2, a3, a4⟩ := cT F D d μ hF hD hd hP
            have hP1 := a2 rfl
            obtain ⟨m2, b1, b2, b3⟩ := p_puts (F := F) (x := 10) (a := 0) hd hP1 (by omega)
            have b1' : fX5_puts F d (nI 33) (nI 0) m1 = some (nI k'.1, m2) := b1
            refine ⟨m2, ?_, fun _ => b2, fun h => (by cases h), a4.trans b3⟩
            rw [a1, zBd_s, z_bt, hP1.2.1, cl9 (by omega), zGb_t (lw_is hd), b1', zBd_s]
            rfl
          · obtain ⟨n, rfl⟩ : ∃ n1, n = n1 + 1 := ⟨n - 1, by omega⟩
            obtain ⟨m1, a1, a2, a3⟩ := m40 F n w Wk μ hF hn hwp hWb hP
            obtain ⟨n', f', g', c1, c2, c3, c4, c5⟩ := a1 rfl
            obtain ⟨f2, rfl⟩ : ∃ f2, f' = f2 + 1 := ⟨f' - 1, by omega⟩
            obtain ⟨m2, d1, d2, d3⟩ := ep_not (F := F) (f := f2) c5 (by omega) (wb w 10 Wk (by omega) hWb) (uN_s _ _ _) (by omega)
            refine ⟨m2, fun _ => ⟨n', f2, g', c1, by omega, by omega, ?_, d2.wk (fun i hi => (uN_o (by omega)).symm)⟩, fun h => (by cases h), a3.trans d3⟩
            rw [c4]
            unfold yAT
            rw [d1]
      · -- a condition in brackets
        obtain ⟨ok, p', k1, or1, an1, ft, g1, g2, g3⟩ := hC ho5 hpN
        have m40 : ∀ (F n w : Nat) (Wk : Nat → Nat) (μ : zMem), 300 ≤ F → N < n + 1 + p → w ≤ p → yWb w Wk → yPM N b p o w Wk k μ → ∃ m1, (ok = true → ∃ n' g', N < n' + p' ∧ o + 1 < g' ∧ fX12_readsCondition_40 F (n + 1) μ = fX12_readsCondition_92 F (fX12_readsCondition_40 F n') g' m1 ∧ yPM N b p' (o + 1) (yCn (w + 1) or1 an1) (yCk (uN Wk w (1048576 * 13)) (w + 1) or1 an1) k1 m1) ∧ (ok = false → fX12_readsCondition_40 F (n + 1) μ = some (nI 0, m1) ∧ m1 60 12 = ft) ∧ frM μ m1 := by
          intro F n w Wk μ hF hn hwp hWb hP
          obtain ⟨m0, a1, a2, a3⟩ := e_mOpens_t (F := F) (x := 13) hP ho5 (by omega)
          obtain ⟨m1, b1, b2, b3⟩ := g3 F n (w + 1) (uN Wk w (1048576 * 13)) m0 hF (by omega) (by show w + 1 + 0 + 0 ≤ _; omega) (by omega) (wb w 13 Wk (by omega) hWb) (by rw [show w + 1 - 1 = w by omega, uN_s]) (a2.wk (fun i hi => yCk_in hi))
          have e : fX12_readsCondition_40 F (n + 1) μ = fX12_readsCondition_40 F n m0 := by
            rw [m58 F n w Wk μ hP, if_neg (by rw [e40]; decide), a1, zBd_s, if_neg (show ¬ nI 1 = 0 by decide)]
          rw [e]
          exact ⟨m1, b1, b2, a3.trans b3⟩
        have cT : ∀ (F D d : Nat) (μ : zMem), 300 ≤ F → 15 - 2 * o ≤ D + 1 → (d = 19 ∨ d = 26) → yPC N b p d k μ → ∃ m1, fGC F (D + 1) 1 (nI o) μ = zBd (some (zB ok, m1)) (fun r3 m3 => if r3 = 0 then some ((nI 0), m3) else zBd (fX9_needs F (nI 41) m3) (fun r4 m4 => if r4 = 0 then some ((nI 0), m4) else some ((nI 1), m4))) ∧ (ok = true → yPC N b p' d (yLand (yLand k1 an1) or1) m1) ∧ (ok = false → m1 1 3 = ft) ∧ frC d μ m1 := by
          intro F D d μ hF hD hd hP
          obtain ⟨D, rfl⟩ : ∃ D1, D = D1 + 1 := ⟨D - 1, by omega⟩
          obtain ⟨m1, a1, a2, a3, a4⟩ := g2 F D d F 0 (zUp μ 1 2 (nI (p + 1))) hF (by omega) (by omega) (by omega) hd (hP.pos hd)
          refine ⟨m1, ?_, a2, a3, (frC_1 hd).trans a4⟩
          rw [c17 F (D + 1) d μ hP]
          unfold fX6_readsTest_17
          rw [if_pos ((nI_ltI (by omega) (by decide)).mpr ho5), hP.1.2.1, nI_add, nI_add, e40]
          dsimp only [zLt]
          have e2 : fGC F (D + 1) 0 (nI (o + 1)) (zUp μ 1 2 (nI (p + 1))) = some (zB ok, m1) := by
            rw [fGC, if_pos rfl]
            exact a1
          rw [if_pos rfl, e2]
        cases ok with
        | false =>
          refine ⟨false, 0, k, ft, fun h => (by cases h), fun F D d μ hF hD hd hP => ?_, fun F n w Wk μ hF hn hwp hw1 hWb hfl hP => ?_⟩
          · obtain ⟨D, rfl⟩ : ∃ D1, D = D1 + 1 := ⟨D - 1, by omega⟩
            obtain ⟨m1, a1, a2, a3, a4⟩ := cT F D d μ hF hD hd hP
            refine ⟨m1, ?_, fun h => (by cases h), a3, a4⟩
            rw [a1, zBd_s, z_bf]
            rfl
          · obtain ⟨n, rfl⟩ : ∃ n1, n = n1 + 1 := ⟨n - 1, by omega⟩
            obtain ⟨m1, a1, a2, a3⟩ := m40 F n w Wk μ hF hn hwp hWb hP
            exact ⟨m1, fun h => (by cases h), a2, a3⟩
        | true =>
          obtain ⟨q1, q2, q3, q4, q5, q6, q7, q8, q9, q10⟩ := g1 rfl
          have hk' : (yLand (yLand k1 an1) or1).1 = k1.1 := by rw [yLand_1, yLand_1]
          by_cases h41 : p' < N ∧ b p' = 41
          · refine ⟨true, p' + 1, yLand (yLand k1 an1) or1, 0, fun _ => ⟨by omega, by omega, ⟨by omega, q9⟩, by omega, by rw [hk']; exact q10⟩, fun F D d μ hF hD hd hP => ?_, fun F n w Wk μ hF hn hwp hw1 hWb hfl hP => ?_⟩
            · obtain ⟨D, rfl⟩ : ∃ D1, D = D1 + 1 := ⟨D - 1, by omega⟩
              obtain ⟨m1, a1, a2, a3, a4⟩ := cT F D d μ hF hD hd hP
              refine ⟨zUp m1 1 2 (nI (p' + 1)), ?_, fun _ => (a2 rfl).pos hd, fun h => (by cases h), a4.trans (frC_1 hd)⟩
              rw [a1, zBd_s, z_bt, e_needs_t (a2 rfl).1 (by omega) h41.1 h41.2, zBd_s, if_neg (show ¬ nI 1 = 0 by decide)]
              rfl
            · obtain ⟨n, rfl⟩ : ∃ n1, n = n1 + 1 := ⟨n - 1, by omega⟩
              obtain ⟨m1, a1, a2, a3⟩ := m40 F n w Wk μ hF hn hwp hWb hP
              obtain ⟨n', g', c1, c2, c3, c4⟩ := a1 rfl
              obtain ⟨g2', rfl⟩ : ∃ g2', g' = g2' + 1 := ⟨g' - 1, by omega⟩
              obtain ⟨m2, d1, d2, d3⟩ := ld_all (F := F) (by omega) c4 (by omega) (by omega) (wb w 13 Wk (by omega) hWb) (by rw [show w + 1 - 1 = w by omega, uN_s]) (by omega) q5 q6 q7
              have e1 := (d2.pop (show w ≤ w + 1 by omega)).wk (Wk2 := Wk) (fun i hi => (uN_o (by omega)).symm)
              have e2 := e1.opn (o' := o)
              have e3 := e2.pos (q := p' + 1)
              refine ⟨_, fun _ => ⟨n', F, g2', by omega, by omega, by omega, ?_, e3⟩, fun h => (by cases h), (a3.trans d3).trans (((frM_60 (by omega)).trans (frM_60 (by omega))).trans (frM_60 (by omega)))⟩
              rw [c3, fX12_readsCondition_92, e_here c4.1 (by omega) (by omega), zBd_s, ySg_in h41.1, h41.2, if_pos rfl, d1, zBd_s]
              dsimp only [zLt]
              rw [d2.2.2.1, pk_sub (by omega), show w + 1 - 1 = w by omega, e1.2.1, pk_sub (by omega), show o + 1 - 1 = o by omega, e2.1.2.1, nI_add, e3.2.2.1, if_neg (nI_ne0 (by omega) (by omega))]
              rfl
          · refine ⟨false, 0, k, yFt 1 p', fun h => (by cases h), fun F D d μ hF hD hd hP => ?_, fun F n w Wk μ hF hn hwp hw1 hWb hfl hP => ?_⟩
            · obtain ⟨D, rfl⟩ : ∃ D1, D = D1 + 1 := ⟨D - 1, by omega⟩
              obtain ⟨m1, a1, a2, a3, a4⟩ := cT F D d μ hF hD hd hP
              refine ⟨zUp m1 1 3 (yFt 1 p'), ?_, fun h => (by cases h), fun _ => zUp_s _ _ _ _, a4.trans (frC_1 hd)⟩
              rw [a1, zBd_s, z_bt, e_needs_f (a2 rfl).1 (by omega) (by omega) (hb _) (by decide) h41, zBd_s, if_pos (show nI 0 = 0 from rfl)]
              rfl
            · obtain ⟨n, rfl⟩ : ∃ n1, n = n1 + 1 := ⟨n - 1, by omega⟩
              obtain ⟨m1, a1, a2, a3⟩ := m40 F n w Wk μ hF hn hwp hWb hP
              obtain ⟨n', g', c1, c2, c3, c4⟩ := a1 rfl
              obtain ⟨g2', rfl⟩ : ∃ g2', g' = g2' + 1 := ⟨g' - 1, by omega⟩
              refine ⟨zUp m1 60 12 (yFt 1 p'), fun h => (by cases h), fun _ => ⟨?_, zUp_s _ _ _ _⟩, a3.trans (frM_60 (by omega))⟩
              rw [c3, fX12_readsCondition_92, e_here c4.1 (by omega) (by omega), zBd_s, if_neg (fun z => h41 ((ySg_eq (hb p') (by decide)).mp z)), e_here c4.1 (by omega) (by omega), zBd_s, if_neg (fun z => by obtain ⟨z1, z2⟩ := (ySg_eq (hb p') (by decide)).mp z; exact (q8 z1).1 z2), e_here c4.1 (by omega) (by omega), zBd_s, if_neg (fun z => by obtain ⟨z1, z2⟩ := (ySg_eq (hb p') (by decide)).mp z; exact (q8 z1).2 z2), c4.1.2.1, e_wrongAt, zBd_s, zGb0]
  · -- two values compared
    have n33 : ¬ ySg N b p = nI 33 := fun z => by obtain ⟨z1, z2⟩ := (ySg_eq (hb p) (by decide)).mp z; exact hop ⟨z1, Or.inl z2⟩
    have n40 : ¬ ySg N b p = nI 40 := fun z => by obtain ⟨z1, z2⟩ := (ySg_eq (hb p) (by decide)).mp z; exact hop ⟨z1, Or.inr z2⟩
    obtain ⟨ok1, p1, k1, ft1, g1, g2, g3⟩ := sum_ex hN hb hp ho hk
    have cV : ∀ (F D d : Nat) (μ : zMem), 300 ≤ F → 15 - 2 * o ≤ D + 1 → (d = 19 ∨ d = 26) → yPC N b p d k μ → ∃ m1, fGC F (D + 1) 1 (nI o) μ = zBd (some (zB ok1, m1)) (fun r2 m2 => if r2 = 0 then some ((nI 0), m2) else zBd (fX9_sign F m2) (fun r3 m3 => if r3 = (nI 60) then fX6_readsTest_141 F (fGC F D 0) (fGC F D 1) (fGC F D 2) (fGC F D 3) (nI o) r3 m3 else if r3 = (nI 62) then fX6_readsTest_141 F (fGC F D 0) (fGC F D 1) (fGC F D 2) (fGC F D 3) (nI o) r3 m3 else if r3 = (nI 61) then fX6_readsTest_141 F (fGC F D 0) (fGC F D 1) (fGC F D 2) (fGC F D 3) (nI o) r3 m3 else zBd (fX9_fails F (nI 1) m3) (fun r4 m4 => zGb (decide (r4 = 0 ∨ r4 = 1)) (some (r4, m4))))) ∧ (ok1 = true → yPC N b p1 d k1 m1) ∧ (ok1 = false → m1 1 3 = ft1) ∧ frC d μ m1 := by
      intro F D d μ hF hD hd hP
      obtain ⟨m1, a1, a2, a3, a4⟩ := g2 F D d μ hF (by omega) hd hP
      refine ⟨m1, ?_, a2, a3, a4⟩
      rw [fGC, if_neg (by decide), if_pos rfl]
      unfold bX6_readsTest
      rw [e_sign hP.1 (by omega) (by omega), zBd_s, if_neg n33, if_neg n40, a1]
    have mV : ∀ (F n w : Nat) (Wk : Nat → Nat) (μ : zMem), 300 ≤ F → w ≤ p → yWb w Wk → yFl w Wk → yPM N b p o w Wk k μ → ∃ m1, fX12_readsCondition_40 F (n + 1) μ = zBd (zBd (some (zB ok1, m1)) (fun r1 m1 => if r1 = 0 then some ((nI 0), m1) else zBd (fX12_here F m1) (fun r2 m2 => if r2 = (nI 60) then fX12_readsCompared_52 F (nI 7) m2 else zBd (fX12_here F m2) (fun r3 m3 => if r3 = (nI 62) then fX12_readsCompared_52 F (nI 8) m3 else zBd (fX12_here F m3) (fun r4 m4 => if r4 = (nI 61) then fX12_readsCompared_52 F (nI 9) m4 else fX12_readsCompared_52 F (-1 : Int32) m4))))) (fun r3 m3 => if r3 = 0 then some ((nI 0), m3) else fX12_readsCondition_92 F (fX12_readsCondition_40 F n) F m3) ∧ (ok1 = true → yPM N b p1 o w Wk k1 m1) ∧ (ok1 = false → m1 60 12 = ft1) ∧ frM μ m1 := by
      intro F n w Wk μ hF hwp hWb hfl hP
      obtain ⟨m1, a1, a2, a3, a4⟩ := g3 F w Wk μ hF hwp hWb hfl hP
      refine ⟨m1, ?_, a2, a3, a4⟩
      rw [fX12_readsCondition_40, e_here hP.1 (by omega) (by omega), zBd_s, if_neg n33, e_here hP.1 (by omega) (by omega), zBd_s, if_neg n40]
      unfold fX12_readsCompared
      rw [a1]
    cases ok1 with
    | false =>
      refine ⟨false, 0, k, ft1, fun h => (by cases h), fun F D d μ hF hD hd hP => ?_, fun F n w Wk μ hF hn hwp hw1 hWb hfl hP => ?_⟩
      · obtain ⟨D, rfl⟩ : ∃ D1, D = D1 + 1 := ⟨D - 1, by omega⟩
        obtain ⟨m1, a1, a2, a3, a4⟩ := cV F D d μ hF hD hd hP
        refine ⟨m1, ?_, fun h => (by cases h), a3, a4⟩
        rw [a1, zBd_s, z_bf]
        rfl
      · obtain ⟨n, rfl⟩ : ∃ n1, n = n1 + 1 := ⟨n - 1, by omega⟩
        obtain ⟨m1, a1, a2, a3, a4⟩ := mV F n w Wk μ hF hwp hWb hfl hP
        refine ⟨m1, fun h => (by cases h), fun _ => ⟨?_, a3 rfl⟩, a4⟩
        rw [a1, zBd_s, z_bf, zBd_s, if_pos (show nI 0 = 0 from rfl)]
    | true =>
      obtain ⟨q1, q2, q3, q4, q5⟩ := g1 rfl
      by_cases hcmp : p1 < N ∧ (b p1 = 60 ∨ b p1 = 62 ∨ b p1 = 61)
      · obtain ⟨hp1, hc⟩ := hcmp
        obtain ⟨op, hop9, hopc⟩ : ∃ op, (7 ≤ op ∧ op ≤ 9) ∧ b p1 = zSign op := by
          rcases hc with e | e | e
          · exact ⟨7, by omega, by rw [e]; rfl⟩
          · exact ⟨8, by omega, by rw [e]; rfl⟩
          · exact ⟨9, by omega, by rw [e]; rfl⟩
        obtain ⟨ok2, p2, k2, ft2, h1, h2, h3⟩ := sum_ex hN hb (p := p1 + 1) (o := o) (k := k1) (by omega) ho (by omega)
        have cV2 : ∀ (F D d : Nat) (μ : zMem), 300 ≤ F → 15 - 2 * o ≤ D + 1 → (d = 19 ∨ d = 26) → yPC N b p d k μ → ∃ m3, fGC F (D + 1) 1 (nI o) μ = zBd (some (zB ok2, m3)) (fun r3 m3 => if r3 = 0 then some ((nI 0), m3) else zGb (zIsLw ((m3 18 1).toNatClampNeg)) (zBd (fX5_puts F ((m3 18 1).toNatClampNeg) (nI (zSign op)) (nI 0) m3) (fun r5 m5 => some ((nI 1), m5)))) ∧ (ok2 = true → yPC N b p2 d k2 m3) ∧ (ok2 = false → m3 1 3 = ft2) ∧ frC d μ m3 := by
          intro F D d μ hF hD hd hP
          obtain ⟨m1, a1, a2, a3, a4⟩ := cV F D d μ hF hD hd hP
          have hP1 := a2 rfl
          obtain ⟨m3, b1, b2, b3, b4⟩ := h2 F D d (zUp m1 1 2 (nI (p1 + 1))) hF (by omega) hd (hP1.pos hd)
          refine ⟨m3, ?_, b2, b3, (a4.trans (frC_1 hd)).trans b4⟩
          have k141 : fX6_readsTest_141 F (fGC F D 0) (fGC F D 1) (fGC F D 2) (fGC F D 3) (nI o) (nI (b p1)) m1 = zBd (some (zB ok2, m3)) (fun r3 m3 => if r3 = 0 then some ((nI 0), m3) else zGb (zIsLw ((m3 18 1).toNatClampNeg)) (zBd (fX5_puts F ((m3 18 1).toNatClampNeg) (nI (zSign op)) (nI 0) m3) (fun r5 m5 => some ((nI 1), m5)))) := by
            unfold fX6_readsTest_141
            rw [hP1.1.2.1, nI_add]
            dsimp only [zLt]
            rw [b1, hopc]
          rw [a1, zBd_s, z_bt, e_sign hP1.1 (by omega) (by omega), zBd_s, ySg_in hp1, k141]
          rcases hc with e | e | e
          · rw [if_pos (by rw [e])]
          · rw [if_neg (by rw [e]; decide), if_pos (by rw [e])]
          · rw [if_neg (by rw [e]; decide), if_neg (by rw [e]; decide), if_pos (by rw [e])]
        have mV2 : ∀ (F n w : Nat) (Wk : Nat → Nat) (μ : zMem), 300 ≤ F → w ≤ p → yWb w Wk → yFl w Wk → yPM N b p o w Wk k μ → ∃ m5, fX12_readsCondition_40 F (n + 1) μ = zBd (zBd (some (zB ok2, m5)) (fun r5 m5 => if r5 = 0 then some ((nI 0), m5) else zBd (fX12_notes F (nI op) (nI 0) m5) (fun r6 m6 => zBd (fX12_endsPiece F m6) (fun r7 m7 => some ((nI 1), m7))))) (fun r3 m3 => if r3 = 0 then some ((nI 0), m3) else fX12_readsCondition_92 F (fX12_readsCondition_40 F n) F m3) ∧ (ok2 = true → yPM N b p2 o w Wk k2 m5) ∧ (ok2 = false → m5 60 12 = ft2) ∧ frM μ m5 := by
          intro F n w Wk μ hF hwp hWb hfl hP
          obtain ⟨m1, a1, a2, a3, a4⟩ := mV F n w Wk μ hF hwp hWb hfl hP
          have hP1 := a2 rfl
          obtain ⟨m5, b1, b2, b3, b4⟩ := h3 F w Wk (zUp m1 60 10 (nI (p1 + 1))) hF (by omega) hWb hfl hP1.pos
          refine ⟨m5, ?_, b2, b3, (a4.trans (frM_60 (by omega))).trans b4⟩
          have k52 : fX12_readsCompared_52 F (nI op) m1 = zBd (some (zB ok2, m5)) (fun r5 m5 => if r5 = 0 then some ((nI 0), m5) else zBd (fX12_notes F (nI op) (nI 0) m5) (fun r6 m6 => zBd (fX12_endsPiece F m6) (fun r7 m7 => some ((nI 1), m7)))) := by
            unfold fX12_readsCompared_52
            rw [if_neg (nI_m1 (by omega)), hP1.1.2.1, nI_add]
            dsimp only [zLt]
            rw [b1]
          rw [a1, zBd_s, z_bt, e_here hP1.1 (by omega) (by omega), zBd_s, ySg_in hp1]
          have hz : ∀ a, a < 256 → ∀ c, c < 256 → (nI a = nI c ↔ a = c) := fun a ha c hc => nI_eq (by omega) (by omega)
          rcases hc with e | e | e
          · have : op = 7 := by rcases (show op = 7 ∨ op = 8 ∨ op = 9 by omega) with z | z | z <;> subst z <;> first | rfl | (rw [e] at hopc; exact absurd hopc (by decide))
            subst this
            rw [if_pos (by rw [e]), k52]
          · have : op = 8 := by rcases (show op = 7 ∨ op = 8 ∨ op = 9 by omega) with z | z | z <;> subst z <;> first | rfl | (rw [e] at hopc; exact absurd hopc (by decide))
            subst this
            rw [if_neg (by rw [e]; decide), e_here hP1.1 (by omega) (by omega), zBd_s, ySg_in hp1, if_pos (by rw [e]), k52]
          · have : op = 9 := by rcases (show op = 7 ∨ op = 8 ∨ op = 9 by omega) with z | z | z <;> subst z <;> first | rfl | (rw [e] at hopc; exact absurd hopc (by decide))
            subst this
            rw [if_neg (by rw [e]; decide), e_here hP1.1 (by omega) (by omega), zBd_s, ySg_in hp1, if_neg (by rw [e]; decide), e_here hP1.1 (by omega) (by omega), zBd_s, ySg_in hp1, if_pos (by rw [e]), k52]
        cases ok2 with
        | false =>
          refine ⟨false, 0, k, ft2, fun h => (by cases h), fun F D d μ hF hD hd hP => ?_, fun F n w Wk μ hF hn hwp hw1 hWb hfl hP => ?_⟩
          · obtain ⟨D, rfl⟩ : ∃ D1, D = D1 + 1 := ⟨D - 1, by omega⟩
            obtain ⟨m1, a1, a2, a3, a4⟩ := cV2 F D d μ hF hD hd hP
            refine ⟨m1, ?_, fun h => (by cases h), a3, a4⟩
            rw [a1, zBd_s, z_bf]
            rfl
          · obtain ⟨n, rfl⟩ : ∃ n1, n = n1 + 1 := ⟨n - 1, by omega⟩
            obtain ⟨m1, a1, a2, a3, a4⟩ := mV2 F n w Wk μ hF hwp hWb hfl hP
            refine ⟨m1, fun h => (by cases h), fun _ => ⟨?_, a3 rfl⟩, a4⟩
            rw [a1, zBd_s, z_bf, zBd_s, if_pos (show nI 0 = 0 from rfl)]
        | true =>
          obtain ⟨r1, r2, r3, r4, r5⟩ := h1 rfl
          have hl1 := (ySV.lt q5).1
          have hl2 := (ySV.lt r5).1
          refine ⟨true, p2, kP k2 op 0, 0, fun _ => ⟨by omega, r2, (q3.trans r3).trans (kE_kP _ _ _), by show k2.1 + 1 + p ≤ _; omega, ?_⟩, fun F D d μ hF hD hd hP => ?_, fun F n w Wk μ hF hn hwp hw1 hWb hfl hP => ?_⟩
          · have e1 : ySV (yL (kP k2 op 0)) k.1 k1.1 24 := ((q5.kE r3 (Nat.le_refl _)).kE (kE_kP k2 op 0) r3.1).mono (by omega)
            have e2 : ySV (yL (kP k2 op 0)) k1.1 k2.1 23 := (r5.kE (kE_kP k2 op 0) (Nat.le_refl _)).mono (by omega)
            have o1 : lO (yL (kP k2 op 0)) k2.1 = op := uN_s _ _ _
            have o2 : lA (yL (kP k2 op 0)) k2.1 = 0 := uN_s _ _ _
            exact yST.cmp e1 e2 (by omega) (by rw [o1]; omega) (by rw [o1]; omega) o2
          · obtain ⟨D, rfl⟩ : ∃ D1, D = D1 + 1 := ⟨D - 1, by omega⟩
            obtain ⟨m3, a1, a2, a3, a4⟩ := cV2 F D d μ hF hD hd hP
            have hP3 := a2 rfl
            obtain ⟨m4, b1, b2, b3⟩ := p_puts (F := F) (x := op) (a := 0) hd hP3 (by omega)
            refine ⟨m4, ?_, fun _ => b2, fun h => (by cases h), a4.trans b3⟩
            rw [a1, zBd_s, z_bt, hP3.2.1, cl9 (by omega), zGb_t (lw_is hd), b1, zBd_s]
            rfl
          · obtain ⟨n, rfl⟩ : ∃ n1, n = n1 + 1 := ⟨n - 1, by omega⟩
            obtain ⟨m5, a1, a2, a3, a4⟩ := mV2 F n w Wk μ hF hwp hWb hfl hP
            have hP5 := a2 rfl
            obtain ⟨m6, b1, b2, b3⟩ := p_notes (F := F) (x := op) (a := 0) hP5 (by omega)
            refine ⟨m6, fun _ => ⟨n, F, F, by omega, by omega, by omega, ?_, b2⟩, fun h => (by cases h), a4.trans b3⟩
            rw [a1, zBd_s, z_bt, b1, zBd_s, zBd_as]
            unfold yAT
            rfl
      · refine ⟨false, 0, k, yFt 1 p1, fun h => (by cases h), fun F D d μ hF hD hd hP => ?_, fun F n w Wk μ hF hn hwp hw1 hWb hfl hP => ?_⟩
        · obtain ⟨D, rfl⟩ : ∃ D1, D = D1 + 1 := ⟨D - 1, by omega⟩
          obtain ⟨m1, a1, a2, a3, a4⟩ := cV F D d μ hF hD hd hP
          have hP1 := a2 rfl
          have nn : ∀ c, c < 256 → (p1 < N → b p1 ≠ c) → ¬ ySg N b p1 = nI c := fun c hc h z => by
            obtain ⟨z1, z2⟩ := (ySg_eq (hb p1) hc).mp z
            exact h z1 z2
          refine ⟨zUp m1 1 3 (yFt 1 p1), ?_, fun h => (by cases h), fun _ => zUp_s _ _ _ _, a4.trans (frC_1 hd)⟩
          rw [a1, zBd_s, z_bt, e_sign hP1.1 (by omega) (by omega), zBd_s, if_neg (nn 60 (by decide) (fun h e => hcmp ⟨h, Or.inl e⟩)), if_neg (nn 62 (by decide) (fun h e => hcmp ⟨h, Or.inr (Or.inl e)⟩)), if_neg (nn 61 (by decide) (fun h e => hcmp ⟨h, Or.inr (Or.inr e)⟩)), e_fails hP1.1, zBd_s, zGb0]
          rfl
        · obtain ⟨n, rfl⟩ : ∃ n1, n = n1 + 1 := ⟨n - 1, by omega⟩
          obtain ⟨m1, a1, a2, a3, a4⟩ := mV F n w Wk μ hF hwp hWb hfl hP
          have hP1 := a2 rfl
          have nn : ∀ c, c < 256 → (p1 < N → b p1 ≠ c) → ¬ ySg N b p1 = nI c := fun c hc h z => by
            obtain ⟨z1, z2⟩ := (ySg_eq (hb p1) hc).mp z
            exact h z1 z2
          refine ⟨zUp m1 60 12 (yFt 1 p1), fun h => (by cases h), fun _ => ⟨?_, zUp_s _ _ _ _⟩, a4.trans (frM_60 (by omega))⟩
          rw [a1, zBd_s, z_bt, e_here hP1.1 (by omega) (by omega), zBd_s, if_neg (nn 60 (by decide) (fun h e => hcmp ⟨h, Or.inl e⟩)), e_here hP1.1 (by omega) (by omega), zBd_s, if_neg (nn 62 (by decide) (fun h e => hcmp ⟨h, Or.inr (Or.inl e)⟩)), e_here hP1.1 (by omega) (by omega), zBd_s, if_neg (nn 61 (by decide) (fun h e => hcmp ⟨h, Or.inr (Or.inr e)⟩))]
          unfold fX12_readsCompared_52
          rw [if_pos rfl, hP1.1.2.1, e_wrongAt, zBd_s, zGb0, zBd_s, if_pos (show nI 0 = 0 from rfl)]
