/-! ===== one code of the reference; pieces of the law ===== -/
theorem m_dec {o a : Nat} (ho : o ≤ 12) (ha : a < 1048576) : nI (1048576 * o + a) / nI 1048576 = nI o ∧ nI (1048576 * o + a) % nI 1048576 = nI a := by
  refine ⟨?_, ?_⟩
  · rw [pk_div (by omega) (by decide) (by decide)]; congr 1; omega
  · rw [nI_mod (by omega) (by decide) (by decide)]; congr 1; omega
theorem nI_subN {a b : Nat} (h : b ≤ a) : nI a - nI b = nI (a - b) := pk_sub h
theorem m_at {F f E p : Nat} {v3 : Int32} {l : zLS} {μ : zMem} (hl : yLM l μ) (hp : p < E) (hE : E ≤ lN0 l) (hN : lN0 l ≤ 240) (ho : lO l p ≤ 12) (ha : lA l p < 1048576) : fX12_reckonsTo_16 F (f + 1) (nI E) v3 (nI 0) (nI p) μ = (if nI (lO l p) = 0 then fX12_reckonsTo_63 F (fX12_reckonsTo_16 F f) (nI E) v3 (nI 0) (nI p + (nI 1)) (nI (lO l p)) (nI (lA l p)) μ else if nI (lO l p) = (nI 1) then fX12_reckonsTo_63 F (fX12_reckonsTo_16 F f) (nI E) v3 (nI 0) (nI p + (nI 1)) (nI (lO l p)) (nI (lA l p)) μ else if nI (lO l p) = (nI 10) then zG (v3 - (nI 1)) 260 (zG (v3 - (nI 1)) 260 (zLt (zUp μ 80 (v3 - (nI 1)).toNatClampNeg ((nI 1) - (μ 80 (v3 - (nI 1)).toNatClampNeg))) (fun m6 => fX12_reckonsTo_16 F f (nI E) v3 (nI 0) (nI p + (nI 1)) m6))) else if nI (lO l p) = (nI 11) then fX12_reckonsTo_135 F (fX12_reckonsTo_16 F f) (nI E) v3 (nI 0) (nI p + (nI 1)) (nI (lO l p)) (nI (lA l p)) μ else if nI (lO l p) = (nI 12) then fX12_reckonsTo_135 F (fX12_reckonsTo_16 F f) (nI E) v3 (nI 0) (nI p + (nI 1)) (nI (lO l p)) (nI (lA l p)) μ else if nI (lO l p) = (nI 5) then fX12_reckonsTo_192 F (fX12_reckonsTo_16 F f) (nI E) (v3 - (nI 1)) (nI 0) (nI p + (nI 1)) (nI (lO l p)) μ else if nI (lO l p) = (nI 6) then fX12_reckonsTo_192 F (fX12_reckonsTo_16 F f) (nI E) (v3 - (nI 1)) (nI 0) (nI p + (nI 1)) (nI (lO l p)) μ else fX12_reckonsTo_203 F (fX12_reckonsTo_16 F f) (nI E) (v3 - (nI 1)) (nI 0) (nI p + (nI 1)) (nI (lO l p)) μ) := by
  have a1 := hl p (by omega)
  have hz : ¬ nI 1048576 = 0 := by decide
  obtain ⟨d1, d2⟩ := m_dec ho ha
  rw [fX12_reckonsTo_16, z_more hp (by omega), zG_in rfl (by omega) (by decide), zGz_in hz, zG_in rfl (by omega) (by decide), zGz_in hz, nI_clamp (by omega), a1, d1, d2]
theorem m_push {F f E p n : Nat} {l : zLS} {fv : Nat → Int32} {μ : zMem} (hl : yLM l μ) (hp : p < E) (hE : E ≤ lN0 l) (hN : lN0 l ≤ 240) (hn : n < 24) (hf : ∀ j, j < 9 → μ 81 j = fv j) (ho : (lO l p = 0 ∧ lA l p < 100000) ∨ (lO l p = 1 ∧ lA l p < 9)) : fX12_reckonsTo_16 F (f + 1) (nI E) (nI n) (nI 0) (nI p) μ = fX12_reckonsTo_16 F f (nI E) (nI (n + 1)) (nI 0) (nI (p + 1)) (zUp μ 80 n (if lO l p = 0 then nI (lA l p) else fv (lA l p))) := by
  rw [m_at hl hp hE hN (by omega) (by omega)]
  unfold fX12_reckonsTo_63
  rcases ho with ⟨ho, ha⟩ | ⟨ho, ha⟩
  · rw [ho, if_pos (show nI 0 = 0 from rfl), if_pos (show nI 0 = 0 from rfl), if_pos rfl, zG_in rfl (by omega) (by decide), nI_clamp (by omega), nI_add, nI_add]
    rfl
  · rw [ho, if_neg (show ¬ nI 1 = 0 by decide), if_neg (show ¬ nI 1 = 0 by decide), if_pos rfl, if_neg (show ¬ (1 : Nat) = 0 by decide), zG_in rfl ha (by decide), zG_in rfl (by omega) (by decide), nI_clamp (by omega), nI_clamp (by omega), hf _ ha, nI_add, nI_add]
    rfl
theorem m_op {F f E p n : Nat} {l : zLS} {μ : zMem} (hl : yLM l μ) (hp : p < E) (hE : E ≤ lN0 l) (hN : lN0 l ≤ 240) (hn : n + 1 < 24) (h1 : 2 ≤ lO l p) (h2 : lO l p ≤ 9) (ha : lA l p = 0) : fX12_reckonsTo_16 F (f + 1) (nI E) (nI (n + 2)) (nI 0) (nI p) μ = if yBad (lO l p) (μ 80 (n + 1)) = true then some (nI 0, μ) else fX12_reckonsTo_16 F f (nI E) (nI (n + 1)) (nI 0) (nI (p + 1)) (zUp μ 80 n (yBin (lO l p) (μ 80 n) (μ 80 (n + 1)))) := by
  have e1 : nI (n + 2) - nI 1 = nI (n + 1) := nI_subN (by omega)
  have e2 : nI (n + 1) - nI 1 = nI n := nI_subN (by omega)
  have k203 : yBad (lO l p) (μ 80 (n + 1)) = false → fX12_reckonsTo_203 F (fX12_reckonsTo_16 F f) (nI E) (nI (n + 1)) (nI 0) (nI (p + 1)) (nI (lO l p)) μ = fX12_reckonsTo_16 F f (nI E) (nI (n + 1)) (nI 0) (nI (p + 1)) (zUp μ 80 n (yBin (lO l p) (μ 80 n) (μ 80 (n + 1)))) := by
    intro hb
    unfold fX12_reckonsTo_203
    rw [e2, zG_in rfl (by omega) (by decide), zG_in rfl (by omega) (by decide), nI_clamp (by omega), nI_clamp (by omega), e_reckon h1 h2 hb, zBd_s, zG_in rfl (by omega) (by decide)]
    rfl
  have k192 : (lO l p = 5 ∨ lO l p = 6) → fX12_reckonsTo_192 F (fX12_reckonsTo_16 F f) (nI E) (nI (n + 1)) (nI 0) (nI (p + 1)) (nI (lO l p)) μ = if yBad (lO l p) (μ 80 (n + 1)) = true then some (nI 0, μ) else fX12_reckonsTo_16 F f (nI E) (nI (n + 1)) (nI 0) (nI (p + 1)) (zUp μ 80 n (yBin (lO l p) (μ 80 n) (μ 80 (n + 1)))) := by
    intro h56
    unfold fX12_reckonsTo_192
    rw [zG_in rfl (by omega) (by decide), nI_clamp (by omega)]
    by_cases hy : μ 80 (n + 1) = 0
    · have : yBad (lO l p) (μ 80 (n + 1)) = true := by
        unfold yBad
        rw [decide_eq_true hy]
        rcases h56 with h | h <;> rw [h] <;> rfl
      rw [if_pos hy, if_pos this]
    · have : yBad (lO l p) (μ 80 (n + 1)) = false := by
        unfold yBad
        rw [decide_eq_false hy, Bool.and_false]
      rw [if_neg hy, this, if_neg (by decide)]
      exact k203 this
  rw [m_at hl hp hE hN (by omega) (by omega), e1, nI_add]
  rw [if_neg (show ¬ nI (lO l p) = 0 by rw [nI_z (by omega)]; omega), if_neg (show ¬ nI (lO l p) = nI 1 by rw [nI_eq (by omega) (by decide)]; omega), if_neg (show ¬ nI (lO l p) = nI 10 by rw [nI_eq (by omega) (by decide)]; omega), if_neg (show ¬ nI (lO l p) = nI 11 by rw [nI_eq (by omega) (by decide)]; omega), if_neg (show ¬ nI (lO l p) = nI 12 by rw [nI_eq (by omega) (by decide)]; omega)]
  by_cases h5 : lO l p = 5
  · rw [if_pos (show nI (lO l p) = nI 5 by rw [h5])]
    exact k192 (Or.inl h5)
  · rw [if_neg (show ¬ nI (lO l p) = nI 5 by rw [nI_eq (by omega) (by decide)]; exact h5)]
    by_cases h6 : lO l p = 6
    · rw [if_pos (show nI (lO l p) = nI 6 by rw [h6])]
      exact k192 (Or.inr h6)
    · rw [if_neg (show ¬ nI (lO l p) = nI 6 by rw [nI_eq (by omega) (by decide)]; exact h6)]
      have hb : yBad (lO l p) (μ 80 (n + 1)) = false := by
        unfold yBad
        rw [decide_eq_false h5, decide_eq_false h6]
        rfl
      rw [hb, if_neg (by decide)]
      exact k203 hb
theorem m_not {F f E p n : Nat} {l : zLS} {μ : zMem} (hl : yLM l μ) (hp : p < E) (hE : E ≤ lN0 l) (hN : lN0 l ≤ 240) (hn : n < 24) (ho : lO l p = 10) (ha : lA l p = 0) : fX12_reckonsTo_16 F (f + 1) (nI E) (nI (n + 1)) (nI 0) (nI p) μ = fX12_reckonsTo_16 F f (nI E) (nI (n + 1)) (nI 0) (nI (p + 1)) (zUp μ 80 n (nI 1 - μ 80 n)) := by
  have e2 : nI (n + 1) - nI 1 = nI n := nI_subN (by omega)
  rw [m_at hl hp hE hN (by omega) (by omega), ho, if_neg (show ¬ nI 10 = 0 by decide), if_neg (show ¬ nI 10 = nI 1 by decide), if_pos rfl, e2, zG_in rfl (by omega) (by decide), zG_in rfl (by omega) (by decide), nI_clamp (by omega), nI_add]
  rfl
theorem m_jmp {F f E p n : Nat} {l : zLS} {μ : zMem} (hl : yLM l μ) (hp : p < E) (hE : E ≤ lN0 l) (hN : lN0 l ≤ 240) (hn : n < 24) (ho : lO l p = 11 ∨ lO l p = 12) (ha : lA l p ≤ 240) (hv : μ 80 n = nI 0 ∨ μ 80 n = nI 1) : fX12_reckonsTo_16 F (f + 1) (nI E) (nI (n + 1)) (nI 0) (nI p) μ = if (decide (μ 80 n = 0) == decide (lO l p = 11)) = true then fX12_reckonsTo_16 F f (nI E) (nI (n + 1)) (nI 0) (nI (lA l p)) μ else fX12_reckonsTo_16 F f (nI E) (nI n) (nI 0) (nI (p + 1)) μ := by
  have e2 : nI (n + 1) - nI 1 = nI n := nI_subN (by omega)
  have k135 : fX12_reckonsTo_135 F (fX12_reckonsTo_16 F f) (nI E) (nI (n + 1)) (nI 0) (nI (p + 1)) (nI (lO l p)) (nI (lA l p)) μ = if (decide (μ 80 n = 0) == decide (lO l p = 11)) = true then fX12_reckonsTo_16 F f (nI E) (nI (n + 1)) (nI 0) (nI (lA l p)) μ else fX12_reckonsTo_16 F f (nI E) (nI n) (nI 0) (nI (p + 1)) μ := by
    unfold fX12_reckonsTo_135 fX12_reckonsTo_155
    rw [e2, zG_in rfl (by omega) (by decide), nI_clamp (by omega), nI_add, Nat.zero_add]
    rcases ho with ho | ho
    · rw [ho, if_neg (show ¬ nI 11 = nI 12 by decide)]
      rcases hv with hv | hv
      · rw [hv, if_pos rfl, if_pos (by decide)]
      · rw [hv, if_neg (show ¬ nI 1 = nI 0 by decide), if_neg (by decide)]
    · rw [ho, if_pos rfl]
      rcases hv with hv | hv
      · rw [hv, if_neg (show ¬ nI 0 = nI 1 by decide), if_neg (by decide)]
      · rw [hv, if_pos rfl, if_pos (by decide)]
  rw [m_at hl hp hE hN (by omega) (by omega), nI_add, k135, if_neg (show ¬ nI (lO l p) = 0 by rw [nI_z (by omega)]; omega), if_neg (show ¬ nI (lO l p) = nI 1 by rw [nI_eq (by omega) (by decide)]; omega), if_neg (show ¬ nI (lO l p) = nI 10 by rw [nI_eq (by omega) (by decide)]; omega)]
  by_cases h11 : nI (lO l p) = nI 11
  · rw [if_pos h11]
  · rw [if_neg h11, if_pos (show nI (lO l p) = nI 12 from ho.elim (fun e => absurd (by rw [e]) h11) (fun e => by rw [e]))]
/-! pieces: what both make of them -/
def ySeg (l : zLS) (fv : Nat → Int32) (a e d : Nat) (r : Option Int32) : Prop :=
  (∀ (F h E rs n : Nat) (μ : zMem), (h = 19 ∨ h = 26) → yLC l h μ → (∀ j, j < 9 → μ 34 j = fv j) → E ≤ lN0 l → e ≤ E → rs ≤ a → n + d ≤ 24 → ∃ (k rs1 : Nat) (μ1 : zMem), k + a ≤ e ∧ rs1 ≤ e ∧ (∀ c, c ≠ 35 → μ1 c = μ c) ∧ (∀ i, i < n → μ1 35 i = μ 35 i) ∧ (∀ v, r = some v → μ1 35 n = v ∧ ∀ f, fX10_reckoned_9 F h (f + k) (nI E) (nI n + (-1 : Int32)) (nI rs) (nI a) μ = fX10_reckoned_9 F h f (nI E) (nI n) (nI rs1) (nI e) μ1) ∧ (r = none → ∀ f, fX10_reckoned_9 F h (f + k) (nI E) (nI n + (-1 : Int32)) (nI rs) (nI a) μ = some (nI 0, μ1))) ∧
  ∀ (F E n : Nat) (μ : zMem), yLM l μ → (∀ j, j < 9 → μ 81 j = fv j) → E ≤ lN0 l → e ≤ E → n + d ≤ 24 → ∃ (k : Nat) (μ1 : zMem), k + a ≤ e ∧ (∀ c, c ≠ 80 → μ1 c = μ c) ∧ (∀ i, i < n → μ1 80 i = μ 80 i) ∧ (∀ v, r = some v → μ1 80 n = v ∧ ∀ f, fX12_reckonsTo_16 F (f + k) (nI E) (nI n) (nI 0) (nI a) μ = fX12_reckonsTo_16 F f (nI E) (nI (n + 1)) (nI 0) (nI e) μ1) ∧ (r = none → ∀ f, fX12_reckonsTo_16 F (f + k) (nI E) (nI n) (nI 0) (nI a) μ = some (nI 0, μ1))
theorem seg_push {l : zLS} {fv : Nat → Int32} {a d : Nat} (hN : lN0 l ≤ 240) (hd : 1 ≤ d) (ho : (lO l a = 0 ∧ lA l a < 100000) ∨ (lO l a = 1 ∧ lA l a < 9)) : ySeg l fv a (a + 1) d (some (if lO l a = 0 then nI (lA l a) else fv (lA l a))) := by
  refine ⟨fun F h E rs n μ hh hl hf hE he hrs hn => ?_, fun F E n μ hl hf hE he hn => ?_⟩
  · refine ⟨1, rs, _, by omega, by omega, fun c hc => zUp_ne hc, fun i hi => zUp_o (by omega), fun v hv => ⟨?_, fun f => c_push hl (by omega) hE hN hrs (by omega) hf (ho.imp (fun z => z.1) id)⟩, fun h => by cases h⟩
    rw [zUp_s]; exact Option.some.inj hv
  · refine ⟨1, _, by omega, fun c hc => zUp_ne hc, fun i hi => zUp_o (by omega), fun v hv => ⟨?_, fun f => m_push hl (by omega) hE hN (by omega) hf ho⟩, fun h => by cases h⟩
    rw [zUp_s]; exact Option.some.inj hv
def yComb (o : Nat) (r1 r2 : Option Int32) : Option Int32 := match r1, r2 with
  | some x, some y => if yBad o y = true then none else some (yBin o x y)
  | _, _ => none
theorem seg_bin {l : zLS} {fv : Nat → Int32} {a m e d d2 : Nat} {r1 r2 : Option Int32} (hN : lN0 l ≤ 240) (h1 : a < m) (h2 : m < e) (s1 : ySeg l fv a m d r1) (s2 : ySeg l fv m e d2 r2) (hd : d2 + 1 ≤ d) (hd2 : 1 ≤ d2) (ho1 : 2 ≤ lO l e) (ho2 : lO l e ≤ 9) (ha : lA l e = 0) : ySeg l fv a (e + 1) d (yComb (lO l e) r1 r2) := by
  refine ⟨fun F h E rs n μ hh hl hf hE he hrs hn => ?_, fun F E n μ hl hf hE he hn => ?_⟩
  · obtain ⟨k1, rs1, μ1, a1, a2, a3, a4, a5, a6⟩ := s1.1 F h E rs n μ hh hl hf hE (by omega) hrs (by omega)
    cases r1 with
    | none => exact ⟨k1, rs1, μ1, by omega, by omega, a3, a4, fun v hv => (by cases hv), fun _ => a6 rfl⟩
    | some x =>
      obtain ⟨b1, b2⟩ := a5 x rfl
      have hl1 := hl.of hh a3
      have hf1 : ∀ j, j < 9 → μ1 34 j = fv j := fun j hj => by rw [a3 34 (by decide)]; exact hf j hj
      obtain ⟨k2, rs2, μ2, c1, c2, c3, c4, c5, c6⟩ := s2.1 F h E rs1 (n + 1) μ1 hh hl1 hf1 hE (by omega) a2 (by omega)
      have hc : ∀ c, c ≠ 35 → μ2 c = μ c := fun c hc => by rw [c3 c hc, a3 c hc]
      have hi : ∀ i, i < n → μ2 35 i = μ 35 i := fun i hi => by rw [c4 i (by omega), a4 i hi]
      cases r2 with
      | none =>
        refine ⟨k2 + k1, rs2, μ2, by omega, by omega, hc, hi, fun v hv => (by cases hv), fun _ f => ?_⟩
        have e6 := c6 rfl f
        rw [nI_sub1] at e6
        rw [show f + (k2 + k1) = (f + k2) + k1 by omega, b2, e6]
      | some y =>
        obtain ⟨e1, e2⟩ := c5 y rfl
        have hl2 := hl1.of hh c3
        have key : ∀ f, fX10_reckoned_9 F h (f + (1 + k2 + k1)) (nI E) (nI n + (-1 : Int32)) (nI rs) (nI a) μ = if yBad (lO l e) y = true then some (nI 0, μ2) else fX10_reckoned_9 F h f (nI E) (nI n) (nI rs2) (nI (e + 1)) (zUp μ2 35 n (yBin (lO l e) x y)) := by
          intro f
          have e3 := e2 (f + 1)
          rw [nI_sub1] at e3
          rw [show f + (1 + k2 + k1) = (f + 1 + k2) + k1 by omega, b2, e3, c_op hl2 (by omega) hE hN (by omega) (by omega) ho1 ho2, e1, c4 n (by omega), b1]
        show ∃ (k rs1 : Nat) (μ1 : zMem), k + a ≤ e + 1 ∧ rs1 ≤ e + 1 ∧ (∀ c, c ≠ 35 → μ1 c = μ c) ∧ (∀ i, i < n → μ1 35 i = μ 35 i) ∧ (∀ v, (if yBad (lO l e) y = true then none else some (yBin (lO l e) x y)) = some v → μ1 35 n = v ∧ ∀ f, fX10_reckoned_9 F h (f + k) (nI E) (nI n + (-1 : Int32)) (nI rs) (nI a) μ = fX10_reckoned_9 F h f (nI E) (nI n) (nI rs1) (nI (e + 1)) μ1) ∧ ((if yBad (lO l e) y = true then none else some (yBin (lO l e) x y)) = none → ∀ f, fX10_reckoned_9 F h (f + k) (nI E) (nI n + (-1 : Int32)) (nI rs) (nI a) μ = some (nI 0, μ1))
        by_cases hb : yBad (lO l e) y = true
        · simp only [if_pos hb] at key ⊢
          exact ⟨1 + k2 + k1, rs2, μ2, by omega, by omega, hc, hi, fun v hv => (by cases hv), fun _ => key⟩
        · simp only [if_neg hb] at key ⊢
          exact ⟨1 + k2 + k1, rs2, _, by omega, by omega, fun c h => by rw [zUp_ne h, hc c h], fun i h => by rw [zUp_o (by omega), hi i h], fun v hv => ⟨by rw [zUp_s]; exact Option.some.inj hv, key⟩, fun h => by cases h⟩
  · obtain ⟨k1, μ1, a1, a3, a4, a5, a6⟩ := s1.2 F E n μ hl hf hE (by omega) (by omega)
    cases r1 with
    | none => exact ⟨k1, μ1, by omega, a3, a4, fun v hv => (by cases hv), fun _ => a6 rfl⟩
    | some x =>
      obtain ⟨b1, b2⟩ := a5 x rfl
      have hl1 := hl.of a3
      have hf1 : ∀ j, j < 9 → μ1 81 j = fv j := fun j hj => by rw [a3 81 (by decide)]; exact hf j hj
      obtain ⟨k2, μ2, c1, c3, c4, c5, c6⟩ := s2.2 F E (n + 1) μ1 hl1 hf1 hE (by omega) (by omega)
      have hc : ∀ c, c ≠ 80 → μ2 c = μ c := fun c hc => by rw [c3 c hc, a3 c hc]
      have hi : ∀ i, i < n → μ2 80 i = μ 80 i := fun i hi => by rw [c4 i (by omega), a4 i hi]
      cases r2 with
      | none =>
        refine ⟨k2 + k1, μ2, by omega, hc, hi, fun v hv => (by cases hv), fun _ f => ?_⟩
        rw [show f + (k2 + k1) = (f + k2) + k1 by omega, b2, c6 rfl f]
      | some y =>
        obtain ⟨e1, e2⟩ := c5 y rfl
        have hl2 := hl1.of c3
        have key : ∀ f, fX12_reckonsTo_16 F (f + (1 + k2 + k1)) (nI E) (nI n) (nI 0) (nI a) μ = if yBad (lO l e) y = true then some (nI 0, μ2) else fX12_reckonsTo_16 F f (nI E) (nI (n + 1)) (nI 0) (nI (e + 1)) (zUp μ2 80 n (yBin (lO l e) x y)) := by
          intro f
          rw [show f + (1 + k2 + k1) = (f + 1 + k2) + k1 by omega, b2, e2, m_op hl2 (by omega) hE hN (by omega) ho1 ho2 ha, e1, c4 n (by omega), b1]
        show ∃ (k : Nat) (μ1 : zMem), k + a ≤ e + 1 ∧ (∀ c, c ≠ 80 → μ1 c = μ c) ∧ (∀ i, i < n → μ1 80 i = μ 80 i) ∧ (∀ v, (if yBad (lO l e) y = true then none else some (yBin (lO l e) x y)) = some v → μ1 80 n = v ∧ ∀ f, fX12_reckonsTo_16 F (f + k) (nI E) (nI n) (nI 0) (nI a) μ = fX12_reckonsTo_16 F f (nI E) (nI (n + 1)) (nI 0) (nI (e + 1)) μ1) ∧ ((if yBad (lO l e) y = true then none else some (yBin (lO l e) x y)) = none → ∀ f, fX12_reckonsTo_16 F (f + k) (nI E) (nI n) (nI 0) (nI a) μ = some (nI 0, μ1))
        by_cases hb : yBad (lO l e) y = true
        · simp only [if_pos hb] at key ⊢
          exact ⟨1 + k2 + k1, μ2, by omega, hc, hi, fun v hv => (by cases hv), fun _ => key⟩
        · simp only [if_neg hb] at key ⊢
          exact ⟨1 + k2 + k1, _, by omega, fun c h => by rw [zUp_ne h, hc c h], fun i h => by rw [zUp_o (by omega), hi i h], fun v hv => ⟨by rw [zUp_s]; exact Option.some.inj hv, key⟩, fun h => by cases h⟩
theorem seg_V {l : zLS} {fv : Nat → Int32} {a e d : Nat} (hN : lN0 l ≤ 240) (h : ySV l a e d) : a < e ∧ 1 ≤ d ∧ ∃ r, ySeg l fv a e d r := by
  apply h (fun a e d => a < e ∧ 1 ≤ d ∧ ∃ r, ySeg l fv a e d r)
  · intro a d ho ha hd
    exact ⟨by omega, hd, _, seg_push hN hd (Or.inl ⟨ho, ha⟩)⟩
  · intro a d ho ha hd
    exact ⟨by omega, hd, _, seg_push hN hd (Or.inr ⟨ho, ha⟩)⟩
  · rintro a m f d d2 ⟨h1, h2, r1, s1⟩ ⟨h3, h4, r2, s2⟩ hd ho1 ho2 ha
    exact ⟨by omega, h2, _, seg_bin hN h1 h3 s1 s2 hd h4 ho1 (by omega) ha⟩
def y01 (r : Option Int32) : Prop := ∀ v, r = some v → v = nI 0 ∨ v = nI 1
theorem seg_not {l : zLS} {fv : Nat → Int32} {a e d : Nat} {r : Option Int32} (hN : lN0 l ≤ 240) (h1 : a < e) (hd : 1 ≤ d) (s : ySeg l fv a e d r) (hr : y01 r) (ho : lO l e = 10) (ha : lA l e = 0) : ySeg l fv a (e + 1) d (r.map (fun v => nI 1 - v)) := by
  refine ⟨fun F h E rs n μ hh hl hf hE he hrs hn => ?_, fun F E n μ hl hf hE he hn => ?_⟩
  · obtain ⟨k1, rs1, μ1, a1, a2, a3, a4, a5, a6⟩ := s.1 F h E rs n μ hh hl hf hE (by omega) hrs (by omega)
    cases r with
    | none => exact ⟨k1, rs1, μ1, by omega, by omega, a3, a4, fun v hv => (by cases hv), fun _ => a6 rfl⟩
    | some x =>
      obtain ⟨b1, b2⟩ := a5 x rfl
      have hl1 := hl.of hh a3
      have hx : (if x = 0 then nI 1 else nI 0) = nI 1 - x := by
        rcases hr x rfl with rfl | rfl <;> decide
      refine ⟨1 + k1, rs1, zUp μ1 35 n (nI 1 - x), by omega, by omega, fun c h => by rw [zUp_ne h, a3 c h], fun i h => by rw [zUp_o (by omega), a4 i h], fun v hv => ⟨by rw [zUp_s]; exact Option.some.inj hv, fun f => ?_⟩, fun h => by cases h⟩
      rw [show f + (1 + k1) = (f + 1) + k1 by omega, b2, c_not hl1 (by omega) hE hN (by omega) (by omega) ho, b1, hx]
  · obtain ⟨k1, μ1, a1, a3, a4, a5, a6⟩ := s.2 F E n μ hl hf hE (by omega) (by omega)
    cases r with
    | none => exact ⟨k1, μ1, by omega, a3, a4, fun v hv => (by cases hv), fun _ => a6 rfl⟩
    | some x =>
      obtain ⟨b1, b2⟩ := a5 x rfl
      have hl1 := hl.of a3
      refine ⟨1 + k1, zUp μ1 80 n (nI 1 - x), by omega, fun c h => by rw [zUp_ne h, a3 c h], fun i h => by rw [zUp_o (by omega), a4 i h], fun v hv => ⟨by rw [zUp_s]; exact Option.some.inj hv, fun f => ?_⟩, fun h => by cases h⟩
      rw [show f + (1 + k1) = (f + 1) + k1 by omega, b2, m_not hl1 (by omega) hE hN (by omega) ho ha, b1]
def yJm (o : Nat) (r1 r2 : Option Int32) : Option Int32 := match r1 with
  | some x => if (decide (x = 0) == decide (o = 11)) = true then some x else r2
  | none => none
theorem seg_jmp {l : zLS} {fv : Nat → Int32} {a m e d : Nat} {r1 r2 : Option Int32} (hN : lN0 l ≤ 240) (h1 : a < m) (h2 : m + 1 < e) (hd : 1 ≤ d) (s1 : ySeg l fv a m d r1) (hr : y01 r1) (ho : lO l m = 11 ∨ lO l m = 12) (ha : lA l m = e) (s2 : ySeg l fv (m + 1) e d r2) : ySeg l fv a e d (yJm (lO l m) r1 r2) := by
  refine ⟨fun F h E rs n μ hh hl hf hE he hrs hn => ?_, fun F E n μ hl hf hE he hn => ?_⟩
  · obtain ⟨k1, rs1, μ1, a1, a2, a3, a4, a5, a6⟩ := s1.1 F h E rs n μ hh hl hf hE (by omega) hrs (by omega)
    cases r1 with
    | none => exact ⟨k1, rs1, μ1, by omega, by omega, a3, a4, fun v hv => (by cases hv), fun _ => a6 rfl⟩
    | some x =>
      obtain ⟨b1, b2⟩ := a5 x rfl
      have hl1 := hl.of hh a3
      have hf1 : ∀ j, j < 9 → μ1 34 j = fv j := fun j hj => by rw [a3 34 (by decide)]; exact hf j hj
      have key : ∀ f, fX10_reckoned_9 F h (f + 1 + k1) (nI E) (nI n + (-1 : Int32)) (nI rs) (nI a) μ = if (decide (x = 0) == decide (lO l m = 11)) = true then fX10_reckoned_9 F h f (nI E) (nI n) (nI e) (nI (m + 1)) μ1 else fX10_reckoned_9 F h f (nI E) (nI n + (-1 : Int32)) (nI rs1) (nI (m + 1)) μ1 := fun f => by
        rw [b2, c_jmp hl1 (by omega) hE hN (by omega) (by omega) ho, b1, ha]
      by_cases hj : (decide (x = 0) == decide (lO l m = 11)) = true
      · have hy : yJm (lO l m) (some x) r2 = some x := if_pos hj
        rw [hy]
        simp only [if_pos hj] at key
        refine ⟨(e - (m + 1)) + 1 + k1, e, μ1, by omega, by omega, a3, a4, fun v hv => ⟨by rw [b1]; exact Option.some.inj hv, fun f => ?_⟩, fun h => by cases h⟩
        rw [show f + ((e - (m + 1)) + 1 + k1) = (f + (e - (m + 1))) + 1 + k1 by omega, key, c_skip (by omega) (by omega) _ _ _ (by omega)]
      · have hy : yJm (lO l m) (some x) r2 = r2 := if_neg hj
        rw [hy]
        simp only [if_neg hj] at key
        obtain ⟨k2, rs2, μ2, c1, c2, c3, c4, c5, c6⟩ := s2.1 F h E rs1 n μ1 hh hl1 hf1 hE (by omega) (by omega) (by omega)
        refine ⟨k2 + 1 + k1, rs2, μ2, by omega, by omega, fun c h => by rw [c3 c h, a3 c h], fun i h => by rw [c4 i h, a4 i h], fun v hv => ⟨(c5 v hv).1, fun f => ?_⟩, fun h f => ?_⟩
        · rw [show f + (k2 + 1 + k1) = (f + k2) + 1 + k1 by omega, key, (c5 v hv).2]
        · rw [show f + (k2 + 1 + k1) = (f + k2) + 1 + k1 by omega, key, c6 h]
  · obtain ⟨k1, μ1, a1, a3, a4, a5, a6⟩ := s1.2 F E n μ hl hf hE (by omega) (by omega)
    cases r1 with
    | none => exact ⟨k1, μ1, by omega, a3, a4, fun v hv => (by cases hv), fun _ => a6 rfl⟩
    | some x =>
      obtain ⟨b1, b2⟩ := a5 x rfl
      have hl1 := hl.of a3
      have hf1 : ∀ j, j < 9 → μ1 81 j = fv j := fun j hj => by rw [a3 81 (by decide)]; exact hf j hj
      have key : ∀ f, fX12_reckonsTo_16 F (f + 1 + k1) (nI E) (nI n) (nI 0) (nI a) μ = if (decide (x = 0) == decide (lO l m = 11)) = true then fX12_reckonsTo_16 F f (nI E) (nI (n + 1)) (nI 0) (nI e) μ1 else fX12_reckonsTo_16 F f (nI E) (nI n) (nI 0) (nI (m + 1)) μ1 := fun f => by
        rw [b2, m_jmp hl1 (by omega) hE hN (by omega) ho (by omega) (by rw [b1]; exact hr x rfl), b1, ha]
      by_cases hj : (decide (x = 0) == decide (lO l m = 11)) = true
      · have hy : yJm (lO l m) (some x) r2 = some x := if_pos hj
        rw [hy]
        simp only [if_pos hj] at key
        refine ⟨1 + k1, μ1, by omega, a3, a4, fun v hv => ⟨by rw [b1]; exact Option.some.inj hv, fun f => ?_⟩, fun h => by cases h⟩
        rw [show f + (1 + k1) = f + 1 + k1 by omega, key]
      · have hy : yJm (lO l m) (some x) r2 = r2 := if_neg hj
        rw [hy]
        simp only [if_neg hj] at key
        obtain ⟨k2, μ2, c1, c3, c4, c5, c6⟩ := s2.2 F E n μ1 hl1 hf1 hE (by omega) (by omega)
        refine ⟨k2 + 1 + k1, μ2, by omega, fun c h => by rw [c3 c h, a3 c h], fun i h => by rw [c4 i h, a4 i h], fun v hv => ⟨(c5 v hv).1, fun f => ?_⟩, fun h f => ?_⟩
        · rw [show f + (k2 + 1 + k1) = (f + k2) + 1 + k1 by omega, key, (c5 v hv).2]
        · rw [show f + (k2 + 1 + k1) = (f + k2) + 1 + k1 by omega, key, c6 h]
theorem seg_T {l : zLS} {fv : Nat → Int32} {a e d : Nat} (hN : lN0 l ≤ 240) (h : yST l a e d) : a < e ∧ 1 ≤ d ∧ ∃ r, y01 r ∧ ySeg l fv a e d r := by
  apply h (fun a e d => a < e ∧ 1 ≤ d ∧ ∃ r, y01 r ∧ ySeg l fv a e d r)
  · intro a m f d d2 v1 v2 hd ho1 ho2 ha
    obtain ⟨h1, h2, r1, s1⟩ := seg_V (fv := fv) hN v1
    obtain ⟨h3, h4, r2, s2⟩ := seg_V (fv := fv) hN v2
    refine ⟨by omega, h2, _, ?_, seg_bin hN h1 h3 s1 s2 hd h4 (by omega) ho2 ha⟩
    intro v hv
    cases r1 with
    | none => cases hv
    | some x =>
      cases r2 with
      | none => cases hv
      | some y =>
        have hv : (if yBad (lO l f) y = true then none else some (yBin (lO l f) x y)) = some v := hv
        split at hv
        · cases hv
        · rw [← Option.some.inj hv]; exact yBin_01 ho1
  · rintro a f d ⟨h1, h2, r, hr, s⟩ ho ha
    refine ⟨by omega, h2, _, ?_, seg_not hN h1 h2 s hr ho ha⟩
    intro v hv
    cases r with
    | none => cases hv
    | some x =>
      have hv : nI 1 - x = v := Option.some.inj hv
      rw [← hv]
      rcases hr x rfl with rfl | rfl
      · exact Or.inr rfl
      · exact Or.inl rfl
  · rintro a m e d ⟨h1, h2, r1, hr1, s1⟩ ho ha ⟨h3, h4, r2, hr2, s2⟩
    refine ⟨by omega, h2, _, ?_, seg_jmp hN h1 h3 h2 s1 hr1 ho ha s2⟩
    intro v hv
    cases r1 with
    | none => cases hv
    | some x =>
      have hv : (if (decide (x = 0) == decide (lO l m = 11)) = true then some x else r2) = some v := hv
      split at hv
      · rw [← Option.some.inj hv]; exact hr1 x rfl
      · exact hr2 v hv
theorem seg_run {l : zLS} {fv : Nat → Int32} {a e : Nat} {r : Option Int32} (hN : lN0 l ≤ 240) (he : e ≤ lN0 l) (hae : a < e) (s : ySeg l fv a e 24 r) :
    (∀ (F h : Nat) (μ : zMem), 300 ≤ F → (h = 19 ∨ h = 26) → yLC l h μ → (∀ j, j < 9 → μ 34 j = fv j) → ∃ μ1, fX10_reckoned F h (nI a) (nI e) μ = some (r.getD (nI 0), μ1) ∧ ∀ c, c ≠ 35 → μ1 c = μ c) ∧
    ∀ (F : Nat) (μ : zMem), 300 ≤ F → yLM l μ → (∀ j, j < 9 → μ 81 j = fv j) → ∃ μ1, fX12_reckonsTo F (nI a) (nI e) μ = some (r.getD (nI 0), μ1) ∧ ∀ c, c ≠ 80 → μ1 c = μ c := by
  refine ⟨fun F h μ hF hh hl hf => ?_, fun F μ hF hl hf => ?_⟩
  · obtain ⟨k, rs1, μ1, a1, a2, a3, a4, a5, a6⟩ := s.1 F h e a 0 μ hh hl hf he (Nat.le_refl _) (Nat.le_refl _) (by omega)
    refine ⟨μ1, ?_, a3⟩
    unfold fX10_reckoned
    have e0 : (nI 0 + (-1 : Int32)) = -1 := by decide
    rw [e0] at a5 a6
    have eF : F = (F - k - 1) + 1 + k := by omega
    cases r with
    | none =>
      have := a6 rfl (F - k)
      rw [show F - k + k = F by omega] at this
      exact this
    | some v =>
      obtain ⟨b1, b2⟩ := a5 v rfl
      have := b2 ((F - k - 1) + 1)
      rw [← eF] at this
      rw [this, fX10_reckoned_9, z_done (Nat.le_refl _) (by omega), if_pos (by decide), zG_in rfl (by decide) (by decide), nI_clamp (by decide), b1]
      rfl
  · obtain ⟨k, μ1, a1, a3, a4, a5, a6⟩ := s.2 F e 0 μ hl hf he (Nat.le_refl _) (by omega)
    refine ⟨μ1, ?_, a3⟩
    unfold fX12_reckonsTo
    have e0 : nI 260 * (nI a / nI 260) = nI 0 := by
      rw [pk_div (by omega) (by decide) (by decide), Nat.div_eq_of_lt (by omega)]
      decide
    rw [zGz_in (by decide), e0]
    have eF : F = (F - k - 1) + 1 + k := by omega
    cases r with
    | none =>
      have := a6 rfl (F - k)
      rw [show F - k + k = F by omega] at this
      exact this
    | some v =>
      obtain ⟨b1, b2⟩ := a5 v rfl
      have := b2 ((F - k - 1) + 1)
      rw [← eF] at this
      rw [this, fX12_reckonsTo_16, z_done (Nat.le_refl _) (by omega), zG_in rfl (by decide) (by decide), nI_clamp (by decide), b1]
      rfl
