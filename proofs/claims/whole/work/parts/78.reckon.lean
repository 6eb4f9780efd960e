/-! ===== the law's codes are reckoned ===== -/
def yBin (o : Nat) (x y : Int32) : Int32 := if o = 2 then x + y else if o = 3 then x - y else if o = 4 then x * y else if o = 5 then x / y else if o = 6 then x % y else if o = 7 then (if y ≤ x then nI 0 else nI 1) else if o = 8 then (if x ≤ y then nI 0 else nI 1) else (if x = y then nI 1 else nI 0)
def yBad (o : Nat) (y : Int32) : Bool := (decide (o = 5) || decide (o = 6)) && decide (y = 0)
theorem yBin_01 {o : Nat} {x y : Int32} (h : 7 ≤ o) : yBin o x y = nI 0 ∨ yBin o x y = nI 1 := by
  unfold yBin
  rw [if_neg (by omega), if_neg (by omega), if_neg (by omega), if_neg (by omega), if_neg (by omega)]
  split
  · split
    · exact Or.inl rfl
    · exact Or.inr rfl
  · split
    · split
      · exact Or.inl rfl
      · exact Or.inr rfl
    · split
      · exact Or.inr rfl
      · exact Or.inl rfl
theorem o_cases {o : Nat} (h1 : 2 ≤ o) (h2 : o ≤ 9) : o = 2 ∨ o = 3 ∨ o = 4 ∨ o = 5 ∨ o = 6 ∨ o = 7 ∨ o = 8 ∨ o = 9 := by omega
theorem e_joined {F o : Nat} {x y : Int32} {μ : zMem} (h1 : 2 ≤ o) (h2 : o ≤ 9) (hb : yBad o y = false) : fX10_joined F (nI (zSign o)) x y μ = some (yBin o x y, μ) := by
  rcases o_cases h1 h2 with rfl | rfl | rfl | rfl | rfl | rfl | rfl | rfl
  · rfl
  · rfl
  · rfl
  · have hy : ¬ y = 0 := fun e => by unfold yBad at hb; rw [decide_eq_true e] at hb; exact absurd hb (by decide)
    show (if y = 0 then _ else zGz y (some (x / y, μ))) = _
    rw [if_neg hy, zGz_in hy]; rfl
  · have hy : ¬ y = 0 := fun e => by unfold yBad at hb; rw [decide_eq_true e] at hb; exact absurd hb (by decide)
    show (if y = 0 then _ else zGz y (some (x % y, μ))) = _
    rw [if_neg hy, zGz_in hy]; rfl
  · show (if y ≤ x then some (nI 0, μ) else some (nI 1, μ)) = some (if y ≤ x then nI 0 else nI 1, μ)
    split <;> rfl
  · show (if x ≤ y then some (nI 0, μ) else some (nI 1, μ)) = some (if x ≤ y then nI 0 else nI 1, μ)
    split <;> rfl
  · show (if x = y then some (nI 1, μ) else some (nI 0, μ)) = some (if x = y then nI 1 else nI 0, μ)
    split <;> rfl
theorem e_reckon {F o : Nat} {x y : Int32} {μ : zMem} (h1 : 2 ≤ o) (h2 : o ≤ 9) (hb : yBad o y = false) : fX12_reckon F (nI o) x y μ = some (yBin o x y, μ) := by
  rcases o_cases h1 h2 with rfl | rfl | rfl | rfl | rfl | rfl | rfl | rfl
  · rfl
  · rfl
  · rfl
  · have hy : ¬ y = 0 := fun e => by unfold yBad at hb; rw [decide_eq_true e] at hb; exact absurd hb (by decide)
    show zGz y (some (x / y, μ)) = _
    rw [zGz_in hy]; rfl
  · have hy : ¬ y = 0 := fun e => by unfold yBad at hb; rw [decide_eq_true e] at hb; exact absurd hb (by decide)
    show zGz y (some (x % y, μ)) = _
    rw [zGz_in hy]; rfl
  · show (if y ≤ x then some (nI 0, μ) else some (nI 1, μ)) = some (if y ≤ x then nI 0 else nI 1, μ)
    split <;> rfl
  · show (if x ≤ y then some (nI 0, μ) else some (nI 1, μ)) = some (if x ≤ y then nI 0 else nI 1, μ)
    split <;> rfl
  · show (if x = y then some (nI 1, μ) else some (nI 0, μ)) = some (if x = y then nI 1 else nI 0, μ)
    split <;> rfl
def yLC (l : zLS) (h : Nat) (μ : zMem) : Prop := ∀ i, i < lN0 l → μ (h + 1) i = nI (zSign (lO l i)) ∧ μ (h + 2) i = nI (lA l i)
def yLM (l : zLS) (μ : zMem) : Prop := ∀ i, i < lN0 l → μ 75 i = nI (1048576 * lO l i + lA l i)
theorem yLC.of {l : zLS} {h : Nat} {μ μ1 : zMem} (hc : yLC l h μ) (hh : h = 19 ∨ h = 26) (e : ∀ c, c ≠ 35 → μ1 c = μ c) : yLC l h μ1 := fun i hi => by rw [e (h + 1) (by omega), e (h + 2) (by omega)]; exact hc i hi
theorem yLM.of {l : zLS} {μ μ1 : zMem} (hc : yLM l μ) (e : ∀ c, c ≠ 80 → μ1 c = μ c) : yLM l μ1 := fun i hi => by rw [e 75 (by decide)]; exact hc i hi
theorem nI_m1p1 (n : Nat) : nI n + (-1 : Int32) + nI 1 = nI n := by
  rw [Int32.add_assoc]
  show nI n + 0 = nI n
  rw [Int32.add_zero]
/-! one code of the class -/
theorem c_at {F h f E rs p : Nat} {v4 : Int32} {l : zLS} {μ : zMem} (hl : yLC l h μ) (hp : p < E) (hE : E ≤ lN0 l) (hN : lN0 l ≤ 240) (hrs : rs ≤ p) : fX10_reckoned_9 F h (f + 1) (nI E) v4 (nI rs) (nI p) μ = (if nI (zSign (lO l p)) = 0 then fX10_reckoned_54 F h (fX10_reckoned_9 F h f) (nI E) v4 (nI rs) (nI p) (nI (zSign (lO l p))) (nI (lA l p)) μ else if nI (zSign (lO l p)) = (nI 1) then fX10_reckoned_54 F h (fX10_reckoned_9 F h f) (nI E) v4 (nI rs) (nI p) (nI (zSign (lO l p))) (nI (lA l p)) μ else if 0 ≤ v4 then if nI (zSign (lO l p)) = (nI 33) then zG v4 24 (if (μ 35 v4.toNatClampNeg) = 0 then zG v4 24 (zLt (zUp μ 35 v4.toNatClampNeg (nI 1)) (fun m6 => fX10_reckoned_9 F h f (nI E) v4 (nI rs) (nI p + (nI 1)) m6)) else zG v4 24 (zLt (zUp μ 35 v4.toNatClampNeg (nI 0)) (fun m7 => fX10_reckoned_9 F h f (nI E) v4 (nI rs) (nI p + (nI 1)) m7))) else if nI (zSign (lO l p)) = (nI 38) then fX10_reckoned_148 F h (fX10_reckoned_9 F h f) (nI E) v4 (nI rs) (nI p) (nI (zSign (lO l p))) (nI (lA l p)) μ else if nI (zSign (lO l p)) = (nI 124) then fX10_reckoned_148 F h (fX10_reckoned_9 F h f) (nI E) v4 (nI rs) (nI p) (nI (zSign (lO l p))) (nI (lA l p)) μ else if v4 < (nI 1) then some ((nI 0), μ) else if nI (zSign (lO l p)) = (nI 47) then fX10_reckoned_211 F h (fX10_reckoned_9 F h f) (nI E) v4 (nI rs) (nI p) (nI (zSign (lO l p))) μ else if nI (zSign (lO l p)) = (nI 37) then fX10_reckoned_211 F h (fX10_reckoned_9 F h f) (nI E) v4 (nI rs) (nI p) (nI (zSign (lO l p))) μ else fX10_reckoned_223 F h (fX10_reckoned_9 F h f) (nI E) v4 (nI rs) (nI p) (nI (zSign (lO l p))) μ else some ((nI 0), μ)) := by
  obtain ⟨a1, a2⟩ := hl p (by omega)
  rw [fX10_reckoned_9, z_more hp (by omega), z_done hrs (by omega), zG_in rfl (by omega) (by decide), zG_in rfl (by omega) (by decide), nI_clamp (by omega), a1, a2]
theorem c_push {F h f E rs p n : Nat} {l : zLS} {fv : Nat → Int32} {μ : zMem} (hl : yLC l h μ) (hp : p < E) (hE : E ≤ lN0 l) (hN : lN0 l ≤ 240) (hrs : rs ≤ p) (hn : n < 24) (hf : ∀ j, j < 9 → μ 34 j = fv j) (ho : lO l p = 0 ∨ (lO l p = 1 ∧ lA l p < 9)) : fX10_reckoned_9 F h (f + 1) (nI E) (nI n + (-1 : Int32)) (nI rs) (nI p) μ = fX10_reckoned_9 F h f (nI E) (nI n) (nI rs) (nI (p + 1)) (zUp μ 35 n (if lO l p = 0 then nI (lA l p) else fv (lA l p))) := by
  rw [c_at hl hp hE hN hrs]
  unfold fX10_reckoned_54
  rw [nI_m1p1, if_pos ((nI_ltI (by omega) (by decide)).mpr hn), zG_in rfl hn (by decide), nI_clamp (by omega), nI_add]
  rcases ho with ho | ⟨ho, ha⟩
  · rw [ho, if_pos (show nI (zSign 0) = 0 from rfl), if_pos rfl]
    rfl
  · rw [ho, if_neg (show ¬ nI (zSign 1) = 0 by decide), if_pos (show nI (zSign 1) = nI 1 from rfl), if_neg (show ¬ (1 : Nat) = 0 by decide), zG_in rfl ha (by decide), zG_in rfl hn (by decide), nI_clamp (by omega), hf _ ha]
    rfl
theorem c_op {F h f E rs p n : Nat} {l : zLS} {μ : zMem} (hl : yLC l h μ) (hp : p < E) (hE : E ≤ lN0 l) (hN : lN0 l ≤ 240) (hrs : rs ≤ p) (hn : n + 1 < 24) (h1 : 2 ≤ lO l p) (h2 : lO l p ≤ 9) : fX10_reckoned_9 F h (f + 1) (nI E) (nI (n + 1)) (nI rs) (nI p) μ = if yBad (lO l p) (μ 35 (n + 1)) = true then some (nI 0, μ) else fX10_reckoned_9 F h f (nI E) (nI n) (nI rs) (nI (p + 1)) (zUp μ 35 n (yBin (lO l p) (μ 35 n) (μ 35 (n + 1)))) := by
  have k223 : yBad (lO l p) (μ 35 (n + 1)) = false → fX10_reckoned_223 F h (fX10_reckoned_9 F h f) (nI E) (nI (n + 1)) (nI rs) (nI p) (nI (zSign (lO l p))) μ = fX10_reckoned_9 F h f (nI E) (nI n) (nI rs) (nI (p + 1)) (zUp μ 35 n (yBin (lO l p) (μ 35 n) (μ 35 (n + 1)))) := by
    intro hb
    unfold fX10_reckoned_223
    rw [nI_sub1, nI_add, zG_in rfl (by omega) (by decide), zG_in rfl (by omega) (by decide), nI_clamp (by omega), nI_clamp (by omega), e_joined h1 h2 hb, zBd_s, zG_in rfl (by omega) (by decide), nI_add]
    rfl
  have k211 : (lO l p = 5 ∨ lO l p = 6) → fX10_reckoned_211 F h (fX10_reckoned_9 F h f) (nI E) (nI (n + 1)) (nI rs) (nI p) (nI (zSign (lO l p))) μ = if yBad (lO l p) (μ 35 (n + 1)) = true then some (nI 0, μ) else fX10_reckoned_9 F h f (nI E) (nI n) (nI rs) (nI (p + 1)) (zUp μ 35 n (yBin (lO l p) (μ 35 n) (μ 35 (n + 1)))) := by
    intro h56
    unfold fX10_reckoned_211
    rw [zG_in rfl hn (by decide), nI_clamp (by omega)]
    by_cases hy : μ 35 (n + 1) = 0
    · have : yBad (lO l p) (μ 35 (n + 1)) = true := by
        unfold yBad
        rw [decide_eq_true hy]
        rcases h56 with h | h <;> rw [h] <;> rfl
      rw [if_pos hy, if_pos this]
    · have : yBad (lO l p) (μ 35 (n + 1)) = false := by
        unfold yBad
        rw [decide_eq_false hy, Bool.and_false]
      rw [if_neg hy, this, if_neg (by decide)]
      exact k223 this
  have hnb : ¬ (lO l p = 5 ∨ lO l p = 6) → yBad (lO l p) (μ 35 (n + 1)) = false := fun h => by
    unfold yBad
    rw [decide_eq_false (fun e => h (Or.inl e)), decide_eq_false (fun e => h (Or.inr e))]
    rfl
  rw [c_at hl hp hE hN hrs]
  rw [if_neg (show ¬ nI (zSign (lO l p)) = 0 by rcases o_cases h1 h2 with e | e | e | e | e | e | e | e <;> rw [e] <;> decide), if_neg (show ¬ nI (zSign (lO l p)) = nI 1 by rcases o_cases h1 h2 with e | e | e | e | e | e | e | e <;> rw [e] <;> decide), if_pos (nI_ge0 (by omega)), if_neg (show ¬ nI (zSign (lO l p)) = nI 33 by rcases o_cases h1 h2 with e | e | e | e | e | e | e | e <;> rw [e] <;> decide), if_neg (show ¬ nI (zSign (lO l p)) = nI 38 by rcases o_cases h1 h2 with e | e | e | e | e | e | e | e <;> rw [e] <;> decide), if_neg (show ¬ nI (zSign (lO l p)) = nI 124 by rcases o_cases h1 h2 with e | e | e | e | e | e | e | e <;> rw [e] <;> decide), if_neg (show ¬ nI (n + 1) < nI 1 from fun z => by have := (nI_ltI (by omega) (by decide)).mp z; omega)]
  by_cases h5 : lO l p = 5
  · rw [if_pos (show nI (zSign (lO l p)) = nI 47 by rw [h5]; rfl)]
    exact k211 (Or.inl h5)
  · rw [if_neg (show ¬ nI (zSign (lO l p)) = nI 47 by rcases o_cases h1 h2 with e | e | e | e | e | e | e | e <;> first | (exact absurd e h5) | (rw [e]; decide))]
    by_cases h6 : lO l p = 6
    · rw [if_pos (show nI (zSign (lO l p)) = nI 37 by rw [h6]; rfl)]
      exact k211 (Or.inr h6)
    · rw [if_neg (show ¬ nI (zSign (lO l p)) = nI 37 by rcases o_cases h1 h2 with e | e | e | e | e | e | e | e <;> first | (exact absurd e h6) | (rw [e]; decide))]
      have hb := hnb (fun z => z.elim h5 h6)
      rw [hb, if_neg (by decide)]
      exact k223 hb
theorem c_not {F h f E rs p n : Nat} {l : zLS} {μ : zMem} (hl : yLC l h μ) (hp : p < E) (hE : E ≤ lN0 l) (hN : lN0 l ≤ 240) (hrs : rs ≤ p) (hn : n < 24) (ho : lO l p = 10) : fX10_reckoned_9 F h (f + 1) (nI E) (nI n) (nI rs) (nI p) μ = fX10_reckoned_9 F h f (nI E) (nI n) (nI rs) (nI (p + 1)) (zUp μ 35 n (if μ 35 n = 0 then nI 1 else nI 0)) := by
  rw [c_at hl hp hE hN hrs, ho, if_neg (show ¬ nI (zSign 10) = 0 by decide), if_neg (show ¬ nI (zSign 10) = nI 1 by decide), if_pos (nI_ge0 (by omega)), if_pos (show nI (zSign 10) = nI 33 from rfl), zG_in rfl hn (by decide), zG_in rfl hn (by decide), zG_in rfl hn (by decide), nI_clamp (by omega), nI_add]
  by_cases h0 : μ 35 n = 0
  · rw [if_pos h0, if_pos h0]; rfl
  · rw [if_neg h0, if_neg h0]; rfl
theorem c_skip {F h E rs : Nat} {v4 : Int32} {μ : zMem} (hE : E < 2 ^ 31) (hrs : rs ≤ E) : ∀ d p f, p + d = rs → fX10_reckoned_9 F h (f + d) (nI E) v4 (nI rs) (nI p) μ = fX10_reckoned_9 F h f (nI E) v4 (nI rs) (nI rs) μ
  | 0, p, f, hp => by rw [show p = rs by omega]; rfl
  | d + 1, p, f, hp => by
    rw [show f + (d + 1) = (f + d) + 1 by omega, fX10_reckoned_9, z_more (by omega) hE, z_more (by omega) (by omega), nI_add]
    exact c_skip hE hrs d (p + 1) f (by omega)
theorem c_jmp {F h f E rs p n : Nat} {l : zLS} {μ : zMem} (hl : yLC l h μ) (hp : p < E) (hE : E ≤ lN0 l) (hN : lN0 l ≤ 240) (hrs : rs ≤ p) (hn : n < 24) (ho : lO l p = 11 ∨ lO l p = 12) : fX10_reckoned_9 F h (f + 1) (nI E) (nI n) (nI rs) (nI p) μ = if (decide (μ 35 n = 0) == decide (lO l p = 11)) = true then fX10_reckoned_9 F h f (nI E) (nI n) (nI (lA l p)) (nI (p + 1)) μ else fX10_reckoned_9 F h f (nI E) (nI n + (-1 : Int32)) (nI rs) (nI (p + 1)) μ := by
  have k148 : fX10_reckoned_148 F h (fX10_reckoned_9 F h f) (nI E) (nI n) (nI rs) (nI p) (nI (zSign (lO l p))) (nI (lA l p)) μ = if (decide (μ 35 n = 0) == decide (lO l p = 11)) = true then fX10_reckoned_9 F h f (nI E) (nI n) (nI (lA l p)) (nI (p + 1)) μ else fX10_reckoned_9 F h f (nI E) (nI n + (-1 : Int32)) (nI rs) (nI (p + 1)) μ := by
    unfold fX10_reckoned_148 fX10_reckoned_163 fX10_reckoned_175
    rw [zG_in rfl hn (by decide), nI_clamp (by omega), nI_add]
    by_cases h0 : μ 35 n = 0
    · rw [if_pos h0, decide_eq_true h0]
      rcases ho with ho | ho
      · rw [ho, if_neg (show ¬ nI (zSign 11) = nI 124 by decide), if_pos rfl]; rfl
      · rw [ho, if_pos (show nI (zSign 12) = nI 124 from rfl), if_neg (show ¬ nI 0 = nI 1 by decide)]; rfl
    · rw [if_neg h0, decide_eq_false h0]
      rcases ho with ho | ho
      · rw [ho, if_neg (show ¬ nI (zSign 11) = nI 124 by decide), if_neg (show ¬ nI 1 = nI 0 by decide)]; rfl
      · rw [ho, if_pos (show nI (zSign 12) = nI 124 from rfl), if_pos rfl]; rfl
  rw [c_at hl hp hE hN hrs, if_neg (show ¬ nI (zSign (lO l p)) = 0 by rcases ho with e | e <;> rw [e] <;> decide), if_neg (show ¬ nI (zSign (lO l p)) = nI 1 by rcases ho with e | e <;> rw [e] <;> decide), if_pos (nI_ge0 (by omega)), if_neg (show ¬ nI (zSign (lO l p)) = nI 33 by rcases ho with e | e <;> rw [e] <;> decide), k148]
  by_cases h38 : nI (zSign (lO l p)) = nI 38
  · rw [if_pos h38]
  · rw [if_neg h38, if_pos (show nI (zSign (lO l p)) = nI 124 from ho.elim (fun e => absurd (by rw [e]; rfl) h38) (fun e => by rw [e]; rfl))]
