/-! ===== names ===== -/
/-- how far the first i letters of the one are from the first j of the other -/
def zEd (b : Nat → Nat) (n : Nat) : Nat → Nat → Nat
  | 0, j => j
  | i + 1, 0 => i + 1
  | 0 + 1, j + 1 => min (zEd b n 0 j + if b 0 = b (n + j) then 0 else 1) (1 + min (zEd b n 0 (j + 1)) (zEd b n (0 + 1) j))
  | i + 1 + 1, 0 + 1 => min (zEd b n (i + 1) 0 + if b (i + 1) = b n then 0 else 1) (1 + min (zEd b n (i + 1) (0 + 1)) (zEd b n (i + 1 + 1) 0))
  | i + 1 + 1, j + 1 + 1 =>
    if b (i + 1) = b (n + j) ∧ b i = b (n + (j + 1)) then min (min (zEd b n (i + 1) (j + 1) + if b (i + 1) = b (n + (j + 1)) then 0 else 1) (1 + min (zEd b n (i + 1) (j + 1 + 1)) (zEd b n (i + 1 + 1) (j + 1)))) (1 + zEd b n i j)
    else min (zEd b n (i + 1) (j + 1) + if b (i + 1) = b (n + (j + 1)) then 0 else 1) (1 + min (zEd b n (i + 1) (j + 1 + 1)) (zEd b n (i + 1 + 1) (j + 1)))
termination_by i j => i + j
def zEd1 (b : Nat → Nat) (n i j : Nat) : Nat := min (zEd b n i j + if b i = b (n + j) then 0 else 1) (1 + min (zEd b n i (j + 1)) (zEd b n (i + 1) j))
def zTw (b : Nat → Nat) (n i j : Nat) : Bool := decide (1 ≤ i ∧ 1 ≤ j ∧ b i = b (n + j - 1) ∧ b (i - 1) = b (n + j))
theorem zEd_0 (b : Nat → Nat) (n j : Nat) : zEd b n 0 j = j := by rw [zEd]
theorem zEd_i0 (b : Nat → Nat) (n i : Nat) : zEd b n i 0 = i := by cases i <;> rw [zEd]
theorem zEd_s (b : Nat → Nat) (n i j : Nat) : zEd b n (i + 1) (j + 1) = if zTw b n i j then min (zEd1 b n i j) (1 + zEd b n (i - 1) (j - 1)) else zEd1 b n i j := by
  cases i with
  | zero =>
    rw [if_neg (fun z => by have := (of_decide_eq_true z).1; omega), zEd]
    rfl
  | succ i =>
    cases j with
    | zero =>
      rw [if_neg (fun z => by have := (of_decide_eq_true z).2.1; omega), zEd]
      rfl
    | succ j =>
      rw [zEd]
      have e : zTw b n (i + 1) (j + 1) = true ↔ (b (i + 1) = b (n + j) ∧ b i = b (n + (j + 1))) := by
        unfold zTw
        rw [decide_eq_true_eq, show n + (j + 1) - 1 = n + j by omega, show i + 1 - 1 = i by omega]
        exact ⟨fun z => z.2.2, fun z => ⟨by omega, by omega, z⟩⟩
      by_cases h : (b (i + 1) = b (n + j) ∧ b i = b (n + (j + 1)))
      · rw [if_pos h, if_pos (e.mpr h)]
        rfl
      · rw [if_neg h, if_neg (fun z => h (e.mp z))]
        rfl
theorem zEd_le (b : Nat → Nat) (n : Nat) : ∀ t i j, i + j ≤ t → zEd b n i j ≤ i + j := by
  intro t
  induction t with
  | zero =>
    intro i j h
    have hi : i = 0 := by omega
    subst hi
    rw [zEd_0]; omega
  | succ t ih =>
    intro i j h
    cases i with
    | zero => rw [zEd_0]; omega
    | succ i =>
      cases j with
      | zero => rw [zEd_i0]; omega
      | succ j =>
        have h1 := ih i (j + 1) (by omega)
        have h2 : zEd1 b n i j ≤ i + 1 + (j + 1) := by unfold zEd1; omega
        rw [zEd_s]
        split <;> omega
theorem zEd_lt {b : Nat → Nat} {n i j : Nat} : zEd b n i j ≤ i + j := zEd_le b n _ i j (Nat.le_refl _)
/-- the cells that are laid before row i, column j -/
def zEdC (b : Nat → Nat) (n M i j : Nat) (g : Nat → Int32) : Prop := ∀ a c, c ≤ M → (a < i ∨ (a = i ∧ c < j)) → g (13 * a + c) = nI (zEd b n a c)
theorem zEdC.put {b : Nat → Nat} {n M i j : Nat} {g : Nat → Int32} (h : zEdC b n M i j g) (hM : M ≤ 12) (hj : j ≤ M) : zEdC b n M i (j + 1) (upd g (13 * i + j) (nI (zEd b n i j))) := by
  intro a c hc hac
  by_cases e : a = i ∧ c = j
  · obtain ⟨rfl, rfl⟩ := e
    exact if_pos rfl
  · have e2 : 13 * a + c ≠ 13 * i + j := by omega
    have : upd g (13 * i + j) (nI (zEd b n i j)) (13 * a + c) = g (13 * a + c) := if_neg e2
    rw [this]
    exact h a c hc (by omega)
theorem zEdC.row {b : Nat → Nat} {n M i : Nat} {g : Nat → Int32} (h : zEdC b n M i (M + 1) g) : zEdC b n M (i + 1) 0 g := fun a c hc hac => h a c hc (by omega)
theorem nI_eqn {a b : Nat} (ha : a < 2 ^ 31) (hb : b < 2 ^ 31) {α : Type} {x y : α} : (if nI a = nI b then x else y) = if a = b then x else y := by
  by_cases h : a = b
  · rw [if_pos (by rw [h]), if_pos h]
  · rw [if_neg (fun z => h ((nI_eq ha hb).mp z)), if_neg h]
theorem e_lAt {F n M i j : Nat} {b : Nat → Nat} {m : zMem} (hT : zTB (n + M) b m) (hb : ∀ j, b j < 256) (hn : n ≤ 12) (hM : M ≤ 12) (hi : i < n) (hj : j < M) (hc : zEdC b n M (i + 1) (j + 1) (m 59)) : fX3_lettersApartAt F (nI n) (nI (i + 1)) (nI (j + 1)) m = some (nI (zEd b n (i + 1) (j + 1)), m) := by
  have b1 := hb i
  have b2 := hb (n + j)
  have b3 := hb (n + j - 1)
  have b4 := hb (i - 1)
  have d1 := zEd_lt (b := b) (n := n) (i := i) (j := j)
  have d2 := zEd_lt (b := b) (n := n) (i := i) (j := j + 1)
  have d3 := zEd_lt (b := b) (n := n) (i := i + 1) (j := j)
  have d4 := zEd_lt (b := b) (n := n) (i := i - 1) (j := j - 1)
  have k58 : ∀ s, s ≤ 1 → fX3_lettersApartAt_58 F (nI n) (nI (i + 1)) (nI (j + 1)) (nI 13) (nI (13 * (i + 1) + (j + 1))) (nI (b i)) (nI (b (n + j))) (nI s) (nI (zEd b n i j)) m = some (nI (if zTw b n i j then min (min (zEd b n i j + s) (1 + min (zEd b n i (j + 1)) (zEd b n (i + 1) j))) (1 + zEd b n (i - 1) (j - 1)) else min (zEd b n i j + s) (1 + min (zEd b n i (j + 1)) (zEd b n (i + 1) j))), m) := by
    intro s hs
    have hl : min (zEd b n i j + s) (1 + min (zEd b n i (j + 1)) (zEd b n (i + 1) j)) ≤ 30 := by omega
    unfold fX3_lettersApartAt_58 fX3_lettersApartAt_134 fX3_lettersApartAt_135
    rw [pk_sub (by omega), show 13 * (i + 1) + (j + 1) - 13 = 13 * i + (j + 1) by omega, pk_sub (by omega), show 13 * (i + 1) + (j + 1) - 1 = 13 * (i + 1) + j by omega, zG_in rfl (by omega) (by decide), zG_in rfl (by omega) (by decide), nI_clamp (by omega), nI_clamp (by omega), hc i (j + 1) (by omega) (by omega), hc (i + 1) j (by omega) (by omega), e_min (by omega) (by omega), zBd_s, nI_add, nI_add, e_min (by omega) (by omega), zBd_s]
    generalize min (zEd b n i j + s) (1 + min (zEd b n i (j + 1)) (zEd b n (i + 1) j)) = L at hl ⊢
    by_cases h1 : i = 0
    · rw [if_pos ((nI_leI (by omega) (by decide)).mpr (by omega)), if_pos (by decide), if_neg (fun z => by have := (of_decide_eq_true z).1; omega)]
    · rw [if_neg (fun z => by have := (nI_leI (by omega) (by decide)).mp z; omega)]
      by_cases h2 : j = 0
      · rw [if_pos ((nI_leI (by omega) (by decide)).mpr (by omega)), if_pos (by decide), if_neg (fun z => by have := (of_decide_eq_true z).2.1; omega)]
      · rw [if_neg (fun z => by have := (nI_leI (by omega) (by decide)).mp z; omega), nI_add, pk_sub (by omega), show n + (j + 1) - 2 = n + j - 1 by omega, e_bA hT (by omega), zBd_s, pk_sub (by omega), show i + 1 - 2 = i - 1 by omega, e_bA hT (by omega), zBd_s, nI_eqn (by omega) (by omega), nI_eqn (by omega) (by omega)]
        by_cases h3 : b i = b (n + j - 1)
        · rw [if_pos h3]
          by_cases h4 : b (i - 1) = b (n + j)
          · rw [if_pos h4, if_neg (by decide), pk_mul, pk_sub (by omega), pk_sub (by omega), show 13 * (i + 1) + (j + 1) - 2 * 13 - 2 = 13 * (i - 1) + (j - 1) by omega, zG_in rfl (by omega) (by decide), nI_clamp (by omega), hc (i - 1) (j - 1) (by omega) (by omega), nI_add, e_min (by omega) (by omega), zBd_s, if_pos (show zTw b n i j = true from decide_eq_true ⟨by omega, by omega, h3, h4⟩)]
          · rw [if_neg h4, if_pos (by decide), if_neg (fun z => h4 (of_decide_eq_true z).2.2.2)]
        · rw [if_neg h3, if_pos (by decide), if_neg (fun z => h3 (of_decide_eq_true z).2.2.1)]
  unfold fX3_lettersApartAt
  rw [pk_sub (by omega), show i + 1 - 1 = i by omega, e_bA hT (by omega), zBd_s, nI_add, pk_sub (by omega), show n + (j + 1) - 1 = n + j by omega, e_bA hT (by omega), zBd_s, pk_mul, nI_add, show (i + 1) * 13 + (j + 1) = 13 * (i + 1) + (j + 1) by omega, pk_sub (by omega), pk_sub (by omega), show 13 * (i + 1) + (j + 1) - 13 - 1 = 13 * i + j by omega, zG_in rfl (by omega) (by decide), nI_clamp (by omega), hc i j (by omega) (by omega), nI_eqn (by omega) (by omega), k58 0 (by omega), k58 1 (by omega), zEd_s]
  unfold zEd1
  by_cases h : b i = b (n + j)
  · rw [if_pos h, if_pos h]
  · rw [if_neg h, if_neg h]
theorem zTB.up {N k j : Nat} {b : Nat → Nat} {m : zMem} {x : Int32} (h : zTB N b m) (h1 : k ≠ 1) (h2 : k ≠ 2) : zTB N b (zUp m k j x) := ⟨by rw [zUp_ne (Ne.symm h1)]; exact h.1, h.2.1, fun i hi => by rw [zUp_ne (Ne.symm h2)]; exact h.2.2 i hi⟩
theorem zTO.up {N k j : Nat} {b : Nat → Nat} {m : zMem} {x : Int32} (h : zTO N b m) (h1 : k ≠ 68) : zTO N b (zUp m k j x) := ⟨h.1, fun i hi => by rw [zUp_ne (Ne.symm h1)]; exact h.2 i hi⟩
theorem e_apart {F n M : Nat} {b : Nat → Nat} {m0 : zMem} (hF : 20 ≤ F) (hT0 : zTB (n + M) b m0) (hb : ∀ j, b j < 256) (hn : n ≤ 12) (hM : M ≤ 12) : zTo (fX3_lettersApart F (nI n) (nI M) m0) (fun r m => r = nI (zEd b n n M) ∧ ∀ c, c ≠ 59 → m c = m0 c) := by
  have k16 : ∀ (K : Int32 → Int32 → Int32 → Int32 → zMem → Option zR) (Q : Int32 → zMem → Prop) (i : Nat), i ≤ n → (∀ m, zTB (n + M) b m → zEdC b n M (i + 1) 0 (m 59) → (∀ c, c ≠ 59 → m c = m0 c) → zTo (K (nI n) (nI M) (nI 13) (nI (i + 1)) m) Q) → ∀ q j f m, j + q = M + 1 → q < f → zTB (n + M) b m → zEdC b n M i j (m 59) → (∀ c, c ≠ 59 → m c = m0 c) → zTo (fX3_lettersApart_16 F K f (nI n) (nI M) (nI 13) (nI i) (nI j) m) Q := by
    intro K Q i hi hK q
    induction q with
    | zero =>
      intro j f m hj hf hT hc hfr
      obtain ⟨f, rfl⟩ := z_s hf
      have hj : j = M + 1 := by omega
      subst hj
      rw [fX3_lettersApart_16, if_pos ((nI_ltI (by omega) (by omega)).mpr (by omega)), nI_add]
      exact hK m hT hc.row hfr
    | succ q ih =>
      intro j f m hj hf hT hc hfr
      obtain ⟨f, rfl⟩ := z_s hf
      have hst : ∀ v : Int32, v = nI (zEd b n i j) → zTo (zG (nI i * nI 13 + nI j) 169 (zLt (zUp m 59 (nI i * nI 13 + nI j).toNatClampNeg v) (fun m2 => fX3_lettersApart_16 F K f (nI n) (nI M) (nI 13) (nI i) (nI j + nI 1) m2))) Q := by
        intro v hv
        subst hv
        rw [pk_mul, nI_add, show i * 13 + j = 13 * i + j by omega, nI_add, zG_in rfl (by omega) (by decide), nI_clamp (by omega)]
        refine zTo_let fun m2 hm2 => ?_
        subst hm2
        refine ih (j + 1) f _ (by omega) (by omega) (hT.up (by decide) (by decide)) ?_ (fun c hc => by rw [zUp_ne hc, hfr c hc])
        rw [zUp_at]
        exact hc.put hM (by omega)
      rw [fX3_lettersApart_16, if_neg (fun z => by have := (nI_ltI (by omega) (by omega)).mp z; omega)]
      by_cases h1 : i = 0
      · subst h1
        rw [if_pos (show nI 0 = 0 from rfl)]
        exact hst _ (by rw [nI_add, zEd_0, Nat.zero_add])
      · rw [if_neg (fun z => h1 ((nI_z (by omega)).mp z))]
        by_cases h2 : j = 0
        · subst h2
          rw [if_pos (show nI 0 = 0 from rfl)]
          exact hst _ (by rw [nI_add, zEd_i0]; rfl)
        · rw [if_neg (fun z => h2 ((nI_z (by omega)).mp z))]
          obtain ⟨i, rfl⟩ : ∃ i', i = i' + 1 := ⟨i - 1, by omega⟩
          obtain ⟨j, rfl⟩ : ∃ j', j = j' + 1 := ⟨j - 1, by omega⟩
          rw [e_lAt hT hb hn hM (by omega) (by omega) hc, zBd_s]
          exact hst _ rfl
  have k7 : ∀ q i f m, i + q = n + 1 → q < f → zTB (n + M) b m → zEdC b n M i 0 (m 59) → (∀ c, c ≠ 59 → m c = m0 c) → zTo (fX3_lettersApart_7 F f (nI n) (nI M) (nI 13) (nI i) m) (fun r m => r = nI (zEd b n n M) ∧ ∀ c, c ≠ 59 → m c = m0 c) := by
    intro q
    induction q with
    | zero =>
      intro i f m hi hf hT hc hfr
      obtain ⟨f, rfl⟩ := z_s hf
      have hi : i = n + 1 := by omega
      subst hi
      rw [fX3_lettersApart_7, if_pos ((nI_ltI (by omega) (by omega)).mpr (by omega)), pk_mul, nI_add, zG_in rfl (by omega) (by decide), nI_clamp (by omega), show n * 13 + M = 13 * n + M by omega, hc n M (by omega) (by omega)]
      exact zTo_ret ⟨rfl, hfr⟩
    | succ q ih =>
      intro i f m hi hf hT hc hfr
      obtain ⟨f, rfl⟩ := z_s hf
      rw [fX3_lettersApart_7, if_neg (fun z => by have := (nI_ltI (by omega) (by omega)).mp z; omega)]
      exact k16 _ _ i (by omega) (fun m' h1 h2 h3 => ih (i + 1) f m' (by omega) (by omega) h1 h2 h3) (M + 1) 0 F m (by omega) (by omega) hT hc hfr
  exact k7 (n + 1) 0 F m0 (by omega) (by omega) hT0 (fun a c _ h => by omega) (fun _ _ => rfl)
theorem e_mNames {F n M : Nat} {b : Nat → Nat} {m0 : zMem} (hF : 20 ≤ F) (hT0 : zTO (n + M) b m0) (hb : ∀ j, b j < 256) (hn : n ≤ 12) (hM : M ≤ 12) : zTo (fX12_names_39 F F (nI n) (nI M) (nI 0) m0) (fun r m => r = nI (zEd b n n M) ∧ ∀ c, c ≠ 87 → m c = m0 c) := by
  have k47 : ∀ (K : Int32 → Int32 → Int32 → zMem → Option zR) (Q : Int32 → zMem → Prop) (i : Nat), i ≤ n → (∀ m, zTO (n + M) b m → zEdC b n M (i + 1) 0 (m 87) → (∀ c, c ≠ 87 → m c = m0 c) → zTo (K (nI n) (nI M) (nI (i + 1)) m) Q) → ∀ q j f m, j + q = M + 1 → q < f → zTO (n + M) b m → zEdC b n M i j (m 87) → (∀ c, c ≠ 87 → m c = m0 c) → zTo (fX12_names_47 F K f (nI n) (nI M) (nI i) (nI j) m) Q := by
    intro K Q i hi hK q
    induction q with
    | zero =>
      intro j f m hj hf hT hc hfr
      obtain ⟨f, rfl⟩ := z_s hf
      have hj : j = M + 1 := by omega
      subst hj
      rw [fX12_names_47, if_pos ((nI_ltI (by omega) (by omega)).mpr (by omega)), nI_add]
      exact hK m hT hc.row hfr
    | succ q ih =>
      intro j f m hj hf hT hc hfr
      obtain ⟨f, rfl⟩ := z_s hf
      have hst : ∀ v : Int32, v = nI (zEd b n i j) → zTo (fX12_names_265 F K (fX12_names_47 F K f) (nI n) (nI M) (nI i) (nI j) v m) Q := by
        intro v hv
        subst hv
        unfold fX12_names_265
        rw [pk_mul, nI_add, nI_add, zG_in rfl (by omega) (by decide), nI_clamp (by omega)]
        refine zTo_let fun m2 hm2 => ?_
        subst hm2
        refine ih (j + 1) f _ (by omega) (by omega) (hT.up (by decide)) ?_ (fun c hc => by rw [zUp_ne hc, hfr c hc])
        rw [zUp_at]
        exact hc.put hM (by omega)
      rw [fX12_names_47, if_neg (fun z => by have := (nI_ltI (by omega) (by omega)).mp z; omega)]
      by_cases h1 : i = 0
      · subst h1
        rw [if_pos (show nI 0 = 0 from rfl)]
        unfold fX12_names_74
        rw [if_pos (by decide)]
        exact hst _ (by rw [zEd_0])
      · rw [if_neg (fun z => h1 ((nI_z (by omega)).mp z))]
        by_cases h2 : j = 0
        · subst h2
          rw [if_pos (show nI 0 = 0 from rfl)]
          unfold fX12_names_74
          rw [if_neg (nI_nle (by omega) (by omega)), if_pos (by decide)]
          exact hst _ (by rw [zEd_i0])
        · rw [if_neg (fun z => h2 ((nI_z (by omega)).mp z))]
          obtain ⟨i, rfl⟩ : ∃ i', i = i' + 1 := ⟨i - 1, by omega⟩
          obtain ⟨j, rfl⟩ : ∃ j', j = j' + 1 := ⟨j - 1, by omega⟩
          have b1 := hb i
          have b2 := hb (n + j)
          have b3 := hb (n + j - 1)
          have b4 := hb (i - 1)
          have d1 := zEd_lt (b := b) (n := n) (i := i) (j := j)
          have d2 := zEd_lt (b := b) (n := n) (i := i) (j := j + 1)
          have d3 := zEd_lt (b := b) (n := n) (i := i + 1) (j := j)
          have d4 := zEd_lt (b := b) (n := n) (i := i - 1) (j := j - 1)
          have k138 : ∀ s, s ≤ 1 → (s = if b i = b (n + j) then 0 else 1) → zTo (fX12_names_138 F K (fX12_names_47 F K f) (nI n) (nI M) (nI (i + 1)) (nI (j + 1)) (nI s) (nI (zEd b n i j)) m) Q := by
            intro s hs hse
            have hl : min (zEd b n i j + s) (1 + min (zEd b n i (j + 1)) (zEd b n (i + 1) j)) ≤ 30 := by omega
            have hL : zEd1 b n i j = min (zEd b n i j + s) (1 + min (zEd b n i (j + 1)) (zEd b n (i + 1) j)) := by unfold zEd1; rw [hse]
            have hfin := hst
            rw [zEd_s, hL] at hfin
            unfold fX12_names_138 fX12_names_232 fX12_names_233
            rw [pk_sub (by omega), show i + 1 - 1 = i by omega, pk_mul, nI_add, pk_mul, nI_add, pk_sub (by omega), show 13 * (i + 1) + (j + 1) - 1 = 13 * (i + 1) + j by omega, zG_in rfl (by omega) (by decide), zG_in rfl (by omega) (by decide), nI_clamp (by omega), nI_clamp (by omega), hc i (j + 1) (by omega) (by omega), hc (i + 1) j (by omega) (by omega), e_mmin (by omega) (by omega), zBd_s, nI_add, nI_add, e_mmin (by omega) (by omega), zBd_s]
            generalize min (zEd b n i j + s) (1 + min (zEd b n i (j + 1)) (zEd b n (i + 1) j)) = L at hl hfin ⊢
            by_cases h1 : i = 0
            · rw [if_pos ((nI_leI (by omega) (by decide)).mpr (by omega)), if_pos (by decide)]
              rw [if_neg (fun z => by have := (of_decide_eq_true z).1; omega)] at hfin
              exact hfin _ rfl
            · rw [if_neg (fun z => by have := (nI_leI (by omega) (by decide)).mp z; omega)]
              by_cases h2 : j = 0
              · rw [if_pos ((nI_leI (by omega) (by decide)).mpr (by omega)), if_pos (by decide)]
                rw [if_neg (fun z => by have := (of_decide_eq_true z).2.1; omega)] at hfin
                exact hfin _ rfl
              · rw [if_neg (fun z => by have := (nI_leI (by omega) (by decide)).mp z; omega), e_oc hT (by omega), zBd_s, nI_add, pk_sub (by omega), show n + (j + 1) - 2 = n + j - 1 by omega, e_oc hT (by omega), zBd_s, pk_sub (by omega), show i + 1 - 2 = i - 1 by omega, e_oc hT (by omega), zBd_s, pk_sub (by omega), show n + (j + 1) - 1 = n + j by omega, e_oc hT (by omega), zBd_s, nI_eqn (by omega) (by omega), nI_eqn (by omega) (by omega)]
                by_cases h3 : b i = b (n + j - 1)
                · rw [if_pos h3]
                  by_cases h4 : b (i - 1) = b (n + j)
                  · rw [if_pos h4, if_neg (by decide), pk_mul, nI_add, pk_sub (by omega), show 13 * (i - 1) + (j + 1) - 2 = 13 * (i - 1) + (j - 1) by omega, zG_in rfl (by omega) (by decide), nI_clamp (by omega), hc (i - 1) (j - 1) (by omega) (by omega), nI_add, e_mmin (by omega) (by omega), zBd_s]
                    rw [if_pos (show zTw b n i j = true from decide_eq_true ⟨by omega, by omega, h3, h4⟩)] at hfin
                    exact hfin _ (by rw [Nat.add_comm 1])
                  · rw [if_neg h4, if_pos (by decide)]
                    rw [if_neg (fun z => h4 (of_decide_eq_true z).2.2.2)] at hfin
                    exact hfin _ rfl
                · rw [if_neg h3, if_pos (by decide)]
                  rw [if_neg (fun z => h3 (of_decide_eq_true z).2.2.1)] at hfin
                  exact hfin _ rfl
          unfold fX12_names_74 fX12_names_110
          rw [if_neg (nI_nle (by omega) (by omega)), if_neg (nI_nle (by omega) (by omega)), pk_sub (by omega), show i + 1 - 1 = i by omega, e_oc hT (by omega), zBd_s, nI_add, pk_sub (by omega), show n + (j + 1) - 1 = n + j by omega, e_oc hT (by omega), zBd_s, pk_mul, nI_add, pk_sub (by omega), show 13 * i + (j + 1) - 1 = 13 * i + j by omega, zG_in rfl (by omega) (by decide), nI_clamp (by omega), hc i j (by omega) (by omega), zG_in rfl (by omega) (by decide), nI_eqn (by omega) (by omega)]
          by_cases h : b i = b (n + j)
          · rw [if_pos h, if_neg (by decide)]
            exact k138 0 (by omega) (by rw [if_pos h])
          · rw [if_neg h, if_pos (by decide)]
            exact k138 1 (by omega) (by rw [if_neg h])
  have k39 : ∀ q i f m, i + q = n + 1 → q < f → zTO (n + M) b m → zEdC b n M i 0 (m 87) → (∀ c, c ≠ 87 → m c = m0 c) → zTo (fX12_names_39 F f (nI n) (nI M) (nI i) m) (fun r m => r = nI (zEd b n n M) ∧ ∀ c, c ≠ 87 → m c = m0 c) := by
    intro q
    induction q with
    | zero =>
      intro i f m hi hf hT hc hfr
      obtain ⟨f, rfl⟩ := z_s hf
      have hi : i = n + 1 := by omega
      subst hi
      rw [fX12_names_39, if_pos ((nI_ltI (by omega) (by omega)).mpr (by omega)), pk_mul, nI_add, zG_in rfl (by omega) (by decide), nI_clamp (by omega), hc n M (by omega) (by omega)]
      exact zTo_ret ⟨rfl, hfr⟩
    | succ q ih =>
      intro i f m hi hf hT hc hfr
      obtain ⟨f, rfl⟩ := z_s hf
      rw [fX12_names_39, if_neg (fun z => by have := (nI_ltI (by omega) (by omega)).mp z; omega)]
      exact k47 _ _ i (by omega) (fun m' h1 h2 h3 => ih (i + 1) f m' (by omega) (by omega) h1 h2 h3) (M + 1) 0 F m (by omega) (by omega) hT hc hfr
  exact k39 (n + 1) 0 F m0 (by omega) (by omega) hT0 (fun a c _ h => by omega) (fun _ _ => rfl)
theorem pr_names {F : Nat} (hF : 20 ≤ F) (x y : Int32) : zPair (fX11_names F x y) (fX12_names F x y) := by
  refine zPair.mk fun A μ hW hC => ?_
  cases hz : zIn x 1 12
  · refine ⟨-1, A, μ, ?_, hW, hC, fun _ _ => rfl, fun μ' hM => ⟨μ', ?_, hM, fun _ _ => rfl⟩⟩
    · unfold fX11_names
      rw [e_isWithin, zBd_s, hz, z_bf]
    · unfold fX12_names
      rw [e_in, zBd_s, hz, z_bf]
  · cases hz2 : zIn y 1 12
    · refine ⟨-1, A, μ, ?_, hW, hC, fun _ _ => rfl, fun μ' hM => ⟨μ', ?_, hM, fun _ _ => rfl⟩⟩
      · unfold fX11_names
        rw [e_isWithin, zBd_s, hz, z_bt, e_isWithin, zBd_s, hz2, z_bf]
      · unfold fX12_names
        rw [e_in, zBd_s, hz, z_bt, e_in, zBd_s, hz2, z_bf]
    · obtain ⟨n, hn1, hn2, rfl⟩ := zIn_t (by decide) (by decide) hz
      obtain ⟨M, hm1, hm2, rfl⟩ := zIn_t (by decide) (by decide) hz2
      have hb := hW.1.2
      by_cases ht : n + M ≤ aT A
      · obtain ⟨r, m, e1, rfl, hfr⟩ := e_apart hF (zOp_TB hW hC ht) hb hn2 hm2
        refine ⟨nI (zEd (aB A) n n M), aST A 0 (aB A), zUp m 1 1 (nI 0), ?_, hW.tape (by omega) hb, rc_desk hC (fun c hc => hfr c (by omega)), fun c hc => by rw [zUp_ne (by omega), hfr c (by omega), zOp_ne (by omega)], fun μ' hM => ?_⟩
        · unfold fX11_names
          rw [e_isWithin, zBd_s, hz, z_bt, e_isWithin, zBd_s, hz2, z_bt, nI_add, e_opens_t hC.1.1 hW.1.1 ht, zBd_s, z_bt, e1, zBd_s, e_empties, zBd_s]
        · obtain ⟨r, m, e1, rfl, hfr⟩ := e_mNames hF (zUp_TO hW hM ht) hb hn2 hm2
          refine ⟨m, ?_, rm_desk hM (fun c h1 _ => hfr c h1), fun c hc => by rw [hfr c (by omega), zUp_ne (by omega)]⟩
          unfold fX12_names
          rw [e_in, zBd_s, hz, z_bt, e_in, zBd_s, hz2, z_bt, nI_add, hM.1.1, if_pos ((nI_leI (by omega) (by have := hW.1.1; omega)).mpr ht)]
          exact e1
      · refine ⟨-1, A, μ, ?_, hW, hC, fun _ _ => rfl, fun μ' hM => ⟨μ', ?_, hM, fun _ _ => rfl⟩⟩
        · unfold fX11_names
          rw [e_isWithin, zBd_s, hz, z_bt, e_isWithin, zBd_s, hz2, z_bt, nI_add, e_opens_f hC.1.1 hW.1.1 (by omega) (by omega), zBd_s, z_bf]
        · unfold fX12_names
          rw [e_in, zBd_s, hz, z_bt, e_in, zBd_s, hz2, z_bt, nI_add, hM.1.1, if_neg (fun z => ht ((nI_leI (by omega) (by have := hW.1.1; omega)).mp z))]
