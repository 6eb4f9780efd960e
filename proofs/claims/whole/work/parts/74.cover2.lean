def yTo (M : Nat → Nat) : Nat → Nat
  | 0 => 0
  | j + 1 => yTo M j ||| M j
def yLg (M : Nat → Nat) (W : Nat) : Nat → Nat
  | 0 => 0
  | j + 1 => max (yLg M W j) (zPop (M j &&& W))
theorem yTo_bit {M : Nat → Nat} {t : Nat} : ∀ j, (yTo M j).testBit t = true ↔ ∃ i, i < j ∧ (M i).testBit t = true
  | 0 => by
    show (0 : Nat).testBit t = true ↔ _
    rw [Nat.zero_testBit]
    constructor
    · intro z; cases z
    · rintro ⟨i, h, _⟩; omega
  | j + 1 => by
    show (yTo M j ||| M j).testBit t = true ↔ _
    rw [Nat.testBit_or, Bool.or_eq_true, yTo_bit j]
    constructor
    · rintro (⟨i, h1, h2⟩ | h)
      · exact ⟨i, by omega, h2⟩
      · exact ⟨j, by omega, h⟩
    · rintro ⟨i, h1, h2⟩
      by_cases e : i = j
      · exact Or.inr (e ▸ h2)
      · exact Or.inl ⟨i, by omega, h2⟩
theorem yTo_lt {M : Nat → Nat} : ∀ j, (∀ i, i < j → M i < 65536) → yTo M j < 65536
  | 0, _ => by show 0 < 65536; decide
  | j + 1, h => Nat.or_lt_two_pow (n := 16) (yTo_lt j (fun i hi => h i (by omega))) (h j (by omega))
theorem yLg_le {M : Nat → Nat} {W : Nat} : ∀ j, yLg M W j ≤ 16
  | 0 => by show 0 ≤ 16; decide
  | j + 1 => by
    have h1 := yLg_le (M := M) (W := W) j
    have h2 := zPop_le (M j &&& W)
    show max (yLg M W j) (zPop (M j &&& W)) ≤ 16
    omega
theorem yLg_ge {M : Nat → Nat} {W : Nat} : ∀ j i, i < j → yC 16 (M i &&& W) ≤ yLg M W j
  | 0, _, h => by omega
  | j + 1, i, h => by
    show yC 16 (M i &&& W) ≤ max (yLg M W j) (zPop (M j &&& W))
    by_cases e : i = j
    · subst e; rw [zPop_yC]; omega
    · have := yLg_ge (M := M) (W := W) j i (by omega); omega
def yBest (M : Nat → Nat) (N X T : Nat) : Prop := T < 2 ^ N ∧ yCv M X T ∧ ∀ T1, T1 < 2 ^ N → yCv M X T1 → yC 20 T < yC 20 T1 ∨ (yC 20 T = yC 20 T1 ∧ T ≤ T1)
theorem e_finds {F N W : Nat} {M : Nat → Nat} {μ : zMem} (hF : 30 ≤ F) (hN : N ≤ 20) (hW : W < 65536) (hM : ∀ j, j < N → M j < 65536) (h51 : ∀ j, j < N → μ 51 j = nI (M j)) : zTo (fX2_finds F (nI N) (nI W) μ) (fun r μ1 => (∀ c, c ≠ 50 → c ≠ 52 → c ≠ 53 → μ1 c = μ c) ∧ ((r = zB true ∧ ∃ T, yBest M N W T ∧ μ1 50 3 = nI T) ∨ (r = zB false ∧ ∀ T, T < 2 ^ N → ¬ yCv M W T))) := by
  have hcw : yCoW M (fun j => yTo M (j + 1)) (fun j => yLg M W (j + 1)) W N := ⟨hN, fun j hj => ⟨hM j hj, yTo_lt _ (fun i hi => hM i (by omega)), yLg_le _, fun t => by
    rw [yTo_bit]
    exact ⟨fun ⟨i, h1, h2⟩ => ⟨i, by omega, h2⟩, fun ⟨i, h1, h2⟩ => ⟨i, by omega, h2⟩⟩, fun i hi => yLg_ge _ i (by omega)⟩⟩
  have k74 : ∀ d l f m, l + d = 17 → d < f → (∀ c, c ≠ 50 → c ≠ 52 → c ≠ 53 → m c = μ c) → yCoC M (fun j => yTo M (j + 1)) (fun j => yLg M W (j + 1)) N m → m 50 3 = nI 0 → (∀ T, T < 2 ^ N → yCv M W T → l ≤ yC 20 T) → zTo (fX2_finds_74 F f (nI N) (nI W) (nI l) m) (fun r μ1 => (∀ c, c ≠ 50 → c ≠ 52 → c ≠ 53 → μ1 c = μ c) ∧ ((r = zB true ∧ ∃ T, yBest M N W T ∧ μ1 50 3 = nI T) ∨ (r = zB false ∧ ∀ T, T < 2 ^ N → ¬ yCv M W T))) := by
    intro d
    induction d with
    | zero =>
      intro l f m hl hf hfr hC h50 hno
      obtain ⟨f, rfl⟩ := z_s hf
      rw [fX2_finds_74, if_pos ((nI_ltI (by decide) (by omega)).mpr (by omega))]
      refine zTo_ret ⟨hfr, Or.inr ⟨rfl, fun T h1 h2 => ?_⟩⟩
      obtain ⟨T1, a1, a2, a3⟩ := cv_few N hN W T hW h1 h2
      have := hno T1 a1 a2
      have : yC 16 W ≤ 16 := fb_ct_le _ _
      omega
    | succ d ih =>
      intro l f m hl hf hfr hC h50 hno
      obtain ⟨f, rfl⟩ := z_s hf
      have es : nI N - nI 1 = nI N + (-1 : Int32) := by rw [Int32.sub_eq_add_neg]; rfl
      rw [fX2_finds_74, if_neg (fun z => by have := (nI_ltI (by decide) (by omega)).mp z; omega), es]
      refine zTo_bd (e_isCovered hcw N 40 W l 0 m (Nat.le_refl _) (by omega) hW (by omega) (fun _ h => h) hC h50) ?_
      rintro r m2 ⟨hfr2, ⟨rfl, T, ⟨t1, t2, t3, t4⟩, ht⟩ | ⟨rfl, hno2, hch2⟩⟩
      · rw [if_neg (show ¬ zB true = 0 by decide)]
        refine zTo_ret ⟨fun c c1 c2 c3 => by rw [hfr2 c c1, hfr c c1 c2 c3], Or.inl ⟨rfl, T, ⟨t1, t2, fun T1 q1 q2 => ?_⟩, by rw [ht, Nat.zero_or]⟩⟩
        have h1 := hno T t1 t2
        have h2 := hno T1 q1 q2
        by_cases h3 : yC 20 T1 ≤ l
        · exact Or.inr ⟨by omega, t4 T1 q1 q2 h3⟩
        · exact Or.inl (by omega)
      · rw [if_pos (show zB false = 0 by decide), nI_add]
        refine ih (l + 1) f m2 (by omega) (by omega) (fun c c1 c2 c3 => by rw [hfr2 c c1, hfr c c1 c2 c3]) (fun j hj => by rw [hfr2 51 (by decide), hfr2 52 (by decide), hfr2 53 (by decide)]; exact hC j hj) hch2 (fun T q1 q2 => ?_)
        have := hno2 T q1 q2
        omega
  have k13 : ∀ d k f m, k + d = N → d < f → (∀ c, c ≠ 50 → c ≠ 52 → c ≠ 53 → m c = μ c) → m 50 3 = nI 0 → (∀ j, j < k → m 52 j = nI (yTo M (j + 1)) ∧ m 53 j = nI (yLg M W (j + 1))) → zTo (fX2_finds_13 F f (nI N) (nI W) (nI (yTo M k)) (nI (yLg M W k)) (nI k) m) (fun r μ1 => (∀ c, c ≠ 50 → c ≠ 52 → c ≠ 53 → μ1 c = μ c) ∧ ((r = zB true ∧ ∃ T, yBest M N W T ∧ μ1 50 3 = nI T) ∨ (r = zB false ∧ ∀ T, T < 2 ^ N → ¬ yCv M W T))) := by
    intro d
    induction d with
    | zero =>
      intro k f m hk hf hfr h50 hrows
      obtain ⟨f, rfl⟩ := z_s hf
      rw [fX2_finds_13, z_done (by omega) (by omega)]
      exact k74 17 0 F m rfl (by omega) hfr (fun j hj => ⟨by rw [hfr 51 (by decide) (by decide) (by decide)]; exact h51 j hj, hrows j (by omega)⟩) h50 (fun _ _ _ => Nat.zero_le _)
    | succ d ih =>
      intro k f m hk hf hfr h50 hrows
      obtain ⟨f, rfl⟩ := z_s hf
      have hMk := hM k (by omega)
      have hand : M k &&& W < 65536 := Nat.lt_of_le_of_lt Nat.and_le_left hMk
      have hp := zPop_le (M k &&& W)
      have hl := yLg_le (M := M) (W := W) k
      have e51 : m 51 k = nI (M k) := by rw [hfr 51 (by decide) (by decide) (by decide)]; exact h51 k (by omega)
      rw [fX2_finds_13, z_more (by omega) (by omega), zG_in rfl (by omega) (by decide), zG_in rfl (by omega) (by decide), nI_clamp (by omega), e51, fa_and, e_bitCount hand, zBd_s, e_max (by omega) (by omega), zBd_s, zG_in rfl (by omega) (by decide), fa_or, nI_add]
      refine zTo_let fun m6 h6 => ?_
      rw [zG_in rfl (by omega) (by decide)]
      refine zTo_let fun m8 h8 => ?_
      refine ih (k + 1) f m8 (by omega) (by omega) (fun c c1 c2 c3 => by rw [h8, zUp_ne c3, h6, zUp_ne c2, hfr c c1 c2 c3]) (by rw [h8, zUp_ne (by decide), h6, zUp_ne (by decide)]; exact h50) (fun j hj => ?_)
      by_cases e : j = k
      · subst e
        rw [h8, zUp_ne (show 52 ≠ 53 by decide), zUp_s, h6, zUp_s]
        exact ⟨rfl, rfl⟩
      · rw [h8, zUp_ne (show 52 ≠ 53 by decide), zUp_o e, h6, zUp_o e, zUp_ne (show 53 ≠ 52 by decide)]
        exact hrows j (by omega)
  unfold fX2_finds
  refine zTo_let fun m1 h1 => ?_
  exact k13 N 0 F m1 (by omega) (by omega) (fun c c1 _ _ => by rw [h1, zUp_ne c1]) (by rw [h1, zUp_s]) (fun j hj => by omega)
/-! ===== enough ===== -/
def yAny (s : zPS) : Nat := zFold (fun p a => a ||| zSec s p) 16 0 0
theorem e_knownToAny {F h : Nat} {s : zPS} {μ : zMem} (hF : 17 ≤ F) (hr : zRepS h s μ) (hw : zWFS s) : fX8_knownToAny F h μ = some (nI (yAny s), μ) := by
  have key : ∀ m k a n, k + m = 16 → m < n → fX8_knownToAny_4 F h n (nI a) (nI k) μ = some (nI (zFold (fun p a => a ||| zSec s p) m k a), μ) := by
    intro m
    induction m with
    | zero =>
      intro k a n hk hn
      obtain ⟨n, rfl⟩ := z_s hn
      rw [fX8_knownToAny_4, z_done (by omega) (by omega)]
      rfl
    | succ m ih =>
      intro k a n hk hn
      obtain ⟨n, rfl⟩ := z_s hn
      rw [fX8_knownToAny_4, z_more (by omega) (by decide), e_secretsOf hr hw (by omega), zBd_s, nI_add, fa_or]
      exact ih (k + 1) _ n (by omega) (by omega)
  exact key 16 0 0 F rfl (by omega)
theorem e_knownByAny {F : Nat} {s : zPS} {μ : zMem} (hF : 17 ≤ F) (hr : zRepN 61 s μ) (hw : zWFS s) : fX12_knownByAny F μ = some (nI (yAny s), μ) := by
  have key : ∀ m k a n, k + m = 16 → m < n → fX12_knownByAny_4 F n (nI a) (nI k) μ = some (nI (zFold (fun p a => a ||| zSec s p) m k a), μ) := by
    intro m
    induction m with
    | zero =>
      intro k a n hk hn
      obtain ⟨n, rfl⟩ := z_s hn
      rw [fX12_knownByAny_4, z_done (by omega) (by omega)]
      rfl
    | succ m ih =>
      intro k a n hk hn
      obtain ⟨n, rfl⟩ := z_s hn
      rw [fX12_knownByAny_4, z_more (by omega) (by decide), e_mTold hr, zBd_s, zTold_n (by omega), nI_add, nI_add, zG_in rfl (by omega) (by decide), nI_clamp (by omega), hr.2.1 k (by omega), fa_or]
      show _ = some (nI (zFold _ m (k + 1) (a ||| zSec s k)), μ)
      unfold zSec
      cases (pT s).testBit k
      · rw [z_bf, if_neg (by decide), Nat.or_zero]
        exact ih (k + 1) _ n (by omega) (by omega)
      · rw [z_bt, if_pos rfl]
        exact ih (k + 1) _ n (by omega) (by omega)
  exact key 16 0 0 F rfl (by omega)
theorem yAny_bit {s : zPS} {t : Nat} : (yAny s).testBit t = true ↔ ∃ p, p < 16 ∧ (zSec s p).testBit t = true := by
  unfold yAny
  rw [zFold_bit (B := fun p => (zSec s p).testBit t = true) (fun k a => by rw [Nat.testBit_or, Bool.or_eq_true]), Nat.zero_testBit]
  constructor
  · rintro (h | ⟨i, _, h2, h3⟩)
    · cases h
    · exact ⟨i, by omega, h3⟩
  · rintro ⟨i, h2, h3⟩
    exact Or.inr ⟨i, by omega, by omega, h3⟩
theorem zSec_lt {s : zPS} (hw : zWFS s) {p : Nat} (hp : p < 16) : zSec s p < 65536 := by
  have := hw.2.2.2.1 p hp
  unfold zSec; split <;> omega
theorem yAny_lt {s : zPS} (hw : zWFS s) : yAny s < 65536 := lt16_of_bits fun t ht => by
  obtain ⟨p, hp, h⟩ := yAny_bit.mp ht
  exact bit_lt16 (zSec_lt hw hp) h
/-- what those of a set know together -/
def yUn (s : zPS) (S : Nat) : Nat := zFold (fun q a => if S.testBit q then a ||| pK s q else a) 16 0 0
theorem yUn_bit {s : zPS} {S t : Nat} : (yUn s S).testBit t = true ↔ ∃ q, q < 16 ∧ S.testBit q = true ∧ (pK s q).testBit t = true := by
  unfold yUn
  rw [zFold_bit (B := fun q => S.testBit q = true ∧ (pK s q).testBit t = true) (fun k a => or_if_bit), Nat.zero_testBit]
  constructor
  · rintro (h | ⟨i, _, h2, h3⟩)
    · cases h
    · exact ⟨i, by omega, h3⟩
  · rintro ⟨i, h2, h3⟩
    exact Or.inr ⟨i, by omega, by omega, h3⟩
theorem yUn_lt {s : zPS} (hw : zWFS s) (S : Nat) : yUn s S < 65536 := lt16_of_bits fun t ht => by
  obtain ⟨p, hp, _, h⟩ := yUn_bit.mp ht
  exact bit_lt16 (hw.2.2.2.1 p hp) h
/-- a set without its lowest one -/
theorem low_out {n l : Nat} (h1 : ∀ j, j < l → n.testBit j = false) (h2 : n.testBit l = true) : 0 < n ∧ ∀ j, (n &&& (n - 1)).testBit j = (n.testBit j && !decide (l = j)) := by
  have e0 : n % 2 ^ l = 0 := Nat.eq_of_testBit_eq (fun j => by
    rw [Nat.testBit_mod_two_pow, Nat.zero_testBit]
    by_cases hj : j < l
    · rw [h1 j hj, Bool.and_false]
    · rw [decide_eq_false hj, Bool.false_and])
  have e1 : n / 2 ^ l % 2 = 1 := by
    rw [Nat.testBit_eq_decide_div_mod_eq] at h2
    exact of_decide_eq_true h2
  have hpl := Nat.two_pow_pos l
  have e2 : n = 2 ^ (l + 1) * (n / 2 ^ l / 2) + 2 ^ l := by
    have a1 := Nat.div_add_mod n (2 ^ l)
    have a2 := Nat.div_add_mod (n / 2 ^ l) 2
    rw [e1] at a2
    rw [e0, Nat.add_zero] at a1
    rw [Nat.pow_succ, Nat.mul_assoc]
    generalize n / 2 ^ l = c at a1 a2 ⊢
    have : 2 ^ l * (2 * (c / 2)) + 2 ^ l = 2 ^ l * (2 * (c / 2) + 1) := by rw [Nat.mul_add, Nat.mul_one]
    rw [this, a2, a1]
  have hpos : 0 < n := by rw [e2]; omega
  refine ⟨hpos, fun j => ?_⟩
  have e3 : n - 1 = 2 ^ (l + 1) * (n / 2 ^ l / 2) + (2 ^ l - 1) := by omega
  have hlt : 2 ^ l < 2 ^ (l + 1) := Nat.pow_lt_pow_right (by decide) (by omega)
  rw [Nat.testBit_and, e3]
  generalize n / 2 ^ l / 2 = c at e2
  rw [Nat.testBit_two_pow_mul_add c (show 2 ^ l - 1 < 2 ^ (l + 1) by omega)]
  by_cases hj : j < l + 1
  · rw [if_pos hj, Nat.testBit_two_pow_sub_one]
    by_cases hjl : j < l
    · rw [h1 j hjl]; rfl
    · have : j = l := by omega
      subst this
      rw [decide_eq_false hjl, decide_eq_true rfl]
      simp
  · rw [if_neg hj, decide_eq_false (show ¬ l = j by omega)]
    have : n.testBit j = c.testBit (j - (l + 1)) := by
      conv => lhs; rw [e2]
      rw [Nat.testBit_two_pow_mul_add c hlt, if_neg hj]
    rw [this]
    simp
theorem yUn_low {s : zPS} {n l : Nat} (hl : l < 16) (h1 : ∀ j, j < l → n.testBit j = false) (h2 : n.testBit l = true) : yUn s (n &&& (n - 1)) ||| pK s l = yUn s n := eq_of_bits fun t => by
  have hb := (low_out h1 h2).2
  rw [Nat.testBit_or, Bool.or_eq_true, yUn_bit, yUn_bit]
  constructor
  · rintro (⟨q, a1, a2, a3⟩ | h)
    · rw [hb, Bool.and_eq_true] at a2
      exact ⟨q, a1, a2.1, a3⟩
    · exact ⟨l, hl, h2, h⟩
  · rintro ⟨q, a1, a2, a3⟩
    by_cases e : l = q
    · exact Or.inr (e ▸ a3)
    · exact Or.inl ⟨q, a1, by rw [hb, a2, decide_eq_false e]; rfl, a3⟩
