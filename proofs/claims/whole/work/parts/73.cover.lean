/-! ===== covers ===== -/
def yC (m b : Nat) : Nat := fb_ct (fun k => b.testBit k) m
theorem zPopN_yC (b : Nat) : ∀ m, zPopN m b = yC m b
  | 0 => rfl
  | m + 1 => by
    rw [zPopN_split m 1 b, zPopN_yC b m]
    unfold yC
    rw [fb_ct_succ]
    congr 1
    show 0 + ((b / 2 ^ m).testBit 0).toNat = _
    rw [Nat.testBit_div_two_pow, Nat.zero_add, Nat.zero_add]
    cases b.testBit m <;> rfl
theorem zPop_yC (b : Nat) : zPop b = yC 16 b := zPopN_yC b 16
def yCv (M : Nat → Nat) (X T : Nat) : Prop := ∀ t, X.testBit t = true → ∃ j, T.testBit j = true ∧ (M j).testBit t = true
theorem lt_of_nbit {T i : Nat} (h : T < 2 ^ (i + 1)) (hb : T.testBit i = false) : T < 2 ^ i := Nat.lt_pow_two_of_testBit T (fun j hj => by
  by_cases e : j = i
  · rw [e]; exact hb
  · exact Nat.testBit_lt_two_pow (Nat.lt_of_lt_of_le h (Nat.pow_le_pow_right (by decide) (by omega))))
theorem nbit_of_lt {T i j : Nat} (h : T < 2 ^ i) (hj : i ≤ j) : T.testBit j = false := Nat.testBit_lt_two_pow (Nat.lt_of_lt_of_le h (Nat.pow_le_pow_right (by decide) hj))
theorem or_add {T i : Nat} (h : T < 2 ^ i) : T ||| 2 ^ i = T + 2 ^ i := by
  have := Nat.two_pow_add_eq_or_of_lt h 1
  rw [Nat.mul_one] at this
  rw [Nat.or_comm, ← this, Nat.add_comm]
theorem split_bit {T i : Nat} (h : T < 2 ^ (i + 1)) (hb : T.testBit i = true) : ∃ T0, T0 < 2 ^ i ∧ T = T0 ||| 2 ^ i := by
  refine ⟨T % 2 ^ i, Nat.mod_lt _ (Nat.two_pow_pos i), ?_⟩
  apply Nat.eq_of_testBit_eq
  intro j
  rw [Nat.testBit_or, Nat.testBit_mod_two_pow, Nat.testBit_two_pow]
  by_cases e : j = i
  · subst e; simp [hb]
  · by_cases e2 : j < i
    · simp [e2, Ne.symm e]
    · have : T.testBit j = false := nbit_of_lt h (by omega)
      simp [this, Ne.symm e]
theorem yC_or {T i m : Nat} (h : T < 2 ^ i) (hi : i < m) : yC m (T ||| 2 ^ i) = yC m T + 1 := by
  have e1 := fb_ct_upd (fun k => T.testBit k) true hi
  have hb : T.testBit i = false := nbit_of_lt h (Nat.le_refl _)
  rw [if_neg (by rw [hb]; decide), if_pos rfl] at e1
  unfold yC
  rw [← e1, Nat.add_zero]
  refine fb_ct_cong (fun k _ => ?_)
  rw [Nat.testBit_or, Nat.testBit_two_pow]
  by_cases e : k = i
  · subst e; simp
  · simp [e, Ne.symm e]
theorem yC_0 (m : Nat) : yC m 0 = 0 := fb_ct_zero.mpr (fun k _ => Nat.zero_testBit k)
theorem yC_mono {m a b : Nat} (h : ∀ t, a.testBit t = true → b.testBit t = true) : yC m a ≤ yC m b := fb_ct_sub (fun k _ hk => h k hk)
theorem cv_or {M : Nat → Nat} {X T i : Nat} (hX : X < 65536) : yCv M X (T ||| 2 ^ i) ↔ yCv M (nAn X (M i)) T := by
  constructor
  · intro h t ht
    rw [nAn_bit hX, Bool.and_eq_true, Bool.not_eq_true'] at ht
    obtain ⟨j, h1, h2⟩ := h t ht.1
    rw [tb_or2, Bool.or_eq_true, decide_eq_true_eq] at h1
    rcases h1 with h1 | h1
    · exact ⟨j, h1, h2⟩
    · subst h1; rw [h2] at ht; cases ht.2
  · intro h t ht
    cases hm : (M i).testBit t
    · obtain ⟨j, h1, h2⟩ := h t (by rw [nAn_bit hX, ht, hm]; rfl)
      exact ⟨j, by rw [tb_or2, h1, Bool.true_or], h2⟩
    · exact ⟨i, by rw [tb_or2]; simp, hm⟩
theorem cv_0 {M : Nat → Nat} {X : Nat} (h : yCv M X 0) : X = 0 := by
  refine eq_of_bits fun t => ⟨fun ht => ?_, fun ht => ?_⟩
  · obtain ⟨j, h1, _⟩ := h t ht
    rw [Nat.zero_testBit] at h1; cases h1
  · rw [Nat.zero_testBit] at ht; cases ht
theorem cv_z {M : Nat → Nat} (T : Nat) : yCv M 0 T := fun t ht => by rw [Nat.zero_testBit] at ht; cases ht
theorem nAn_0 {a b : Nat} (ha : a < 65536) : nAn a b = 0 ↔ ∀ t, a.testBit t = true → b.testBit t = true := by
  constructor
  · intro h t ht
    have := nAn_bit (b := b) (i := t) ha
    rw [h, Nat.zero_testBit, ht, Bool.true_and] at this
    cases hb : b.testBit t
    · rw [hb] at this; cases this
    · rfl
  · intro h
    refine eq_of_bits fun t => ⟨fun ht => ?_, fun ht => by rw [Nat.zero_testBit] at ht; cases ht⟩
    rw [nAn_bit ha, Bool.and_eq_true, Bool.not_eq_true'] at ht
    rw [h t ht.1] at ht
    cases ht.2
/-- so many are missing at the most -/
theorem yC_sub_split {X Mi : Nat} (hX : X < 65536) : yC 16 X = yC 16 (X &&& Mi) + yC 16 (nAn X Mi) := by
  unfold yC
  rw [← fb_ct_or (p := fun k => (X &&& Mi).testBit k) (q := fun k => (nAn X Mi).testBit k)]
  · refine fb_ct_cong (fun k _ => ?_)
    rw [nAn_bit hX, Nat.testBit_and]
    cases X.testBit k <;> cases Mi.testBit k <;> rfl
  · intro k _ h
    rw [nAn_bit hX, Nat.testBit_and] at h
    revert h
    cases X.testBit k <;> cases Mi.testBit k <;> simp
theorem cv_pop {M : Nat → Nat} {W L : Nat} : ∀ N, N ≤ 20 → (∀ j, j < N → yC 16 (M j &&& W) ≤ L) → ∀ X T, X < 65536 → (∀ t, X.testBit t = true → W.testBit t = true) → T < 2 ^ N → yCv M X T → yC 16 X ≤ yC 20 T * L
  | 0, _, _, X, T, _, _, hT, hc => by
    have : T = 0 := by simpa using hT
    subst this
    rw [cv_0 hc, yC_0]; exact Nat.zero_le _
  | N + 1, hN, hL, X, T, hX, hW, hT, hc => by
    cases hb : T.testBit N
    · exact cv_pop N (by omega) (fun j hj => hL j (by omega)) X T hX hW (lt_of_nbit hT hb) hc
    · obtain ⟨T0, h0, rfl⟩ := split_bit hT hb
      have h1 := cv_pop N (by omega) (fun j hj => hL j (by omega)) (nAn X (M N)) T0 (nAn_lt hX) (fun t ht => hW t (by rw [nAn_bit hX, Bool.and_eq_true] at ht; exact ht.1)) h0 ((cv_or hX).mp hc)
      have h2 := yC_sub_split (Mi := M N) hX
      have h3 : yC 16 (X &&& M N) ≤ yC 16 (M N &&& W) := yC_mono (fun t ht => by
        rw [Nat.testBit_and, Bool.and_eq_true] at ht ⊢
        exact ⟨ht.2, hW t ht.1⟩)
      have h4 := hL N (by omega)
      rw [yC_or h0 (by omega), Nat.add_mul, Nat.one_mul]
      omega
/-- if some cover, then one of no more than 16 -/
theorem cv_few {M : Nat → Nat} : ∀ N, N ≤ 20 → ∀ X T, X < 65536 → T < 2 ^ N → yCv M X T → ∃ T1, T1 < 2 ^ N ∧ yCv M X T1 ∧ yC 20 T1 ≤ yC 16 X
  | 0, _, X, T, _, hT, hc => by
    have : T = 0 := by simpa using hT
    subst this
    exact ⟨0, hT, hc, by rw [yC_0]; exact Nat.zero_le _⟩
  | N + 1, hN, X, T, hX, hT, hc => by
    have hp : 2 ^ N < 2 ^ (N + 1) := Nat.pow_lt_pow_right (by decide) (by omega)
    cases hb : T.testBit N
    · obtain ⟨T1, a1, a2, a3⟩ := cv_few N (by omega) X T hX (lt_of_nbit hT hb) hc
      exact ⟨T1, by omega, a2, a3⟩
    · obtain ⟨T0, h0, rfl⟩ := split_bit hT hb
      have hc0 := (cv_or hX).mp hc
      by_cases hz : X &&& M N = 0
      · have e : nAn X (M N) = X := eq_of_bits fun t => by
          rw [nAn_bit hX, Bool.and_eq_true, Bool.not_eq_true']
          refine ⟨fun z => z.1, fun z => ⟨z, ?_⟩⟩
          cases hm : (M N).testBit t
          · rfl
          · have : (X &&& M N).testBit t = true := by rw [Nat.testBit_and, z, hm]; rfl
            rw [hz, Nat.zero_testBit] at this; cases this
        rw [e] at hc0
        obtain ⟨T1, a1, a2, a3⟩ := cv_few N (by omega) X T0 hX h0 hc0
        exact ⟨T1, by omega, a2, a3⟩
      · obtain ⟨T1, a1, a2, a3⟩ := cv_few N (by omega) (nAn X (M N)) T0 (nAn_lt hX) h0 hc0
        have h2 := yC_sub_split (Mi := M N) hX
        have h3 : 0 < yC 16 (X &&& M N) := by
          have hlt : X &&& M N < 65536 := Nat.lt_of_le_of_lt Nat.and_le_left hX
          have := yPc_grow (S := 0) hlt (fun t ht => by rw [Nat.zero_testBit] at ht; cases ht) hz
          exact Nat.lt_of_le_of_lt (Nat.zero_le _) this
        refine ⟨T1 ||| 2 ^ N, by rw [or_add a1, Nat.pow_succ]; omega, (cv_or hX).mpr a2, ?_⟩
        rw [yC_or a1 (by omega)]
        omega
/-- the class's rows -/
def yCoC (M To L : Nat → Nat) (N : Nat) (μ : zMem) : Prop := ∀ j, j < N → μ 51 j = nI (M j) ∧ μ 52 j = nI (To j) ∧ μ 53 j = nI (L j)
def yCoW (M To L : Nat → Nat) (W N : Nat) : Prop := N ≤ 20 ∧ ∀ j, j < N → M j < 65536 ∧ To j < 65536 ∧ L j ≤ 16 ∧ (∀ t, (To j).testBit t = true ↔ ∃ i, i ≤ j ∧ (M i).testBit t = true) ∧ ∀ i, i ≤ j → yC 16 (M i &&& W) ≤ L j
def yLeast (M : Nat → Nat) (N X l T : Nat) : Prop := T < 2 ^ N ∧ yCv M X T ∧ yC 20 T ≤ l ∧ ∀ T1, T1 < 2 ^ N → yCv M X T1 → yC 20 T1 ≤ l → T ≤ T1
def yNone (M : Nat → Nat) (N X l : Nat) : Prop := ∀ T1, T1 < 2 ^ N → yCv M X T1 → ¬ yC 20 T1 ≤ l
theorem e_isCovered {F : Nat} {M To L : Nat → Nat} {W N : Nat} (hw : yCoW M To L W N) : ∀ i D X l ch μ, i ≤ N → i < D → X < 65536 → l ≤ 16 → (∀ t, X.testBit t = true → W.testBit t = true) → yCoC M To L N μ → μ 50 3 = nI ch → zTo (fX2_isCovered F D (nI i + (-1 : Int32)) (nI X) (nI l) μ) (fun r μ1 => (∀ c, c ≠ 50 → μ1 c = μ c) ∧ ((r = zB true ∧ ∃ T, yLeast M i X l T ∧ μ1 50 3 = nI (ch ||| T)) ∨ (r = zB false ∧ yNone M i X l ∧ μ1 50 3 = nI ch))) := by
  intro i
  induction i with
  | zero =>
    intro D X l ch μ hi hD hX hl hW hC h50
    obtain ⟨D, rfl⟩ := z_s hD
    show zTo (bX2_isCovered F (fX2_isCovered F D) (nI 0 + (-1 : Int32)) (nI X) (nI l) μ) _
    unfold bX2_isCovered
    by_cases hx : X = 0
    · subst hx
      rw [if_pos (show nI 0 = 0 from rfl)]
      exact zTo_ret ⟨fun _ _ => rfl, Or.inl ⟨rfl, 0, ⟨by decide, cv_z 0, by rw [yC_0]; exact Nat.zero_le _, fun _ _ _ _ => Nat.zero_le _⟩, by rw [h50, Nat.or_zero]⟩⟩
    · rw [if_neg (fun z => hx ((nI_z (by omega)).mp z)), if_pos (show nI 0 + (-1 : Int32) < 0 by decide)]
      refine zTo_ret ⟨fun _ _ => rfl, Or.inr ⟨rfl, fun T1 h1 h2 _ => hx ?_, h50⟩⟩
      have : T1 = 0 := by simpa using h1
      subst this
      exact cv_0 h2
  | succ i ih =>
    intro D X l ch μ hi hD hX hl hW hC h50
    obtain ⟨D, rfl⟩ := z_s hD
    have hp : 2 ^ i < 2 ^ (i + 1) := Nat.pow_lt_pow_right (by decide) (by omega)
    obtain ⟨hN, hwj⟩ := hw
    obtain ⟨w1, w2, w3, w4, w5⟩ := hwj i (by omega)
    obtain ⟨c1, c2, c3⟩ := hC i (by omega)
    show zTo (bX2_isCovered F (fX2_isCovered F D) (nI (i + 1) + (-1 : Int32)) (nI X) (nI l) μ) _
    unfold bX2_isCovered
    by_cases hx : X = 0
    · subst hx
      rw [if_pos (show nI 0 = 0 from rfl)]
      exact zTo_ret ⟨fun _ _ => rfl, Or.inl ⟨rfl, 0, ⟨Nat.two_pow_pos _, cv_z 0, by rw [yC_0]; exact Nat.zero_le _, fun _ _ _ _ => Nat.zero_le _⟩, by rw [h50, Nat.or_zero]⟩⟩
    · rw [if_neg (fun z => hx ((nI_z (by omega)).mp z)), nI_sub1, if_neg (nI_nlt0 (by omega)), zG_in rfl (by omega) (by decide), nI_clamp (by omega), c2, zq_andn hX]
      have hxl := nAn_lt (b := To i) hX
      by_cases hto : nAn X (To i) = 0
      · have hpop : zPop X ≤ 16 := zPop_le X
        have hll : l * L i ≤ 16 * 16 := Nat.mul_le_mul hl w3
        rw [if_pos ((nI_z (by omega)).mpr hto), e_bitCount hX, zBd_s, zG_in rfl (by omega) (by decide), c3, pk_mul]
        by_cases hcnt : zPop X ≤ l * L i
        · rw [if_pos ((nI_leI (by omega) (by omega)).mpr hcnt)]
          have es : nI i - nI 1 = nI i + (-1 : Int32) := by rw [Int32.sub_eq_add_neg]; rfl
          rw [es]
          refine zTo_bd (ih D X l ch μ (by omega) (by omega) hX hl hW hC h50) ?_
          rintro r m ⟨hfr, ⟨rfl, T, ⟨t1, t2, t3, t4⟩, ht⟩ | ⟨rfl, hno, hch⟩⟩
          · rw [if_neg (show ¬ zB true = 0 by decide)]
            refine zTo_ret ⟨hfr, Or.inl ⟨rfl, T, ⟨by omega, t2, t3, fun T1 q1 q2 q3 => ?_⟩, ht⟩⟩
            cases hb : T1.testBit i
            · exact t4 T1 (lt_of_nbit q1 hb) q2 q3
            · obtain ⟨T0, h0, rfl⟩ := split_bit q1 hb
              rw [or_add h0]
              omega
          · rw [if_pos (show zB false = 0 by decide), zG_in rfl (by omega) (by decide)]
            have hC2 : yCoC M To L N m := fun j hj => by rw [hfr 51 (by decide), hfr 52 (by decide), hfr 53 (by decide)]; exact hC j hj
            rw [(hC2 i (by omega)).1, fa_and]
            have hal : X &&& M i < 65536 := Nat.lt_of_le_of_lt Nat.and_le_left hX
            by_cases hz : X &&& M i = 0
            · rw [if_pos ((nI_z (by omega)).mpr hz)]
              refine zTo_ret ⟨hfr, Or.inr ⟨rfl, fun T1 q1 q2 q3 => ?_, hch⟩⟩
              cases hb : T1.testBit i
              · exact hno T1 (lt_of_nbit q1 hb) q2 q3
              · obtain ⟨T0, h0, rfl⟩ := split_bit q1 hb
                rw [yC_or h0 (by omega)] at q3
                refine hno T0 h0 (fun t ht => ?_) (by omega)
                obtain ⟨j, j1, j2⟩ := q2 t ht
                rw [tb_or2, Bool.or_eq_true, decide_eq_true_eq] at j1
                rcases j1 with j1 | j1
                · exact ⟨j, j1, j2⟩
                · subst j1
                  have : (X &&& M i).testBit t = true := by rw [Nat.testBit_and, ht, j2]; rfl
                  rw [hz, Nat.zero_testBit] at this; cases this
            · rw [if_neg (fun z => hz ((nI_z (by omega)).mp z)), zG_in rfl (by omega) (by decide), zq_andn hX]
              have hl1 : 1 ≤ l := by
                rcases Nat.lt_or_ge 0 l with h | h
                · exact h
                · have hl0 : l = 0 := by omega
                  subst hl0
                  rw [Nat.zero_mul, zPop_yC] at hcnt
                  have := yPc_grow (S := 0) hX (fun t ht => by rw [Nat.zero_testBit] at ht; cases ht) hx
                  have h3 : yC 16 X = yPc X := rfl
                  omega
              rw [pk_sub hl1]
              refine zTo_bd (ih D (nAn X (M i)) (l - 1) ch m (by omega) (by omega) (nAn_lt hX) (by omega) (fun t ht => hW t (by rw [nAn_bit hX, Bool.and_eq_true] at ht; exact ht.1)) hC2 hch) ?_
              rintro r2 m2 ⟨hfr2, ⟨rfl, T, ⟨t1, t2, t3, t4⟩, ht⟩ | ⟨rfl, hno2, hch2⟩⟩
              · rw [if_neg (show ¬ zB true = 0 by decide), ht, zq_1shl (by omega), fa_or]
                refine zTo_let fun m3 h3 => ?_
                subst h3
                refine zTo_ret ⟨fun c hc => by rw [zUp_ne hc, hfr2 c hc, hfr c hc], Or.inl ⟨rfl, T ||| 2 ^ i, ⟨by rw [or_add t1, Nat.pow_succ]; omega, (cv_or hX).mpr t2, by rw [yC_or t1 (by omega)]; omega, fun T1 q1 q2 q3 => ?_⟩, by rw [zUp_s, Nat.or_assoc]⟩⟩
                cases hb : T1.testBit i
                · exact absurd q3 (hno T1 (lt_of_nbit q1 hb) q2)
                · obtain ⟨T0, h0, rfl⟩ := split_bit q1 hb
                  rw [yC_or h0 (by omega)] at q3
                  have := t4 T0 h0 ((cv_or hX).mp q2) (by omega)
                  rw [or_add h0, or_add t1]
                  omega
              · rw [if_pos (show zB false = 0 by decide)]
                refine zTo_ret ⟨fun c hc => by rw [hfr2 c hc, hfr c hc], Or.inr ⟨rfl, fun T1 q1 q2 q3 => ?_, hch2⟩⟩
                cases hb : T1.testBit i
                · exact hno T1 (lt_of_nbit q1 hb) q2 q3
                · obtain ⟨T0, h0, rfl⟩ := split_bit q1 hb
                  rw [yC_or h0 (by omega)] at q3
                  exact hno2 T0 h0 ((cv_or hX).mp q2) (by omega)
        · rw [if_neg (fun z => hcnt ((nI_leI (by omega) (by omega)).mp z))]
          refine zTo_ret ⟨fun _ _ => rfl, Or.inr ⟨rfl, fun T1 q1 q2 q3 => hcnt ?_, h50⟩⟩
          have := cv_pop (M := M) (W := W) (L := L i) (i + 1) (by omega) (fun j hj => w5 j (by omega)) X T1 hX hW q1 q2
          rw [zPop_yC]
          exact Nat.le_trans this (Nat.mul_le_mul_right _ q3)
      · rw [if_neg (fun z => hto ((nI_z (by omega)).mp z))]
        refine zTo_ret ⟨fun _ _ => rfl, Or.inr ⟨rfl, fun T1 q1 q2 _ => hto ?_, h50⟩⟩
        refine (nAn_0 hX).mpr fun t ht => ?_
        obtain ⟨j, j1, j2⟩ := q2 t ht
        refine (w4 t).mpr ⟨j, ?_, j2⟩
        rcases Nat.lt_or_ge i j with h | h
        · rw [nbit_of_lt q1 (by omega)] at j1; cases j1
        · exact h
