/-! ===== the law is read: conditions' loop ===== -/
theorem e_ctakes_t {F N p c : Nat} {b : Nat → Nat} {μ : zMem} (h : yTC N b p μ) (hN : N ≤ 260) (hp : p < N) (hc : b p = c) : fX9_takes F (nI c) μ = some (nI 1, zUp μ 1 2 (nI (p + 1))) := by
  unfold fX9_takes
  rw [e_sign h hN (by omega), zBd_s, ySg_in hp, if_pos (by rw [hc]), h.2.1, nI_add]
  rfl
theorem e_ctakes_f {F N p c : Nat} {b : Nat → Nat} {μ : zMem} (h : yTC N b p μ) (hN : N ≤ 260) (hp : p ≤ 260) (hb : b p < 256) (hc : c < 256) (hn : ¬ (p < N ∧ b p = c)) : fX9_takes F (nI c) μ = some (nI 0, μ) := by
  unfold fX9_takes
  rw [e_sign h hN hp, zBd_s, if_neg (fun z => hn ((ySg_eq hb hc).mp z))]
/-- the parts of a condition behind one more test -/
theorem sc_parts {a orr an : Nat} {k kT : yCd} (h : ySc a orr an k) (he : kE k kT) (ht : yST (yL kT) k.1 kT.1 24) : ∃ x, a ≤ x ∧ x ≤ k.1 ∧ an ≤ kT.1 ∧ orr ≤ kT.1 ∧ yJk kT orr 12 ∧ yJk kT an 11 ∧ (an ≠ 0 → orr ≠ an) ∧ (an ≠ 0 → a ≤ an - 1) ∧ (orr ≠ 0 → a ≤ orr - 1 ∧ orr = x) ∧ (orr ≠ 0 → an ≠ 0 → orr ≤ an - 1) ∧ (orr = 0 → a = x) ∧ (orr ≠ 0 → yST (yL (yLand kT an)) a (orr - 1) 24 ∧ kT.2.1 (orr - 1) = 12 ∧ kT.2.2 (orr - 1) = 0) ∧ yST (yL (yLand kT an)) x kT.1 24 ∧ yST (yL (yLand (yLand kT an) orr)) a kT.1 24 := by
  obtain ⟨x, hax, hxk, h1, h2⟩ := h
  have hlt := yST.lt ht
  have hke := he.1
  -- the and
  have pAn : an ≠ 0 → k.1 = an ∧ yST (yL k) x (an - 1) 24 ∧ k.2.1 (an - 1) = 11 ∧ k.2.2 (an - 1) = 0 := fun h0 => by rw [if_neg h0] at h2; exact h2
  have pOr : orr ≠ 0 → x = orr ∧ yST (yL k) a (orr - 1) 24 ∧ k.2.1 (orr - 1) = 12 ∧ k.2.2 (orr - 1) = 0 := fun h0 => by rw [if_neg h0] at h1; exact h1
  have lAn : an ≠ 0 → x < an - 1 := fun h0 => yST.lt (pAn h0).2.1
  have lOr : orr ≠ 0 → a < orr - 1 := fun h0 => yST.lt (pOr h0).2.1
  have part : yST (yL (yLand kT an)) x kT.1 24 := by
    by_cases h0 : an = 0
    · rw [if_pos h0] at h2
      rw [h0, yLand_0, h2]
      exact ht
    · obtain ⟨a1, a2, a3, a4⟩ := pAn h0
      have e1 : yST (yL (yLand kT an)) x (an - 1) 24 := a2.ext (fun i i1 i2 => by
        obtain ⟨b1, b2⟩ := he.2 i (by omega)
        exact ⟨(congrFun (yLand_O kT an) i).trans b1, (yLand_A (Or.inr (by omega))).trans b2⟩)
      have e2 : yST (yL (yLand kT an)) (an - 1 + 1) kT.1 24 := by
        rw [show an - 1 + 1 = k.1 by omega]
        exact ht.ext (fun i i1 i2 => ⟨congrFun (yLand_O kT an) i, yLand_A (Or.inr (by omega))⟩)
      exact e1.jmp (Or.inl ((congrFun (yLand_O kT an) (an - 1)).trans ((he.2 (an - 1) (by omega)).1.trans a3))) (yLand_s h0) e2
  have orAn : orr ≠ 0 → yST (yL (yLand kT an)) a (orr - 1) 24 ∧ kT.2.1 (orr - 1) = 12 ∧ kT.2.2 (orr - 1) = 0 := fun h0 => by
    obtain ⟨a1, a2, a3, a4⟩ := pOr h0
    obtain ⟨b1, b2⟩ := he.2 (orr - 1) (by omega)
    refine ⟨a2.ext (fun i i1 i2 => ?_), b1.trans a3, b2.trans a4⟩
    obtain ⟨c1, c2⟩ := he.2 i (by omega)
    refine ⟨(congrFun (yLand_O kT an) i).trans c1, (yLand_A ?_).trans c2⟩
    by_cases ha : an = 0
    · exact Or.inl ha
    · have := lAn ha; exact Or.inr (by omega)
  have all : yST (yL (yLand (yLand kT an) orr)) a kT.1 24 := by
    by_cases h0 : orr = 0
    · rw [if_pos h0] at h1
      rw [h0, yLand_0, h1]
      exact part
    · obtain ⟨a1, a2, a3, a4⟩ := pOr h0
      obtain ⟨b1, b2, b3⟩ := orAn h0
      have e1 : yST (yL (yLand (yLand kT an) orr)) a (orr - 1) 24 := b1.ext (fun i i1 i2 => ⟨congrFun (yLand_O _ orr) i, yLand_A (Or.inr (by omega))⟩)
      have e2 : yST (yL (yLand (yLand kT an) orr)) (orr - 1 + 1) kT.1 24 := by
        rw [show orr - 1 + 1 = x by omega]
        exact part.ext (fun i i1 i2 => ⟨congrFun (yLand_O _ orr) i, yLand_A (Or.inr (by omega))⟩)
      refine e1.jmp (Or.inr ?_) ?_ e2
      · show (yLand (yLand kT an) orr).2.1 (orr - 1) = 12
        rw [yLand_O, yLand_O]; exact b2
      · show (yLand (yLand kT an) orr).2.2 (orr - 1) = kT.1
        rw [yLand_s h0, yLand_1]
  refine ⟨x, hax, hxk, ?_, ?_, fun h0 => ?_, fun h0 => ?_, fun h0 => ?_, fun h0 => ?_, fun h0 => ?_, fun ho h0 => ?_, fun h0 => ?_, orAn, part, all⟩
  · by_cases h0 : an = 0
    · omega
    · have := (pAn h0).1; omega
  · by_cases h0 : orr = 0
    · omega
    · have := (pOr h0).1; omega
  · obtain ⟨b1, b2, b3⟩ := orAn h0
    have := (pOr h0).1
    exact ⟨by omega, b2, by rw [b3]; decide⟩
  · obtain ⟨a1, a2, a3, a4⟩ := pAn h0
    obtain ⟨b1, b2⟩ := he.2 (an - 1) (by omega)
    exact ⟨by omega, b1.trans a3, by rw [b2, a4]; decide⟩
  · intro e
    have h3 := lAn h0
    have h4 := (pOr (by omega)).1
    omega
  · have := lAn h0; omega
  · have := lOr h0; have := (pOr h0).1; exact ⟨by omega, by omega⟩
  · have := lAn h0; have := (pOr ho).1; omega
  · rw [if_pos h0] at h1; exact h1
theorem yCk_pa {Wk : Nat → Nat} {w orr c : Nat} : ∀ i, i < yCn w orr (c + 1) → yCk Wk w orr (c + 1) i = uN (yCk Wk w orr 0) (yCn w orr 0) (1048576 * 11 + c) i := by
  intro i hi
  have e1 : yCn w orr (c + 1) = yCn w orr 0 + 1 := by unfold yCn; rw [y1_n (Nat.succ_ne_zero c), y1_0]
  by_cases e : i = yCn w orr 0
  · rw [e, uN_s]
    by_cases h0 : orr = 0
    · subst h0; exact yCk_a (by unfold yCn; omega) (Or.inl rfl)
    · exact yCk_a (by unfold yCn; omega) (Or.inr (by unfold yCn; rw [y1_n h0]; omega))
  · rw [uN_o e]
    by_cases hw : i < w
    · rw [yCk_in hw, yCk_in hw]
    · have h0 : orr ≠ 0 := fun z => by subst z; rw [e1] at hi; unfold yCn at e hi; rw [y1_0] at e hi; omega
      have : i = w := by rw [e1] at hi; unfold yCn at hi e; rw [y1_n h0, y1_0] at hi e; omega
      rw [this, yCk_o h0, yCk_o h0]
theorem yCk_po {Wk : Nat → Nat} {w c : Nat} : ∀ i, i < yCn w (c + 1) 0 → yCk Wk w (c + 1) 0 i = uN Wk w (1048576 * 12 + c) i := by
  intro i hi
  unfold yCn at hi
  rw [y1_n (Nat.succ_ne_zero c), y1_0] at hi
  by_cases e : i = w
  · rw [e, uN_s, yCk_o (Nat.succ_ne_zero c)]; rfl
  · rw [uN_o e, yCk_in (by omega)]
theorem cond_step {N : Nat} {b : Nat → Nat} (hN : N ≤ 240) (hb : ∀ j, b j < 256) {p o orr an a : Nat} {k : yCd} (hp : p ≤ N) (ho : o ≤ 6) (hk : k.1 ≤ p) (hsc : ySc a orr an k) (hT : yTEST N b p o k)
    (IH : ∀ (p' o orr an a : Nat) (k : yCd), p < p' → p' ≤ N → o ≤ 6 → k.1 ≤ p' → ySc a orr an k → yCOND N b p' o orr an a k) : yCOND N b p o orr an a k := by
  obtain ⟨ok, p2, kT, ft, g1, g2, g3⟩ := hT
  -- bounds of what waits
  have hw0 : orr ≤ 240 ∧ an ≤ 240 := by
    obtain ⟨x, hax, hxk, h1, h2⟩ := hsc
    constructor
    · by_cases h0 : orr = 0
      · omega
      · rw [if_neg h0] at h1; omega
    · by_cases h0 : an = 0
      · omega
      · rw [if_neg h0] at h2; omega
  have y1a := y1_le an
  have y1b := y1_le orr
  have flo : ∀ (w : Nat) (Wk : Nat → Nat), 1 ≤ w → Wk (w - 1) / 1048576 = 13 → yFl (yCn w orr an) (yCk Wk w orr an) ∧ yCk Wk w orr an (yCn w orr an - 1) / 1048576 ≠ 10 := by
    intro w Wk h1 h13
    by_cases ha : an = 0
    · by_cases h0 : orr = 0
      · subst ha h0
        have : yCn w 0 0 - 1 = w - 1 := rfl
        rw [yFl, this, yCk_in (by omega), h13]
        exact ⟨Or.inr (by decide), by decide⟩
      · subst ha
        have : yCn w orr 0 - 1 = w := by unfold yCn; rw [y1_n h0, y1_0]; omega
        rw [yFl, this, yCk_o h0]
        exact ⟨Or.inr (by omega), by omega⟩
    · have : yCk Wk w orr an (yCn w orr an - 1) = 1048576 * 11 + (an - 1) := by
        by_cases h0 : orr = 0
        · subst h0; exact yCk_a (by unfold yCn; rw [y1_n ha]; omega) (Or.inl rfl)
        · exact yCk_a (by unfold yCn; rw [y1_n ha]; omega) (Or.inr (by unfold yCn; rw [y1_n ha, y1_n h0]; omega))
      rw [yFl, this]
      exact ⟨Or.inr (by omega), by omega⟩
  cases ok with
  | false =>
    refine ⟨false, 0, k, 0, 0, ft, fun h => (by cases h), fun F D d f i μ hF hD hf hi hd hP => ?_, fun F n w Wk μ hF hn hwp hw1 hWb h13 hP => ?_⟩
    · obtain ⟨f, rfl⟩ : ∃ f1, f = f1 + 1 := ⟨f - 1, by omega⟩
      obtain ⟨m1, a1, a2, a3, a4⟩ := g2 F D d μ hF hD hd hP
      refine ⟨m1, ?_, fun h => (by cases h), a3, a4⟩
      rw [fX6_readsCondition_8, z_more (by omega) (by decide), a1, zBd_s, z_bf]
      rfl
    · obtain ⟨m1, a1, a2, a3⟩ := g3 F n (yCn w orr an) (yCk Wk w orr an) μ hF hn hwp (by unfold yCn; omega) (yCk_b hWb (by omega) (by omega)) (flo w Wk hw1 h13).1 hP
      exact ⟨m1, fun h => (by cases h), a2, a3⟩
  | true =>
    obtain ⟨q1, q2, q3, q4, q5⟩ := g1 rfl
    have hlt := yST.lt q5
    obtain ⟨x, s1, s2, s3, s4, s5, s6, s7, s8, s9, s10, s11, s12, s13, s14⟩ := sc_parts hsc q3 q5
    have hk1 : (yLand kT an).1 = kT.1 := yLand_1 kT an
    have hk2 : (yLand (yLand kT an) orr).1 = kT.1 := by rw [yLand_1, yLand_1]
    -- earlier codes
    have old : ∀ i, i < a → (yLand (yLand kT an) orr).2.1 i = k.2.1 i ∧ (yLand (yLand kT an) orr).2.2 i = k.2.2 i := fun i hi => by
      obtain ⟨c1, c2⟩ := q3.2 i (by omega)
      refine ⟨by rw [yLand_O, yLand_O]; exact c1, ?_⟩
      rw [yLand_A (by
        by_cases h0 : orr = 0
        · exact Or.inl h0
        · have := (s9 h0).1; exact Or.inr (by omega)), yLand_A (by
        by_cases h0 : an = 0
        · exact Or.inl h0
        · have := s8 h0; exact Or.inr (by omega))]
      exact c2
    have old1 : ∀ i, i < a → (yLand kT an).2.1 i = k.2.1 i ∧ (yLand kT an).2.2 i = k.2.2 i := fun i hi => by
      obtain ⟨c1, c2⟩ := q3.2 i (by omega)
      refine ⟨by rw [yLand_O]; exact c1, ?_⟩
      rw [yLand_A (by
        by_cases h0 : an = 0
        · exact Or.inl h0
        · have := s8 h0; exact Or.inr (by omega))]
      exact c2
    -- the class behind a test
    have cT : ∀ (F D d f i : Nat) (μ : zMem), 300 ≤ F → 15 - 2 * o ≤ D → 2 * i ≤ p → (d = 19 ∨ d = 26) → yPC N b p d k μ → ∃ m3, yPC N b p2 d (yLand kT an) m3 ∧ frC d μ m3 ∧ fX6_readsCondition_8 F (fGC F D 0) (fGC F D 1) (fGC F D 2) (fGC F D 3) (f + 1) (nI o) (yAn an) (yAn orr) (nI i) μ = zBd (fX9_takes F (nI 38) m3) (fun r4 m4 => if r4 = 0 then zGb (zIsLw ((m4 18 1).toNatClampNeg)) (zBd (fX5_landsHere F ((m4 18 1).toNatClampNeg) (yAn orr) m4) (fun r6 m6 => zBd (fX9_takes F (nI 124) m6) (fun r7 m7 => if r7 = 0 then some ((nI 1), m7) else zGb (zIsLw ((m7 18 1).toNatClampNeg)) (zBd (fX5_puts F ((m7 18 1).toNatClampNeg) (nI 124) (nI 0) m7) (fun r9 m9 => fX6_readsCondition_8 F (fGC F D 0) (fGC F D 1) (fGC F D 2) (fGC F D 3) f (nI o) (-1 : Int32) r9 (nI i + (nI 1)) m9))))) else zGb (zIsLw ((m4 18 1).toNatClampNeg)) (zBd (fX5_puts F ((m4 18 1).toNatClampNeg) (nI 38) (nI 0) m4) (fun r11 m11 => fX6_readsCondition_8 F (fGC F D 0) (fGC F D 1) (fGC F D 2) (fGC F D 3) f (nI o) r11 (yAn orr) (nI i + (nI 1)) m11))) := by
      intro F D d f i μ hF hD hi hd hP
      obtain ⟨m1, a1, a2, a3, a4⟩ := g2 F D d μ hF hD hd hP
      have hP1 := a2 rfl
      obtain ⟨r3, m3, b1, b2, b3⟩ := p_lands (F := F) (x := an) hd hP1 (by omega) (by omega) s3
      refine ⟨m3, b2, a4.trans b3, ?_⟩
      rw [fX6_readsCondition_8, z_more (by omega) (by decide), a1, zBd_s, z_bt, hP1.2.1, cl9 (by omega), zGb_t (lw_is hd), b1, zBd_s]
    -- the reference behind a test
    have mT : ∀ (F n w : Nat) (Wk : Nat → Nat) (μ : zMem), 300 ≤ F → N < n + p → yCn w orr an ≤ p → 1 ≤ w → yWb w Wk → Wk (w - 1) / 1048576 = 13 → yPM N b p o (yCn w orr an) (yCk Wk w orr an) k μ → ∃ m1 n' g', N < n' + p2 ∧ o < g' + 1 ∧ fX12_readsCondition_40 F n μ = fX12_readsCondition_92 F (fX12_readsCondition_40 F n') (g' + 1) m1 ∧ yPM N b p2 o (yCn w orr an) (yCk Wk w orr an) kT m1 ∧ frM μ m1 := by
      intro F n w Wk μ hF hn hwp hw1 hWb h13 hP
      obtain ⟨m1, a1, a2, a3⟩ := g3 F n (yCn w orr an) (yCk Wk w orr an) μ hF hn hwp (by unfold yCn; omega) (yCk_b hWb (by omega) (by omega)) (flo w Wk hw1 h13).1 hP
      obtain ⟨n', f', g', c1, c2, c3, c4, c5⟩ := a1 rfl
      obtain ⟨f2, rfl⟩ : ∃ f2, f' = f2 + 1 := ⟨f' - 1, by omega⟩
      obtain ⟨g2', rfl⟩ : ∃ g2', g' = g2' + 1 := ⟨g' - 1, by omega⟩
      refine ⟨m1, n', g2', c1, c3, ?_, c5, a3⟩
      rw [c4]
      unfold yAT
      rw [ep_stop c5 (by omega) (yCk_b hWb (by omega) (by omega)) (Or.inr (flo w Wk hw1 h13).2), zBd_s]
    by_cases h38 : p2 < N ∧ b p2 = 38
    · -- and
      have hsc' : ySc a orr (kT.1 + 1) (kP (yLand kT an) 11 0) := by
        refine ⟨x, s1, by show x ≤ (yLand kT an).1 + 1; omega, ?_, ?_⟩
        · by_cases h0 : orr = 0
          · rw [if_pos h0]; exact s11 h0
          · rw [if_neg h0]
            obtain ⟨b1, b2, b3⟩ := s12 h0
            refine ⟨(s9 h0).2.symm, b1.ext (fun i i1 i2 => (kE_kP _ _ _).2 i (by omega)), ?_, ?_⟩
            · show uN (yLand kT an).2.1 (yLand kT an).1 11 (orr - 1) = 12
              rw [uN_o (by omega), yLand_O]; exact b2
            · show uN (yLand kT an).2.2 (yLand kT an).1 0 (orr - 1) = 0
              rw [uN_o (by omega), yLand_A (by
                by_cases h0 : an = 0
                · exact Or.inl h0
                · exact Or.inr (by have := s7 h0; omega))]
              exact b3
        · rw [if_neg (Nat.succ_ne_zero _), show kT.1 + 1 - 1 = (yLand kT an).1 by omega]
          refine ⟨by show (yLand kT an).1 + 1 = _; omega, ?_, uN_s _ _ _, uN_s _ _ _⟩
          rw [hk1]
          exact s13.ext (fun i i1 i2 => (kE_kP _ _ _).2 i (by omega))
      obtain ⟨ok, p', k1, or1, an1, ft', i1, i2, i3⟩ := IH (p2 + 1) o orr (kT.1 + 1) a (kP (yLand kT an) 11 0) (by omega) (by omega) ho (by show (yLand kT an).1 + 1 ≤ _; omega) hsc'
      refine ⟨ok, p', k1, or1, an1, ft', fun h => ?_, fun F D d f i μ hF hD hf hi hd hP => ?_, fun F n w Wk μ hF hn hwp hw1 hWb h13 hP => ?_⟩
      · obtain ⟨j1, j2, j3, j4, j5, j6, j7, j8, j9, j10⟩ := i1 h
        have j3' : (yLand kT an).1 + 1 ≤ k1.1 := j3
        have j4' : k1.1 + (p2 + 1) ≤ (yLand kT an).1 + 1 + p' := j4
        refine ⟨by omega, j2, by omega, by omega, j5, j6, j7, j8, fun i hi => ?_, j10⟩
        obtain ⟨c1, c2⟩ := j9 i hi
        obtain ⟨d1, d2⟩ := (kE_kP (yLand kT an) 11 0).2 i (by omega)
        obtain ⟨e1, e2⟩ := old1 i hi
        exact ⟨(c1.trans d1).trans e1, (c2.trans d2).trans e2⟩
      · obtain ⟨f, rfl⟩ : ∃ f1, f = f1 + 1 := ⟨f - 1, by omega⟩
        obtain ⟨m3, a1, a2, a3⟩ := cT F D d f i μ hF hD hi hd hP
        have hP4 := a1.pos (q := p2 + 1) hd
        obtain ⟨m5, b1, b2, b3⟩ := p_puts (F := F) (x := 11) (a := 0) hd hP4 (by omega)
        have b1' : fX5_puts F d (nI 38) (nI 0) (zUp m3 1 2 (nI (p2 + 1))) = some (nI (yLand kT an).1, m5) := b1
        obtain ⟨m6, c1, c2, c3, c4⟩ := i2 F D d f (i + 1) m5 hF hD (by omega) (by omega) hd b2
        refine ⟨m6, ?_, c2, c3, ((a2.trans (frC_1 hd)).trans b3).trans c4⟩
        have eAn : yAn (kT.1 + 1) = nI (yLand kT an).1 := by unfold yAn; rw [if_neg (Nat.succ_ne_zero _), hk1]; rfl
        rw [a3, e_ctakes_t a1.1 (by omega) h38.1 h38.2, zBd_s, if_neg (show ¬ nI 1 = 0 by decide), hP4.2.1, cl9 (by omega), zGb_t (lw_is hd), b1', zBd_s, ← eAn, nI_add]
        exact c1
      · obtain ⟨m1, n', g', c1, c2, c3, c4, c5⟩ := mT F n w Wk μ hF hn hwp hw1 hWb h13 hP
        have hwn : yCn w orr 0 ≤ p := by unfold yCn at hwp ⊢; rw [y1_0]; omega
        have hwp2 : w ≤ p := by unfold yCn at hwp; omega
        obtain ⟨m2, d1, d2, d3⟩ := ld_and (F := F) (by omega) c4 (by omega) hw1 hWb h13 (by omega) (by omega) s6
        obtain ⟨r4, m4, e1, e2, e3⟩ := e_jumps (F := F) (x := 11) d2 (by omega) (by omega)
        have hn1 : yCn w orr (kT.1 + 1) = yCn w orr 0 + 1 := by unfold yCn; rw [y1_n (Nat.succ_ne_zero _), y1_0]
        have e4 := e2.wk (Wk2 := yCk Wk w orr (kT.1 + 1)) (by rw [← hn1, hk1]; exact yCk_pa)
        rw [← hn1] at e4
        obtain ⟨m5, f1, f2, f3⟩ := i3 F n' w Wk m4 hF (by omega) (by omega) hw1 hWb h13 e4
        have er : fX12_readsCondition_40 F n μ = fX12_readsCondition_40 F n' m4 := by
          rw [c3, fX12_readsCondition_92, e_here c4.1 (by omega) (by omega), zBd_s, ySg_in h38.1, h38.2, if_neg (by decide), e_here c4.1 (by omega) (by omega), zBd_s, ySg_in h38.1, h38.2, if_pos rfl]
          unfold fX12_readsCondition_180
          rw [e_here c4.1 (by omega) (by omega), zBd_s, ySg_in h38.1, h38.2, if_neg (by decide)]
          unfold fX12_readsCondition_195
          rw [d1, zBd_s, e_here d2.1 (by omega) (by omega), zBd_s, ySg_in h38.1, h38.2, if_pos rfl, e1, zBd_s]
        rw [er]
        exact ⟨m5, f1, f2, ((c5.trans d3).trans e3).trans f3⟩
    · by_cases h124 : p2 < N ∧ b p2 = 124
      · -- or
        have hsc' : ySc a (kT.1 + 1) 0 (kP (yLand (yLand kT an) orr) 12 0) := by
          refine ⟨kT.1 + 1, by omega, by show kT.1 + 1 ≤ (yLand (yLand kT an) orr).1 + 1; omega, ?_, ?_⟩
          · rw [if_neg (Nat.succ_ne_zero _), show kT.1 + 1 - 1 = (yLand (yLand kT an) orr).1 by omega]
            refine ⟨rfl, ?_, uN_s _ _ _, uN_s _ _ _⟩
            rw [hk2]
            exact s14.ext (fun i i1 i2 => (kE_kP _ _ _).2 i (by omega))
          · rw [if_pos rfl]
            show kT.1 + 1 = (yLand (yLand kT an) orr).1 + 1
            omega
        obtain ⟨ok, p', k1, or1, an1, ft', i1, i2, i3⟩ := IH (p2 + 1) o (kT.1 + 1) 0 a (kP (yLand (yLand kT an) orr) 12 0) (by omega) (by omega) ho (by show (yLand (yLand kT an) orr).1 + 1 ≤ _; omega) hsc'
        refine ⟨ok, p', k1, or1, an1, ft', fun h => ?_, fun F D d f i μ hF hD hf hi hd hP => ?_, fun F n w Wk μ hF hn hwp hw1 hWb h13 hP => ?_⟩
        · obtain ⟨j1, j2, j3, j4, j5, j6, j7, j8, j9, j10⟩ := i1 h
          have j3' : (yLand (yLand kT an) orr).1 + 1 ≤ k1.1 := j3
          have j4' : k1.1 + (p2 + 1) ≤ (yLand (yLand kT an) orr).1 + 1 + p' := j4
          refine ⟨by omega, j2, by omega, by omega, j5, j6, j7, j8, fun i hi => ?_, j10⟩
          obtain ⟨c1, c2⟩ := j9 i hi
          obtain ⟨d1, d2⟩ := (kE_kP (yLand (yLand kT an) orr) 12 0).2 i (by omega)
          obtain ⟨e1, e2⟩ := old i hi
          exact ⟨(c1.trans d1).trans e1, (c2.trans d2).trans e2⟩
        · obtain ⟨f, rfl⟩ : ∃ f1, f = f1 + 1 := ⟨f - 1, by omega⟩
          obtain ⟨m3, a1, a2, a3⟩ := cT F D d f i μ hF hD hi hd hP
          obtain ⟨r6, m6, d1, d2, d3⟩ := p_lands (F := F) (x := orr) hd a1 (by omega) (by omega) (by omega)
          have hP4 := d2.pos (q := p2 + 1) hd
          obtain ⟨m5, b1, b2, b3⟩ := p_puts (F := F) (x := 12) (a := 0) hd hP4 (by omega)
          have b1' : fX5_puts F d (nI 124) (nI 0) (zUp m6 1 2 (nI (p2 + 1))) = some (nI (yLand (yLand kT an) orr).1, m5) := b1
          obtain ⟨m7, c1, c2, c3, c4⟩ := i2 F D d f (i + 1) m5 hF hD (by omega) (by omega) hd b2
          refine ⟨m7, ?_, c2, c3, (((a2.trans d3).trans (frC_1 hd)).trans b3).trans c4⟩
          have eAn : yAn (kT.1 + 1) = nI (yLand (yLand kT an) orr).1 := by unfold yAn; rw [if_neg (Nat.succ_ne_zero _), hk2]; rfl
          rw [a3, e_ctakes_f a1.1 (by omega) (by omega) (hb _) (by decide) h38, zBd_s, if_pos (show nI 0 = 0 from rfl), a1.2.1, cl9 (by omega), zGb_t (lw_is hd), d1, zBd_s, e_ctakes_t d2.1 (by omega) h124.1 h124.2, zBd_s, if_neg (show ¬ nI 1 = 0 by decide), hP4.2.1, cl9 (by omega), zGb_t (lw_is hd), b1', zBd_s, ← eAn, nI_add]
          exact c1
        · obtain ⟨m1, n', g', c1, c2, c3, c4, c5⟩ := mT F n w Wk μ hF hn hwp hw1 hWb h13 hP
          have hwp2 : w ≤ p := by unfold yCn at hwp; omega
          obtain ⟨m2, d1, d2, d3⟩ := ld_all (F := F) (by omega) c4 (by omega) hw1 hWb h13 (by omega) s5 s6 s7
          obtain ⟨r4, m4, e1, e2, e3⟩ := e_jumps (F := F) (x := 12) d2 (by omega) (by omega)
          have hn1 : yCn w (kT.1 + 1) 0 = w + 1 := by unfold yCn; rw [y1_n (Nat.succ_ne_zero _), y1_0]
          have e4 := e2.wk (Wk2 := yCk Wk w (kT.1 + 1) 0) (by rw [← hn1, hk2]; exact yCk_po)
          rw [← hn1] at e4
          obtain ⟨m5, f1, f2, f3⟩ := i3 F n' w Wk m4 hF (by omega) (by omega) hw1 hWb h13 e4
          have er : fX12_readsCondition_40 F n μ = fX12_readsCondition_40 F n' m4 := by
            rw [c3, fX12_readsCondition_92, e_here c4.1 (by omega) (by omega), zBd_s, ySg_in h124.1, h124.2, if_neg (by decide), e_here c4.1 (by omega) (by omega), zBd_s, ySg_in h124.1, h124.2, if_neg (by decide), e_here c4.1 (by omega) (by omega), zBd_s, ySg_in h124.1, h124.2, if_pos rfl]
            unfold fX12_readsCondition_180
            rw [e_here c4.1 (by omega) (by omega), zBd_s, ySg_in h124.1, h124.2, if_pos rfl]
            unfold fX12_readsCondition_195
            rw [d1, zBd_s, e_here d2.1 (by omega) (by omega), zBd_s, ySg_in h124.1, h124.2, if_neg (by decide), e1, zBd_s]
          rw [er]
          exact ⟨m5, f1, f2, ((c5.trans d3).trans e3).trans f3⟩
      · -- the condition ends
        refine ⟨true, p2, kT, orr, an, 0, fun _ => ⟨q1, q2, q3.1, q4, s5, s6, s7, fun h => ⟨fun e => h38 ⟨h, e⟩, fun e => h124 ⟨h, e⟩⟩, old, s14⟩, fun F D d f i μ hF hD hf hi hd hP => ?_, fun F n w Wk μ hF hn hwp hw1 hWb h13 hP => ?_⟩
        · obtain ⟨f, rfl⟩ : ∃ f1, f = f1 + 1 := ⟨f - 1, by omega⟩
          obtain ⟨m3, a1, a2, a3⟩ := cT F D d f i μ hF hD hi hd hP
          obtain ⟨r6, m6, d1, d2, d3⟩ := p_lands (F := F) (x := orr) hd a1 (by omega) (by omega) (by omega)
          refine ⟨m6, ?_, fun _ => d2, fun h => (by cases h), a2.trans d3⟩
          rw [a3, e_ctakes_f a1.1 (by omega) (by omega) (hb _) (by decide) h38, zBd_s, if_pos (show nI 0 = 0 from rfl), a1.2.1, cl9 (by omega), zGb_t (lw_is hd), d1, zBd_s, e_ctakes_f d2.1 (by omega) (by omega) (hb _) (by decide) h124, zBd_s, if_pos (show nI 0 = 0 from rfl)]
          rfl
        · obtain ⟨m1, n', g', c1, c2, c3, c4, c5⟩ := mT F n w Wk μ hF hn hwp hw1 hWb h13 hP
          exact ⟨m1, fun _ => ⟨n', g' + 1, c1, c2, c3, c4⟩, fun h => (by cases h), c5⟩
theorem cond_all {N : Nat} {b : Nat → Nat} (hN : N ≤ 240) (hb : ∀ j, b j < 256) : ∀ (m p o : Nat) (k : yCd), N - p ≤ m → p ≤ N → o ≤ 6 → k.1 ≤ p → yTEST N b p o k ∧ ∀ (orr an a : Nat), ySc a orr an k → yCOND N b p o orr an a k := by
  intro m
  induction m with
  | zero =>
    intro p o k hm hp ho hk
    have hT := test_of hN hb hp ho hk (fun _ h => by omega) (fun _ h => by omega)
    exact ⟨hT, fun orr an a hsc => cond_step hN hb hp ho hk hsc hT (fun p' _ _ _ _ _ h1 h2 => by omega)⟩
  | succ m ih =>
    intro p o k hm hp ho hk
    have hT := test_of hN hb hp ho hk (fun h1 h2 => (ih (p + 1) (o + 1) k (by omega) (by omega) (by omega) (by omega)).1) (fun h1 h2 => (ih (p + 1) (o + 1) k (by omega) (by omega) (by omega) (by omega)).2 0 0 k.1 ⟨k.1, Nat.le_refl _, Nat.le_refl _, rfl, rfl⟩)
    exact ⟨hT, fun orr an a hsc => cond_step hN hb hp ho hk hsc hT (fun p' o' orr an a k' h1 h2 h3 h4 h5 => (ih p' o' k' (by omega) h2 h3 h4).2 orr an a h5)⟩
