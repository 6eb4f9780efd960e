/-! ===== the law is read: jumps, ends of pieces ===== -/
def kA (k : yCd) (i v : Nat) : yCd := (k.1, k.2.1, uN k.2.2 i v)
/-- a jump that waits: none, or its place and one -/
def yLand (k : yCd) (x : Nat) : yCd := if x = 0 then k else kA k (x - 1) k.1
def yAn (x : Nat) : Int32 := if x = 0 then -1 else nI (x - 1)
theorem yLand_0 (k : yCd) : yLand k 0 = k := if_pos rfl
theorem yLand_n {k : yCd} {x : Nat} (h : x ≠ 0) : yLand k x = kA k (x - 1) k.1 := if_neg h
theorem yLand_1 (k : yCd) (x : Nat) : (yLand k x).1 = k.1 := by unfold yLand; split <;> rfl
theorem yLand_O (k : yCd) (x : Nat) : (yLand k x).2.1 = k.2.1 := by unfold yLand; split <;> rfl
theorem yLand_A {k : yCd} {x i : Nat} (h : x = 0 ∨ i ≠ x - 1) : (yLand k x).2.2 i = k.2.2 i := by
  unfold yLand
  split
  · rfl
  · exact uN_o (by omega)
theorem yLand_s {k : yCd} {x : Nat} (h : x ≠ 0) : (yLand k x).2.2 (x - 1) = k.1 := by rw [yLand_n h]; exact uN_s _ _ _
theorem p_lands {F N p d x : Nat} {b : Nat → Nat} {k : yCd} {μ : zMem} (hd : d = 19 ∨ d = 26) (h : yPC N b p d k μ) (hk : 1 ≤ k.1) (hk2 : k.1 ≤ 240) (hx : x ≤ k.1) : ∃ r m1, fX5_landsHere F d (yAn x) μ = some (r, m1) ∧ yPC N b p d (yLand k x) m1 ∧ frC d μ m1 := by
  unfold fX5_landsHere yAn
  rw [h.2.2.1, pk_sub hk, e_isWithin, zBd_s]
  by_cases hx0 : x = 0
  · rw [if_pos hx0, zIn_neg (by decide) (by decide), z_bf, hx0, yLand_0]
    exact ⟨_, μ, rfl, h, frC.rfl' d μ⟩
  · rw [if_neg hx0, zIn_nI (by omega) (by omega) (by decide), decide_eq_true (show 0 ≤ x - 1 by omega), decide_eq_true (show x - 1 ≤ k.1 - 1 by omega), if_neg (by decide), zG_in rfl (by omega) (by decide), cl9 (by omega), yLand_n hx0, h.2.2.1]
    refine ⟨_, zUp μ (d + 2) (x - 1) (nI k.1), rfl, ⟨h.1.of (by rw [zUp_ne (by omega)]) (by rw [zUp_ne (by omega)]) (zUp_ne (by omega)), by rw [zUp_ne (by omega)]; exact h.2.1, by rw [zUp_ne (by omega)]; exact h.2.2.1, fun i hi => ?_⟩, fun j hj => by rw [zUp_ne (by omega)], fun c h1 h2 h3 h4 => zUp_ne h4⟩
    have hi : i < k.1 := hi
    show _ = nI (zSign (k.2.1 i)) ∧ _ = nI (uN k.2.2 (x - 1) k.1 i)
    rw [zUp_ne (show d + 1 ≠ d + 2 by omega)]
    by_cases e : i = x - 1
    · rw [e, zUp_s, uN_s]; exact ⟨(h.2.2.2 (x - 1) (by omega)).1, rfl⟩
    · rw [zUp_o e, uN_o e]; exact h.2.2.2 i hi
theorem ep_stop {F f N p o w : Nat} {b Wk : Nat → Nat} {k : yCd} {μ : zMem} (h : yPM N b p o w Wk k μ) (hw : w ≤ 260) (hb : yWb w Wk) (ht : w = 0 ∨ Wk (w - 1) / 1048576 ≠ 10) : fX12_endsPiece_0 F (f + 1) μ = some (nI 0, μ) := by
  rw [fX12_endsPiece_0, e_waitTop h hw hb, zBd_s]
  unfold yTop
  by_cases h0 : w = 0
  · rw [if_pos h0, if_neg (by decide)]
  · have hb1 := hb (w - 1) (by omega)
    rw [if_neg h0, if_neg (fun z => by
      have := (nI_eq (by omega) (by decide)).mp z
      rcases ht with e | e
      · exact h0 e
      · exact e this)]
theorem ep_not {F f N p o w : Nat} {b Wk : Nat → Nat} {k : yCd} {μ : zMem} (h : yPM N b p (o + 1) (w + 1) Wk k μ) (hw : w < 260) (hb : yWb (w + 1) Wk) (ht : Wk w = 1048576 * 10) (hc : k.1 < 260) : ∃ m1, fX12_endsPiece_0 F (f + 1) μ = fX12_endsPiece_0 F f m1 ∧ yPM N b p o w Wk (kP k 10 0) m1 ∧ frM μ m1 := by
  obtain ⟨m1, a1, a2, a3⟩ := p_notes (F := F) (x := 10) (a := 0) h hc
  have e1 := a2.pop (show w ≤ w + 1 by omega)
  have e2 := e1.opn (o' := o)
  refine ⟨_, ?_, e2, a3.trans ((frM_60 (by omega)).trans (frM_60 (by omega)))⟩
  have hT : yTop (w + 1) Wk = nI 10 := by
    unfold yTop
    rw [if_neg (by omega), show w + 1 - 1 = w by omega, ht]
  rw [fX12_endsPiece_0, e_waitTop h (by omega) hb, zBd_s, hT, if_pos rfl, a1, zBd_s]
  dsimp only [zLt]
  rw [a2.2.2.1, pk_sub (by omega), show w + 1 - 1 = w by omega, e1.2.1, pk_sub (by omega), show o + 1 - 1 = o by omega]
theorem la_pop {F n N p o w x i : Nat} {v1 : Int32} {b Wk : Nat → Nat} {k : yCd} {μ : zMem} (h : yPM N b p o (w + 1) Wk k μ) (hw : w < 260) (hb : yWb (w + 1) Wk) (ht : Wk w = 1048576 * x + i) (hx : x = 11 ∨ (x = 12 ∧ ¬ v1 = 0)) (hi : i < k.1) (hk : k.1 ≤ 240) (hO : k.2.1 i = x) (hA : k.2.2 i < 1048576) : ∃ m1, fX12_lands_0 F (n + 1) v1 μ = fX12_lands_0 F n v1 m1 ∧ yPM N b p o w Wk (kA k i k.1) m1 ∧ frM μ m1 := by
  have hT : yTop (w + 1) Wk = nI x := by
    unfold yTop
    rw [if_neg (by omega), show w + 1 - 1 = w by omega, ht]; congr 1; omega
  have hWw : μ 70 w = nI (1048576 * x + i) := by rw [h.2.2.2.1 w (by omega), ht]
  obtain ⟨m1, hm1⟩ : ∃ m1, m1 = zUp (zUp μ 69 i (nI (1048576 * x + k.1))) 60 16 (nI w) := ⟨_, rfl⟩
  have h22 : fX12_lands_22 F (fX12_lands_0 F n) v1 μ = fX12_lands_0 F n v1 m1 := by
    unfold fX12_lands_22
    rw [h.2.2.1, pk_sub (by omega), show w + 1 - 1 = w by omega, cl9 (by omega), hWw, nI_mod (by omega) (by decide) (by decide), show (1048576 * x + i) % 1048576 = i by omega, zG_in rfl (by omega) (by decide), zGz_in (by decide), zG_in rfl (by omega) (by decide), zGz_in (by decide), zG_in rfl (by omega) (by decide), cl9 (by omega), h.2.2.2.2.2 i hi, hO, pk_div (by omega) (by decide) (by decide), show (1048576 * x + k.2.2 i) / 1048576 = x by omega, pk_mul, h.2.2.2.2.1, nI_add]
    dsimp only [zLt]
    rw [zUp_ne (show (60 : Nat) ≠ 69 by decide), h.2.2.1, pk_sub (by omega), show w + 1 - 1 = w by omega, hm1]
  refine ⟨m1, ?_, ⟨h.1.of (by rw [hm1, zUp_o (by decide), zUp_ne (by decide)]) (by rw [hm1, zUp_o (by decide), zUp_ne (by decide)]) (by rw [hm1, zUp_ne (by decide), zUp_ne (by decide)]), by rw [hm1, zUp_o (by decide), zUp_ne (by decide)]; exact h.2.1, by rw [hm1, zUp_s], fun j hj => by rw [hm1, zUp_ne (by decide), zUp_ne (by decide)]; exact h.2.2.2.1 j (by omega), by rw [hm1, zUp_o (by decide), zUp_ne (by decide)]; exact h.2.2.2.2.1, fun j hj => ?_⟩, ⟨fun j h1 h2 h3 h4 h5 h6 => by rw [hm1, zUp_o h6, zUp_ne (by decide)], fun c h1 h2 h3 => by rw [hm1, zUp_ne h1, zUp_ne h2]⟩⟩
  · rw [fX12_lands_0, e_waitTop h (by omega) hb, zBd_s, hT]
    rcases hx with hx | ⟨hx, hv⟩
    · rw [if_pos (by rw [hx]), h22]
    · rw [if_neg (by rw [hx]; decide), if_neg hv, e_waitTop h (by omega) hb, zBd_s, hT, if_pos (by rw [hx]), h22]
  · have hj : j < k.1 := hj
    show m1 69 j = nI (1048576 * k.2.1 j + uN k.2.2 i k.1 j)
    rw [hm1, zUp_ne (by decide)]
    by_cases e : j = i
    · rw [e, zUp_s, uN_s, hO]
    · rw [zUp_o e, uN_o e]; exact h.2.2.2.2.2 j hj
theorem la_stop {F n N p o w : Nat} {v1 : Int32} {b Wk : Nat → Nat} {k : yCd} {μ : zMem} (h : yPM N b p o w Wk k μ) (hw : w ≤ 260) (hb : yWb w Wk) (h1 : 1 ≤ w) (ht : Wk (w - 1) / 1048576 ≠ 11) (ht2 : v1 = 0 ∨ Wk (w - 1) / 1048576 ≠ 12) : fX12_lands_0 F (n + 1) v1 μ = some (nI 0, μ) := by
  have hb1 := hb (w - 1) (by omega)
  have hT : yTop w Wk = nI (Wk (w - 1) / 1048576) := by unfold yTop; rw [if_neg (by omega)]
  rw [fX12_lands_0, e_waitTop h hw hb, zBd_s, hT, if_neg (fun z => ht ((nI_eq (by omega) (by decide)).mp z))]
  rcases ht2 with e | e
  · rw [if_pos e]
  · split
    · rfl
    · rw [e_waitTop h hw hb, zBd_s, hT, if_neg (fun z => e ((nI_eq (by omega) (by decide)).mp z))]
/-! the stack of a condition -/
def yCn (w orr an : Nat) : Nat := w + y1 orr + y1 an
def yCk (Wk : Nat → Nat) (w orr an : Nat) : Nat → Nat := fun i => if i < w then Wk i else if i = w ∧ orr ≠ 0 then 1048576 * 12 + (orr - 1) else 1048576 * 11 + (an - 1)
theorem yCk_in {Wk : Nat → Nat} {w orr an i : Nat} (h : i < w) : yCk Wk w orr an i = Wk i := if_pos h
theorem yCk_o {Wk : Nat → Nat} {w orr an : Nat} (h : orr ≠ 0) : yCk Wk w orr an w = 1048576 * 12 + (orr - 1) := by
  unfold yCk
  rw [if_neg (Nat.lt_irrefl _), if_pos ⟨rfl, h⟩]
theorem yCk_a {Wk : Nat → Nat} {w orr an i : Nat} (h : ¬ i < w) (h2 : orr = 0 ∨ i ≠ w) : yCk Wk w orr an i = 1048576 * 11 + (an - 1) := by
  unfold yCk
  rw [if_neg h, if_neg (fun z => by rcases h2 with e | e; exact z.2 e; exact e z.1)]
theorem yCk_b {Wk : Nat → Nat} {w orr an : Nat} (h : yWb w Wk) (h1 : orr ≤ 241) (h2 : an ≤ 241) : yWb (yCn w orr an) (yCk Wk w orr an) := fun i hi => by
  unfold yCk
  split
  · rename_i hw; exact h i hw
  · split <;> omega
/-- what waits is at its place -/
def yJk (k : yCd) (x op : Nat) : Prop := x ≠ 0 → x ≤ k.1 ∧ k.2.1 (x - 1) = op ∧ k.2.2 (x - 1) < 1048576
theorem ld_an {F n N p o w orr an : Nat} {v1 : Int32} {b Wk : Nat → Nat} {k : yCd} {μ : zMem} (h : yPM N b p o (yCn w orr an) (yCk Wk w orr an) k μ) (hw : w < 255) (hb : yWb w Wk) (hk : k.1 ≤ 240) (hor : orr ≤ 241) (han : yJk k an 11) : ∃ n' m1, n ≤ n' ∧ fX12_lands_0 F (n + 1) v1 μ = fX12_lands_0 F n' v1 m1 ∧ yPM N b p o (yCn w orr 0) (yCk Wk w orr 0) (yLand k an) m1 ∧ frM μ m1 := by
  by_cases h0 : an = 0
  · subst h0
    rw [yLand_0]
    exact ⟨n + 1, μ, by omega, rfl, h, frM.rfl' μ⟩
  · obtain ⟨j1, j2, j3⟩ := han h0
    have e1 : yCn w orr an = yCn w orr 0 + 1 := by unfold yCn; rw [y1_n h0, y1_0]
    have y1b := y1_le orr
    have hn : yCn w orr 0 ≤ w + 1 := by unfold yCn; rw [y1_0]; omega
    have hbb := yCk_b (orr := orr) (an := an) hb hor (by omega)
    rw [e1] at h hbb
    have hx : yCk Wk w orr an (yCn w orr 0) = 1048576 * 11 + (an - 1) := by
      by_cases ho : orr = 0
      · subst ho; exact yCk_a (by unfold yCn; omega) (Or.inl rfl)
      · exact yCk_a (by unfold yCn; omega) (Or.inr (by unfold yCn; rw [y1_n ho]; omega))
    obtain ⟨m1, a1, a2, a3⟩ := la_pop (F := F) (n := n) (v1 := v1) h (by omega) hbb hx (Or.inl rfl) (by omega) hk j2 j3
    refine ⟨n, m1, Nat.le_refl _, a1, ?_, a3⟩
    rw [yLand_n h0]
    refine a2.wk (fun i hi => ?_)
    by_cases hiw : i < w
    · rw [yCk_in hiw, yCk_in hiw]
    · have ho : orr ≠ 0 := fun z => by subst z; unfold yCn at hi; rw [y1_0] at hi; omega
      have : i = w := by unfold yCn at hi; rw [y1_n ho, y1_0] at hi; omega
      rw [this, yCk_o ho, yCk_o ho]
theorem ld_and {F N p o w orr an : Nat} {b Wk : Nat → Nat} {k : yCd} {μ : zMem} (hF : 10 ≤ F) (h : yPM N b p o (yCn w orr an) (yCk Wk w orr an) k μ) (hw : w < 255) (h1 : 1 ≤ w) (hb : yWb w Wk) (h13 : Wk (w - 1) / 1048576 = 13) (hk : k.1 ≤ 240) (hor : orr ≤ 241) (han : yJk k an 11) : ∃ m1, fX12_lands F (nI 0) μ = some (nI 0, m1) ∧ yPM N b p o (yCn w orr 0) (yCk Wk w orr 0) (yLand k an) m1 ∧ frM μ m1 := by
  obtain ⟨n', m1, a0, a1, a2, a3⟩ := ld_an (F := F) (n := F - 1) (v1 := nI 0) h hw hb hk hor han
  rw [show F - 1 + 1 = F by omega] at a1
  refine ⟨m1, ?_, a2, a3⟩
  unfold fX12_lands
  obtain ⟨n2, rfl⟩ : ∃ n2, n' = n2 + 1 := ⟨n' - 1, by omega⟩
  rw [a1]
  have y1b := y1_le orr
  refine la_stop a2 (by unfold yCn; rw [y1_0]; omega) (yCk_b hb hor (by omega)) (by unfold yCn; omega) ?_ (Or.inl rfl)
  by_cases ho : orr = 0
  · subst ho
    have : yCn w 0 0 - 1 = w - 1 := rfl
    rw [this, yCk_in (by omega), h13]; decide
  · have : yCn w orr 0 - 1 = w := by unfold yCn; rw [y1_n ho, y1_0]; omega
    rw [this, yCk_o ho]; omega
theorem ld_all {F N p o w orr an : Nat} {b Wk : Nat → Nat} {k : yCd} {μ : zMem} (hF : 10 ≤ F) (h : yPM N b p o (yCn w orr an) (yCk Wk w orr an) k μ) (hw : w < 255) (h1 : 1 ≤ w) (hb : yWb w Wk) (h13 : Wk (w - 1) / 1048576 = 13) (hk : k.1 ≤ 240) (hor : yJk k orr 12) (han : yJk k an 11) (hne : an ≠ 0 → orr ≠ an) : ∃ m1, fX12_lands F (nI 1) μ = some (nI 0, m1) ∧ yPM N b p o w Wk (yLand (yLand k an) orr) m1 ∧ frM μ m1 := by
  have hor1 : orr ≤ 241 := by
    by_cases ho : orr = 0
    · omega
    · have := (hor ho).1; omega
  obtain ⟨n', m1, a0, a1, a2, a3⟩ := ld_an (F := F) (n := F - 1) (v1 := nI 1) h hw hb hk hor1 han
  rw [show F - 1 + 1 = F by omega] at a1
  unfold fX12_lands
  rw [a1]
  by_cases ho : orr = 0
  · subst ho
    obtain ⟨n2, rfl⟩ : ∃ n2, n' = n2 + 1 := ⟨n' - 1, by omega⟩
    have a4 : yPM N b p o w Wk (yLand k an) m1 := a2.wk (fun i hi => (yCk_in hi).symm)
    exact ⟨m1, la_stop a4 (by omega) hb h1 (by rw [h13]; decide) (Or.inr (by rw [h13]; decide)), by rw [yLand_0]; exact a4, a3⟩
  · obtain ⟨j1, j2, j3⟩ := hor ho
    have e1 : yCn w orr 0 = w + 1 := by unfold yCn; rw [y1_n ho, y1_0]
    have hbb := yCk_b (orr := orr) (an := 0) hb hor1 (by omega)
    rw [e1] at a2 hbb
    obtain ⟨n2, rfl⟩ : ∃ n2, n' = n2 + 1 + 1 := ⟨n' - 2, by omega⟩
    have hA : (yLand k an).2.2 (orr - 1) < 1048576 := by
      rw [yLand_A (by
        by_cases ha : an = 0
        · exact Or.inl ha
        · exact Or.inr (by have := hne ha; omega))]
      exact j3
    obtain ⟨m2, b1, b2, b3⟩ := la_pop (F := F) (n := n2 + 1) (v1 := nI 1) a2 (by omega) hbb (yCk_o ho) (Or.inr ⟨rfl, by decide⟩) (by rw [yLand_1]; omega) (by rw [yLand_1]; exact hk) (by rw [yLand_O]; exact j2) hA
    have b4 : yPM N b p o w Wk (yLand (yLand k an) orr) m2 := by
      rw [yLand_n ho]
      exact b2.wk (fun i hi => (yCk_in hi).symm)
    refine ⟨m2, ?_, b4, a3.trans b3⟩
    rw [b1]
    exact la_stop b4 (by omega) hb h1 (by rw [h13]; decide) (Or.inr (by rw [h13]; decide))
theorem e_jumps {F N p o w x : Nat} {b Wk : Nat → Nat} {k : yCd} {μ : zMem} (h : yPM N b p o w Wk k μ) (hw : w < 260) (hc : k.1 < 260) : ∃ r m1, fX12_jumps F (nI x) μ = some (r, m1) ∧ yPM N b (p + 1) o (w + 1) (uN Wk w (1048576 * x + k.1)) (kP k x 0) m1 ∧ frM μ m1 := by
  have e1 := h.push (x := 1048576 * x + k.1)
  obtain ⟨m1, a1, a2, a3⟩ := p_notes (F := F) (x := x) (a := 0) e1 hc
  have e2 := a2.pos (q := p + 1)
  refine ⟨nI 0, zUp m1 60 10 (nI (p + 1)), ?_, e2, ((show frM μ _ from ⟨fun j h1 h2 h3 h4 h5 h6 => by rw [zUp_o h6, zUp_ne (by decide)], fun c h1 h2 h3 => by rw [zUp_ne h1, zUp_ne h3]⟩).trans a3).trans (frM_60 (by omega))⟩
  · unfold fX12_jumps
    rw [h.2.2.1, zG_in rfl hw (by decide), cl9 (by omega), pk_mul, h.2.2.2.2.1, nI_add]
    dsimp only [zLt]
    rw [zUp_ne (show (60 : Nat) ≠ 70 by decide), h.2.2.1, nI_add, a1, zBd_s, a2.1.2.1, nI_add]
/-! truths -/
theorem yST.lt {l : zLS} {a e d : Nat} (h : yST l a e d) : a < e := by
  apply h (fun a e d => a < e)
  · intro a m f d d2 v1 v2 _ _ _ _
    have := (ySV.lt v1).1
    have := (ySV.lt v2).1
    omega
  · intro a f d h _ _; omega
  · intro a m e d h1 _ _ h2; omega
theorem yST.ext {l l2 : zLS} {a e d : Nat} (h : yST l a e d) (he : ∀ i, a ≤ i → i < e → lO l2 i = lO l i ∧ lA l2 i = lA l i) : yST l2 a e d := by
  have key : a < e ∧ ((∀ i, a ≤ i → i < e → lO l2 i = lO l i ∧ lA l2 i = lA l i) → yST l2 a e d) := by
    apply h (fun a e d => a < e ∧ ((∀ i, a ≤ i → i < e → lO l2 i = lO l i ∧ lA l2 i = lA l i) → yST l2 a e d))
    · intro a m f d d2 v1 v2 hd ho1 ho2 ha
      have l1 := (ySV.lt v1).1
      have l2 := (ySV.lt v2).1
      refine ⟨by omega, fun he P p1 p2 p3 => ?_⟩
      obtain ⟨e1, e2⟩ := he f (by omega) (by omega)
      exact p1 a m f d d2 (v1.ext (fun i h1 h2 => he i h1 (by omega))) (v2.ext (fun i h1 h2 => he i (by omega) (by omega))) hd (by rw [e1]; exact ho1) (by rw [e1]; exact ho2) (by rw [e2]; exact ha)
    · rintro a f d ⟨h1, k1⟩ ho ha
      refine ⟨by omega, fun he P p1 p2 p3 => ?_⟩
      obtain ⟨e1, e2⟩ := he f (by omega) (by omega)
      exact p2 a f d (k1 (fun i h1 h2 => he i h1 (by omega)) P p1 p2 p3) (by rw [e1]; exact ho) (by rw [e2]; exact ha)
    · rintro a m e d ⟨h1, k1⟩ ho ha ⟨h2, k2⟩
      refine ⟨by omega, fun he P p1 p2 p3 => ?_⟩
      obtain ⟨e1, e2⟩ := he m (by omega) (by omega)
      exact p3 a m e d (k1 (fun i h1 h2 => he i h1 (by omega)) P p1 p2 p3) (by rw [e1]; exact ho) (by rw [e2]; exact ha) (k2 (fun i h1 h2 => he i (by omega) h2) P p1 p2 p3)
  exact key.2 he
theorem yST.cmp {l : zLS} {a m f d d2 : Nat} (v1 : ySV l a m d) (v2 : ySV l m f d2) (hd : d2 + 1 ≤ d) (ho1 : 7 ≤ lO l f) (ho2 : lO l f ≤ 9) (ha : lA l f = 0) : yST l a (f + 1) d := fun P p1 p2 p3 => p1 a m f d d2 v1 v2 hd ho1 ho2 ha
theorem yST.not {l : zLS} {a f d : Nat} (h : yST l a f d) (ho : lO l f = 10) (ha : lA l f = 0) : yST l a (f + 1) d := fun P p1 p2 p3 => p2 a f d (h P p1 p2 p3) ho ha
theorem yST.jmp {l : zLS} {a m e d : Nat} (h1 : yST l a m d) (ho : lO l m = 11 ∨ lO l m = 12) (ha : lA l m = e) (h2 : yST l (m + 1) e d) : yST l a e d := fun P p1 p2 p3 => p3 a m e d (h1 P p1 p2 p3) ho ha (h2 P p1 p2 p3)
