/-! ===== the law is read: codes, stacks ===== -/
/-- codes: how many, their kinds, their numbers -/
abbrev yCd : Type := Nat × (Nat → Nat) × (Nat → Nat)
def kP (k : yCd) (x a : Nat) : yCd := (k.1 + 1, uN k.2.1 k.1 x, uN k.2.2 k.1 a)
def yApp (k : yCd) (x : Nat) : yCd := if x = 0 then k else kP k x 0
def yL (k : yCd) : zLS := (0, fun _ => 0, fun _ => 0, fun _ => 0, fun _ => 0, k.2.1, k.2.2, k.1)
/-- the one goes on from the other -/
def kE (k k' : yCd) : Prop := k.1 ≤ k'.1 ∧ ∀ i, i < k.1 → k'.2.1 i = k.2.1 i ∧ k'.2.2 i = k.2.2 i
theorem kE.rfl' (k : yCd) : kE k k := ⟨Nat.le_refl _, fun _ _ => ⟨rfl, rfl⟩⟩
theorem kE.trans {a b c : yCd} (h1 : kE a b) (h2 : kE b c) : kE a c := ⟨Nat.le_trans h1.1 h2.1, fun i hi => by
  obtain ⟨a1, a2⟩ := h1.2 i hi
  obtain ⟨b1, b2⟩ := h2.2 i (Nat.lt_of_lt_of_le hi h1.1)
  exact ⟨b1.trans a1, b2.trans a2⟩⟩
theorem kE_kP (k : yCd) (x a : Nat) : kE k (kP k x a) := ⟨Nat.le_succ _, fun i hi => ⟨uN_o (by omega), uN_o (by omega)⟩⟩
theorem kE_app (k : yCd) (x : Nat) : kE k (yApp k x) := by
  unfold yApp
  split
  · exact kE.rfl' k
  · exact kE_kP k x 0
theorem yApp_0 (k : yCd) : yApp k 0 = k := if_pos rfl
theorem yApp_n {k : yCd} {x : Nat} (h : x ≠ 0) : yApp k x = kP k x 0 := if_neg h
theorem yApp_1 (k : yCd) (x : Nat) : (yApp k x).1 = k.1 + (if x = 0 then 0 else 1) := by
  unfold yApp
  split <;> rfl
def yPC (N : Nat) (b : Nat → Nat) (p d : Nat) (k : yCd) (μ : zMem) : Prop := yTC N b p μ ∧ μ 18 1 = nI d ∧ μ d 6 = nI k.1 ∧ ∀ i, i < k.1 → μ (d + 1) i = nI (zSign (k.2.1 i)) ∧ μ (d + 2) i = nI (k.2.2 i)
def yPM (N : Nat) (b : Nat → Nat) (p o w : Nat) (Wk : Nat → Nat) (k : yCd) (μ : zMem) : Prop := yTM N b p μ ∧ μ 60 14 = nI o ∧ μ 60 16 = nI w ∧ (∀ i, i < w → μ 70 i = nI (Wk i)) ∧ μ 60 15 = nI k.1 ∧ ∀ i, i < k.1 → μ 69 i = nI (1048576 * k.2.1 i + k.2.2 i)
def frC (d : Nat) (μ m1 : zMem) : Prop := (∀ j, j ≠ 6 → m1 d j = μ d j) ∧ ∀ c, c ≠ 1 → c ≠ d → c ≠ d + 1 → c ≠ d + 2 → m1 c = μ c
def frM (μ m1 : zMem) : Prop := (∀ j, j ≠ 10 → j ≠ 12 → j ≠ 13 → j ≠ 14 → j ≠ 15 → j ≠ 16 → m1 60 j = μ 60 j) ∧ ∀ c, c ≠ 60 → c ≠ 69 → c ≠ 70 → m1 c = μ c
theorem frC.rfl' (d : Nat) (μ : zMem) : frC d μ μ := ⟨fun _ _ => rfl, fun _ _ _ _ _ => rfl⟩
theorem frM.rfl' (μ : zMem) : frM μ μ := ⟨fun _ _ _ _ _ _ _ => rfl, fun _ _ _ _ => rfl⟩
theorem frC.trans {d : Nat} {a b c : zMem} (h1 : frC d a b) (h2 : frC d b c) : frC d a c := ⟨fun j hj => (h2.1 j hj).trans (h1.1 j hj), fun c a1 a2 a3 a4 => (h2.2 c a1 a2 a3 a4).trans (h1.2 c a1 a2 a3 a4)⟩
theorem frM.trans {a b c : zMem} (h1 : frM a b) (h2 : frM b c) : frM a c := ⟨fun j a1 a2 a3 a4 a5 a6 => (h2.1 j a1 a2 a3 a4 a5 a6).trans (h1.1 j a1 a2 a3 a4 a5 a6), fun c a1 a2 a3 => (h2.2 c a1 a2 a3).trans (h1.2 c a1 a2 a3)⟩
theorem frC_1 {d j : Nat} {μ : zMem} {x : Int32} (hd : d = 19 ∨ d = 26) : frC d μ (zUp μ 1 j x) := ⟨fun _ _ => by rw [zUp_ne (by omega)], fun c h1 _ _ _ => zUp_ne h1⟩
theorem frM_60 {j : Nat} {μ : zMem} {x : Int32} (hj : j = 10 ∨ j = 12 ∨ j = 13 ∨ j = 14 ∨ j = 15 ∨ j = 16) : frM μ (zUp μ 60 j x) := ⟨fun i _ _ _ _ _ _ => zUp_o (by omega), fun c h1 _ _ => zUp_ne h1⟩
theorem yPC.pos {N p q d : Nat} {b : Nat → Nat} {k : yCd} {μ : zMem} (h : yPC N b p d k μ) (hd : d = 19 ∨ d = 26) : yPC N b q d k (zUp μ 1 2 (nI q)) := ⟨h.1.to (zUp_o (by decide)) (zUp_s _ _ _ _) (zUp_ne (by decide)), by rw [zUp_ne (by decide)]; exact h.2.1, by rw [zUp_ne (by omega)]; exact h.2.2.1, fun i hi => by rw [zUp_ne (by omega), zUp_ne (by omega)]; exact h.2.2.2 i hi⟩
theorem yPM.pos {N p q o w : Nat} {b Wk : Nat → Nat} {k : yCd} {μ : zMem} (h : yPM N b p o w Wk k μ) : yPM N b q o w Wk k (zUp μ 60 10 (nI q)) := ⟨h.1.to (zUp_o (by decide)) (zUp_s _ _ _ _) (zUp_ne (by decide)), by rw [zUp_o (by decide)]; exact h.2.1, by rw [zUp_o (by decide)]; exact h.2.2.1, fun i hi => by rw [zUp_ne (by decide)]; exact h.2.2.2.1 i hi, by rw [zUp_o (by decide)]; exact h.2.2.2.2.1, fun i hi => by rw [zUp_ne (by decide)]; exact h.2.2.2.2.2 i hi⟩
theorem yPM.opn {N p o o' w : Nat} {b Wk : Nat → Nat} {k : yCd} {μ : zMem} (h : yPM N b p o w Wk k μ) : yPM N b p o' w Wk k (zUp μ 60 14 (nI o')) := ⟨h.1.of (zUp_o (by decide)) (zUp_o (by decide)) (zUp_ne (by decide)), zUp_s _ _ _ _, by rw [zUp_o (by decide)]; exact h.2.2.1, fun i hi => by rw [zUp_ne (by decide)]; exact h.2.2.2.1 i hi, by rw [zUp_o (by decide)]; exact h.2.2.2.2.1, fun i hi => by rw [zUp_ne (by decide)]; exact h.2.2.2.2.2 i hi⟩
theorem yPM.pop {N p o w w' : Nat} {b Wk : Nat → Nat} {k : yCd} {μ : zMem} (h : yPM N b p o w Wk k μ) (hw : w' ≤ w) : yPM N b p o w' Wk k (zUp μ 60 16 (nI w')) := ⟨h.1.of (zUp_o (by decide)) (zUp_o (by decide)) (zUp_ne (by decide)), by rw [zUp_o (by decide)]; exact h.2.1, zUp_s _ _ _ _, fun i hi => by rw [zUp_ne (by decide)]; exact h.2.2.2.1 i (by omega), by rw [zUp_o (by decide)]; exact h.2.2.2.2.1, fun i hi => by rw [zUp_ne (by decide)]; exact h.2.2.2.2.2 i hi⟩
theorem yPM.push {N p o w x : Nat} {b Wk : Nat → Nat} {k : yCd} {μ : zMem} (h : yPM N b p o w Wk k μ) : yPM N b p o (w + 1) (uN Wk w x) k (zUp (zUp μ 70 w (nI x)) 60 16 (nI (w + 1))) := ⟨h.1.of (by rw [zUp_o (by decide), zUp_ne (by decide)]) (by rw [zUp_o (by decide), zUp_ne (by decide)]) (by rw [zUp_ne (by decide), zUp_ne (by decide)]), by rw [zUp_o (by decide), zUp_ne (by decide)]; exact h.2.1, zUp_s _ _ _ _, fun i hi => by
    rw [zUp_ne (by decide)]
    by_cases e : i = w
    · rw [e, zUp_s, uN_s]
    · rw [zUp_o e, uN_o e]; exact h.2.2.2.1 i (by omega), by rw [zUp_o (by decide), zUp_ne (by decide)]; exact h.2.2.2.2.1, fun i hi => by rw [zUp_ne (by decide), zUp_ne (by decide)]; exact h.2.2.2.2.2 i hi⟩
theorem yPM.wk {N p o w : Nat} {b Wk Wk2 : Nat → Nat} {k : yCd} {μ : zMem} (h : yPM N b p o w Wk k μ) (e : ∀ i, i < w → Wk2 i = Wk i) : yPM N b p o w Wk2 k μ := ⟨h.1, h.2.1, h.2.2.1, fun i hi => by rw [e i hi]; exact h.2.2.2.1 i hi, h.2.2.2.2⟩
theorem yPM.flt {N p o w : Nat} {b Wk : Nat → Nat} {k : yCd} {μ : zMem} {x : Int32} (h : yPM N b p o w Wk k μ) : yPM N b p o w Wk k (zUp μ 60 12 x) := ⟨h.1.of (zUp_o (by decide)) (zUp_o (by decide)) (zUp_ne (by decide)), by rw [zUp_o (by decide)]; exact h.2.1, by rw [zUp_o (by decide)]; exact h.2.2.1, fun i hi => by rw [zUp_ne (by decide)]; exact h.2.2.2.1 i hi, by rw [zUp_o (by decide)]; exact h.2.2.2.2.1, fun i hi => by rw [zUp_ne (by decide)]; exact h.2.2.2.2.2 i hi⟩
theorem lw_is {d : Nat} (hd : d = 19 ∨ d = 26) : zIsLw d = true := by rcases hd with rfl | rfl <;> rfl
theorem p_puts {F N p d x a : Nat} {b : Nat → Nat} {k : yCd} {μ : zMem} (hd : d = 19 ∨ d = 26) (h : yPC N b p d k μ) (hc : k.1 < 240) : ∃ m1, fX5_puts F d (nI (zSign x)) (nI a) μ = some (nI k.1, m1) ∧ yPC N b p d (kP k x a) m1 ∧ frC d μ m1 := by
  refine ⟨zUp (zUp (zUp μ (d + 1) k.1 (nI (zSign x))) (d + 2) k.1 (nI a)) d 6 (nI (k.1 + 1)), ?_, ⟨h.1.of (by rw [zUp_ne (by omega), zUp_ne (by omega), zUp_ne (by omega)]) (by rw [zUp_ne (by omega), zUp_ne (by omega), zUp_ne (by omega)]) (by rw [zUp_ne (by omega), zUp_ne (by omega), zUp_ne (by omega)]), by rw [zUp_ne (by omega), zUp_ne (by omega), zUp_ne (by omega)]; exact h.2.1, zUp_s _ _ _ _, fun i hi => ?_⟩, fun j hj => by rw [zUp_o hj, zUp_ne (by omega), zUp_ne (by omega)], fun c h1 h2 h3 h4 => by rw [zUp_ne h2, zUp_ne h4, zUp_ne h3]⟩
  · unfold fX5_puts
    rw [h.2.2.1, if_pos ((nI_ltI (by omega) (by decide)).mpr hc), zG_in rfl hc (by decide), cl9 (by omega)]
    dsimp only [zLt]
    rw [zUp_ne (show d ≠ d + 1 by omega), h.2.2.1, zG_in rfl hc (by decide), cl9 (by omega), zUp_ne (show d ≠ d + 2 by omega), zUp_ne (show d ≠ d + 1 by omega), h.2.2.1, nI_add, zUp_s, pk_sub (by omega), show k.1 + 1 - 1 = k.1 by omega]
  · have hi : i < k.1 + 1 := hi
    show _ = nI (zSign (uN k.2.1 k.1 x i)) ∧ _ = nI (uN k.2.2 k.1 a i)
    rw [zUp_ne (show d + 1 ≠ d by omega), zUp_ne (show d + 1 ≠ d + 2 by omega), zUp_ne (show d + 2 ≠ d by omega)]
    by_cases e : i = k.1
    · rw [e, zUp_s, zUp_s, uN_s, uN_s]; exact ⟨rfl, rfl⟩
    · rw [zUp_o e, zUp_o e, zUp_ne (show d + 2 ≠ d + 1 by omega), uN_o e, uN_o e]
      exact h.2.2.2 i (by omega)
def yOp (x : Nat) : Int32 := if x = 0 then -1 else nI (zSign x)
theorem zSign_lt (x : Nat) : zSign x < 256 := by
  unfold zSign
  match x with
  | 0 | 1 | 2 | 3 | 4 | 5 | 6 | 7 | 8 | 9 | 10 | 11 | 12 => decide
  | n + 13 => simp
theorem p_joins {F N p d x : Nat} {b : Nat → Nat} {k : yCd} {μ : zMem} (hd : d = 19 ∨ d = 26) (h : yPC N b p d k μ) (hc : x ≠ 0 → k.1 < 240) : ∃ r m1, fX5_joins F d (yOp x) μ = some (r, m1) ∧ yPC N b p d (yApp k x) m1 ∧ frC d μ m1 := by
  unfold fX5_joins yOp
  by_cases hx : x = 0
  · rw [if_pos hx, if_pos rfl, hx, yApp_0]
    exact ⟨_, μ, rfl, h, frC.rfl' d μ⟩
  · have hz := zSign_lt x
    rw [if_neg hx, if_neg (nI_m1 (by omega)), yApp_n hx]
    obtain ⟨m1, a1, a2, a3⟩ := p_puts (F := F) (x := x) (a := 0) hd h (hc hx)
    rw [a1, zBd_s]
    exact ⟨_, m1, rfl, a2, a3⟩
theorem p_notes {F N p o w x a : Nat} {b Wk : Nat → Nat} {k : yCd} {μ : zMem} (h : yPM N b p o w Wk k μ) (hc : k.1 < 260) : ∃ m1, fX12_notes F (nI x) (nI a) μ = some (nI 0, m1) ∧ yPM N b p o w Wk (kP k x a) m1 ∧ frM μ m1 := by
  refine ⟨zUp (zUp μ 69 k.1 (nI (1048576 * x + a))) 60 15 (nI (k.1 + 1)), ?_, ⟨h.1.of (by rw [zUp_o (by decide), zUp_ne (by decide)]) (by rw [zUp_o (by decide), zUp_ne (by decide)]) (by rw [zUp_ne (by decide), zUp_ne (by decide)]), by rw [zUp_o (by decide), zUp_ne (by decide)]; exact h.2.1, by rw [zUp_o (by decide), zUp_ne (by decide)]; exact h.2.2.1, fun i hi => by rw [zUp_ne (by decide), zUp_ne (by decide)]; exact h.2.2.2.1 i hi, zUp_s _ _ _ _, fun i hi => ?_⟩, fun j _ _ _ _ h5 _ => by rw [zUp_o h5, zUp_ne (by decide)], fun c h1 h2 h3 => by rw [zUp_ne h1, zUp_ne h2]⟩
  · unfold fX12_notes
    rw [h.2.2.2.2.1, zG_in rfl hc (by decide), cl9 (by omega), pk_mul, nI_add]
    dsimp only [zLt]
    rw [zUp_ne (by decide), h.2.2.2.2.1, nI_add]
  · have hi : i < k.1 + 1 := hi
    show _ = nI (1048576 * uN k.2.1 k.1 x i + uN k.2.2 k.1 a i)
    rw [zUp_ne (by decide)]
    by_cases e : i = k.1
    · rw [e, zUp_s, uN_s, uN_s]
    · rw [zUp_o e, uN_o e, uN_o e]; exact h.2.2.2.2.2 i (by omega)
/-! the waiting stack -/
def yWb (w : Nat) (Wk : Nat → Nat) : Prop := ∀ i, i < w → Wk i < 16777216
def yTop (w : Nat) (Wk : Nat → Nat) : Int32 := if w = 0 then -1 else nI (Wk (w - 1) / 1048576)
theorem e_waitTop {F N p o w : Nat} {b Wk : Nat → Nat} {k : yCd} {μ : zMem} (h : yPM N b p o w Wk k μ) (hw : w ≤ 260) (hb : yWb w Wk) : fX12_waitTop F μ = some (yTop w Wk, μ) := by
  unfold fX12_waitTop yTop
  rw [h.2.2.1]
  by_cases h0 : w = 0
  · rw [h0, if_pos (show nI 0 = 0 from rfl), if_pos rfl]
  · have hb1 := hb (w - 1) (by omega)
    rw [if_neg (fun z => h0 ((nI_z (by omega)).mp z)), if_neg h0, pk_sub (by omega), zG_in rfl (by omega) (by decide), zGz_in (by decide), cl9 (by omega), h.2.2.2.1 (w - 1) (by omega), pk_div (by omega) (by decide) (by decide)]
/-- where a sum's signs end -/
def yFl (w : Nat) (Wk : Nat → Nat) : Prop := w = 0 ∨ 7 ≤ Wk (w - 1) / 1048576
def yWn (w wt tm : Nat) : Nat := w + (if wt = 0 then 0 else 1) + (if tm = 0 then 0 else 1)
def yWk (Wk : Nat → Nat) (w wt tm : Nat) : Nat → Nat := fun i => if i < w then Wk i else if i = w ∧ wt ≠ 0 then 1048576 * wt else 1048576 * tm
theorem yWk_b {Wk : Nat → Nat} {w wt tm : Nat} (h : yWb w Wk) (h1 : wt ≤ 6) (h2 : tm ≤ 6) : yWb (yWn w wt tm) (yWk Wk w wt tm) := fun i hi => by
  unfold yWk
  split
  · rename_i hw; exact h i hw
  · split <;> omega
theorem cs_pop {F n N p o w x : Nat} {v1 : Int32} {b Wk : Nat → Nat} {k : yCd} {μ : zMem} (h : yPM N b p o (w + 1) Wk k μ) (hw : w < 260) (hb : yWb (w + 1) Wk) (hx : Wk w = 1048576 * x) (hv : (4 ≤ x ∧ x ≤ 6) ∨ ((x = 2 ∨ x = 3) ∧ ¬ v1 = 0)) (hc : k.1 < 260) : ∃ m1, fX12_closesSums_0 F (n + 1) v1 μ = fX12_closesSums_0 F n v1 m1 ∧ yPM N b p o w Wk (kP k x 0) m1 ∧ frM μ m1 := by
  have ht : yTop (w + 1) Wk = nI x := by
    unfold yTop
    rw [if_neg (by omega), show w + 1 - 1 = w by omega, hx]; congr 1; omega
  have hT : fX12_waitTop F μ = some (nI x, μ) := by rw [e_waitTop h (by omega) hb, ht]
  obtain ⟨m1, a1, a2, a3⟩ := p_notes (F := F) (x := x) (a := 0) h hc
  have a4 := a2.pop (show w ≤ w + 1 by omega)
  have k37 : fX12_closesSums_37 F (fX12_closesSums_0 F n) v1 μ = fX12_closesSums_0 F n v1 (zUp m1 60 16 (nI w)) := by
    unfold fX12_closesSums_37
    rw [hT, zBd_s, a1, zBd_s, a2.2.2.1, pk_sub (by omega), show w + 1 - 1 = w by omega]
    rfl
  refine ⟨zUp m1 60 16 (nI w), ?_, a4, a3.trans (frM_60 (by omega))⟩
  rw [fX12_closesSums_0, hT, zBd_s]
  rcases hv with ⟨h4, h6⟩ | ⟨h23, hv1⟩
  · rw [if_neg (fun z => by have := (nI_ltI (by omega) (by decide)).mp z; omega), hT, zBd_s, if_pos ((nI_leI (by omega) (by decide)).mpr h6), k37]
  · rw [if_pos ((nI_ltI (by omega) (by decide)).mpr (by omega))]
    unfold fX12_closesSums_17
    rw [if_neg hv1, hT, zBd_s]
    by_cases h2 : x = 2
    · rw [if_pos (by rw [h2]), k37]
    · rw [if_neg (fun z => h2 ((nI_eq (by omega) (by decide)).mp z)), hT, zBd_s, if_pos (by rw [show x = 3 by omega]), k37]
theorem cs_stop {F n N p o w : Nat} {v1 : Int32} {b Wk : Nat → Nat} {k : yCd} {μ : zMem} (h : yPM N b p o w Wk k μ) (hw : w ≤ 260) (hb : yWb w Wk) (hs : yFl w Wk ∨ (v1 = 0 ∧ (w = 0 ∨ Wk (w - 1) / 1048576 < 4))) : fX12_closesSums_0 F (n + 1) v1 μ = some (nI 0, μ) := by
  have hT := e_waitTop (F := F) h hw hb
  have k17 : ¬ (yTop w Wk = nI 2) → ¬ (yTop w Wk = nI 3) → fX12_closesSums_17 F (fX12_closesSums_0 F n) v1 μ = some (nI 0, μ) := by
    intro n2 n3
    unfold fX12_closesSums_17
    split
    · rfl
    · rw [hT, zBd_s, if_neg n2, hT, zBd_s, if_neg n3]
  have k17z : v1 = 0 → fX12_closesSums_17 F (fX12_closesSums_0 F n) v1 μ = some (nI 0, μ) := fun h0 => by
    unfold fX12_closesSums_17
    rw [if_pos h0]
  rw [fX12_closesSums_0, hT, zBd_s]
  unfold yTop at k17 ⊢
  by_cases h0 : w = 0
  · rw [if_pos h0] at k17 ⊢
    rw [if_pos (by decide)]
    exact k17 (by decide) (by decide)
  · have hb1 := hb (w - 1) (by omega)
    rw [if_neg h0] at k17 ⊢
    rcases hs with hs | ⟨hv, hs⟩
    · rcases hs with hs | hs
      · exact absurd hs h0
      · rw [if_neg (fun z => by have := (nI_ltI (by omega) (by decide)).mp z; omega), hT, zBd_s]
        unfold yTop
        rw [if_neg h0, if_neg (fun z => by have := (nI_leI (by omega) (by decide)).mp z; omega)]
        exact k17 (fun z => by have := (nI_eq (by omega) (by decide)).mp z; omega) (fun z => by have := (nI_eq (by omega) (by decide)).mp z; omega)
    · rcases hs with hs | hs
      · exact absurd hs h0
      · rw [if_pos ((nI_ltI (by omega) (by decide)).mpr hs)]
        exact k17z hv
theorem yWn_0 (w : Nat) : yWn w 0 0 = w := rfl
theorem yWk_in {Wk : Nat → Nat} {w wt tm i : Nat} (h : i < w) : yWk Wk w wt tm i = Wk i := if_pos h
theorem yWk_w {Wk : Nat → Nat} {w wt tm : Nat} (h : wt ≠ 0) : yWk Wk w wt tm w = 1048576 * wt := by
  unfold yWk
  rw [if_neg (Nat.lt_irrefl _), if_pos ⟨rfl, h⟩]
theorem yWk_t {Wk : Nat → Nat} {w wt tm i : Nat} (h : ¬ i < w) (h2 : wt = 0 ∨ i ≠ w) : yWk Wk w wt tm i = 1048576 * tm := by
  unfold yWk
  rw [if_neg h, if_neg (fun z => by rcases h2 with e | e; exact z.2 e; exact e z.1)]
/-- times that waits is written -/
theorem cs_tm {F n N p o w wt tm : Nat} {v1 : Int32} {b Wk : Nat → Nat} {k : yCd} {μ : zMem} (h : yPM N b p o (yWn w wt tm) (yWk Wk w wt tm) k μ) (hw : w < 255) (hb : yWb w Wk) (hwt : wt = 0 ∨ wt = 2 ∨ wt = 3) (htm : tm = 0 ∨ (4 ≤ tm ∧ tm ≤ 6)) (hc : tm ≠ 0 → k.1 < 260) : ∃ n' m1, n ≤ n' ∧ fX12_closesSums_0 F (n + 1) v1 μ = fX12_closesSums_0 F n' v1 m1 ∧ yPM N b p o (yWn w wt 0) (yWk Wk w wt 0) (yApp k tm) m1 ∧ frM μ m1 := by
  by_cases ht : tm = 0
  · subst ht
    rw [yApp_0]
    exact ⟨n + 1, μ, by omega, rfl, h, frM.rfl' μ⟩
  · have hbb := yWk_b (wt := wt) (tm := tm) hb (by omega) (by omega)
    have e1 : yWn w wt tm = yWn w wt 0 + 1 := by unfold yWn; rw [if_neg ht, if_pos rfl]
    have hwn : yWn w wt 0 ≤ w + 1 := by unfold yWn; split <;> simp
    rw [e1] at h hbb
    have hx : yWk Wk w wt tm (yWn w wt 0) = 1048576 * tm := by
      by_cases h0 : wt = 0
      · subst h0
        exact yWk_t (by unfold yWn; simp) (Or.inl rfl)
      · exact yWk_t (by unfold yWn; simp) (Or.inr (by unfold yWn; rw [if_neg h0]; simp))
    obtain ⟨m1, a1, a2, a3⟩ := cs_pop (F := F) (n := n) (v1 := v1) (x := tm) h (by omega) hbb hx (Or.inl (by omega)) (hc ht)
    refine ⟨n, m1, Nat.le_refl _, a1, ?_, a3⟩
    rw [yApp_n ht]
    refine a2.wk (fun i hi => ?_)
    by_cases hiw : i < w
    · rw [yWk_in hiw, yWk_in hiw]
    · have h0 : wt ≠ 0 := fun z => by subst z; unfold yWn at hi; simp at hi; omega
      have : i = w := by unfold yWn at hi; rw [if_neg h0] at hi; simp at hi; omega
      rw [this, yWk_w h0, yWk_w h0]
theorem cs_mul {F N p o w wt tm : Nat} {b Wk : Nat → Nat} {k : yCd} {μ : zMem} (hF : 10 ≤ F) (h : yPM N b p o (yWn w wt tm) (yWk Wk w wt tm) k μ) (hw : w < 255) (hb : yWb w Wk) (hfl : yFl w Wk) (hwt : wt = 0 ∨ wt = 2 ∨ wt = 3) (htm : tm = 0 ∨ (4 ≤ tm ∧ tm ≤ 6)) (hc : tm ≠ 0 → k.1 < 260) : ∃ m1, fX12_closesSums F (nI 0) μ = some (nI 0, m1) ∧ yPM N b p o (yWn w wt 0) (yWk Wk w wt 0) (yApp k tm) m1 ∧ frM μ m1 := by
  obtain ⟨n', m1, a0, a1, a2, a3⟩ := cs_tm (F := F) (n := F - 1) (v1 := nI 0) h hw hb hwt htm hc
  refine ⟨m1, ?_, a2, a3⟩
  unfold fX12_closesSums
  rw [show F - 1 + 1 = F by omega] at a1
  obtain ⟨n2, rfl⟩ : ∃ n2, n' = n2 + 1 := ⟨n' - 1, by omega⟩
  rw [a1]
  refine cs_stop a2 (by unfold yWn; split <;> simp <;> omega) (yWk_b hb (by omega) (by omega)) ?_
  by_cases h0 : wt = 0
  · subst h0
    left
    rcases hfl with e | e
    · left; exact e
    · by_cases hw0 : w = 0
      · left; exact hw0
      · right
        show 7 ≤ yWk Wk w 0 0 (w - 1) / 1048576
        rw [yWk_in (by omega)]; exact e
  · right
    refine ⟨rfl, Or.inr ?_⟩
    have : yWn w wt 0 - 1 = w := by unfold yWn; rw [if_neg h0]; simp
    rw [this, yWk_w h0]; omega
theorem cs_all {F N p o w wt tm : Nat} {b Wk : Nat → Nat} {k : yCd} {μ : zMem} (hF : 10 ≤ F) (h : yPM N b p o (yWn w wt tm) (yWk Wk w wt tm) k μ) (hw : w < 255) (hb : yWb w Wk) (hfl : yFl w Wk) (hwt : wt = 0 ∨ wt = 2 ∨ wt = 3) (htm : tm = 0 ∨ (4 ≤ tm ∧ tm ≤ 6)) (hc : k.1 < 258) : ∃ m1, fX12_closesSums F (nI 1) μ = some (nI 0, m1) ∧ yPM N b p o w Wk (yApp (yApp k tm) wt) m1 ∧ frM μ m1 := by
  obtain ⟨n', m1, a0, a1, a2, a3⟩ := cs_tm (F := F) (n := F - 1) (v1 := nI 1) h hw hb hwt htm (fun _ => by omega)
  rw [show F - 1 + 1 = F by omega] at a1
  unfold fX12_closesSums
  rw [a1]
  have h1c : (yApp k tm).1 ≤ k.1 + 1 := by rw [yApp_1]; split <;> omega
  by_cases h0 : wt = 0
  · subst h0
    obtain ⟨n2, rfl⟩ : ∃ n2, n' = n2 + 1 := ⟨n' - 1, by omega⟩
    have a4 : yPM N b p o w Wk (yApp k tm) m1 := a2.wk (fun i hi => (yWk_in hi).symm)
    exact ⟨m1, cs_stop a4 (by omega) hb (Or.inl hfl), by rw [yApp_0]; exact a4, a3⟩
  · have e1 : yWn w wt 0 = w + 1 := by unfold yWn; rw [if_neg h0]; simp
    have hbb := yWk_b (wt := wt) (tm := 0) hb (by omega) (by omega)
    rw [e1] at a2 hbb
    obtain ⟨n2, rfl⟩ : ∃ n2, n' = n2 + 1 + 1 := ⟨n' - 2, by omega⟩
    obtain ⟨m2, b1, b2, b3⟩ := cs_pop (F := F) (n := n2 + 1) (v1 := nI 1) (x := wt) a2 (by omega) hbb (yWk_w h0) (Or.inr ⟨by omega, by decide⟩) (by omega)
    have b4 : yPM N b p o w Wk (kP (yApp k tm) wt 0) m2 := b2.wk (fun i hi => (yWk_in hi).symm)
    refine ⟨m2, ?_, by rw [yApp_n h0]; exact b4, a3.trans b3⟩
    rw [b1]
    exact cs_stop b4 (by omega) hb (Or.inl hfl)
/-! brackets -/
theorem e_mOpens_f {F N p o w x : Nat} {b Wk : Nat → Nat} {k : yCd} {μ : zMem} (h : yPM N b p o w Wk k μ) (ho : o = 6) : fX12_opens F (nI x) μ = some (nI 0, zUp μ 60 12 (yFt 5 p)) := by
  unfold fX12_opens
  rw [h.2.1, if_pos (by rw [ho]), h.1.2.1, e_wrongAt, zBd_s, zGb0]
theorem e_mOpens_t {F N p o w x : Nat} {b Wk : Nat → Nat} {k : yCd} {μ : zMem} (h : yPM N b p o w Wk k μ) (ho : o < 6) (hw : w < 260) : ∃ m1, fX12_opens F (nI x) μ = some (nI 1, m1) ∧ yPM N b (p + 1) (o + 1) (w + 1) (uN Wk w (1048576 * x)) k m1 ∧ frM μ m1 := by
  have h1 := h.opn (o' := o + 1)
  have h2 := h1.push (x := 1048576 * x)
  have h3 := h2.pos (q := p + 1)
  refine ⟨_, ?_, h3, ⟨fun j h1 h2 h3 h4 h5 h6 => by rw [zUp_o h1, zUp_o h6, zUp_ne (by decide), zUp_o h4], fun c h1 h2 h3 => by rw [zUp_ne h1, zUp_ne h1, zUp_ne h3, zUp_ne h1]⟩⟩
  unfold fX12_opens
  rw [h.2.1, if_neg (fun z => by have := (nI_eq (by omega) (by decide)).mp z; omega), nI_add]
  dsimp only [zLt]
  rw [h1.2.2.1, zG_in rfl hw (by decide), cl9 (by omega), pk_mul, zUp_ne (show (60 : Nat) ≠ 70 by decide), h1.2.2.1, nI_add, h2.1.2.1, nI_add]
theorem e_hasOpen_f {F N p o w w0 : Nat} {b Wk : Nat → Nat} {k : yCd} {μ : zMem} (h : yPM N b p o w Wk k μ) (hw : w ≤ 260) (hb : yWb w Wk) (hn : ∀ i, w0 ≤ i → i < w → Wk i / 1048576 ≠ 14) : ∀ m j f, j + m = w → w0 ≤ j → m < f → fX12_hasOpenSum_2 F f (nI j) μ = some (nI 0, μ) := by
  intro m
  induction m with
  | zero =>
    intro j f hj hwj hf
    obtain ⟨f, rfl⟩ := z_s hf
    rw [fX12_hasOpenSum_2, h.2.2.1, z_done (by omega) (by omega)]
  | succ m ih =>
    intro j f hj hwj hf
    obtain ⟨f, rfl⟩ := z_s hf
    have hbj := hb j (by omega)
    rw [fX12_hasOpenSum_2, h.2.2.1, z_more (by omega) (by omega), zG_in rfl (by omega) (by decide), zGz_in (by decide), cl9 (by omega), h.2.2.2.1 j (by omega), pk_div (by omega) (by decide) (by decide), if_neg (fun z => hn j hwj (by omega) ((nI_eq (by omega) (by decide)).mp z)), nI_add]
    exact ih (j + 1) f (by omega) (by omega) (by omega)
theorem e_hasOpen_t {F N p o w : Nat} {b Wk : Nat → Nat} {k : yCd} {μ : zMem} (h : yPM N b p o w Wk k μ) (hw : w ≤ 260) (hb : yWb w Wk) : ∀ m j f, j + m = w → m < f → (∃ i, j ≤ i ∧ i < w ∧ Wk i / 1048576 = 14) → fX12_hasOpenSum_2 F f (nI j) μ = some (nI 1, μ) := by
  intro m
  induction m with
  | zero => rintro j f hj hf ⟨i, h1, h2, -⟩; omega
  | succ m ih =>
    intro j f hj hf hx
    obtain ⟨f, rfl⟩ := z_s hf
    have hbj := hb j (by omega)
    rw [fX12_hasOpenSum_2, h.2.2.1, z_more (by omega) (by omega), zG_in rfl (by omega) (by decide), zGz_in (by decide), cl9 (by omega), h.2.2.2.1 j (by omega), pk_div (by omega) (by decide) (by decide)]
    by_cases h14 : Wk j / 1048576 = 14
    · rw [if_pos (by rw [h14])]
    · rw [if_neg (fun z => h14 ((nI_eq (by omega) (by decide)).mp z)), nI_add]
      obtain ⟨i, h1, h2, h3⟩ := hx
      exact ih (j + 1) f (by omega) (by omega) ⟨i, by
        have : i ≠ j := fun e => h14 (by rw [← e]; exact h3)
        omega, h2, h3⟩
/-! facts -/
def yFac (x : Int32) : Int32 := (if x = (nI 98) then (nI 5) else if x = (nI 99) then (nI 8) else if x = (nI 100) then (nI 6) else if x = (nI 101) then (-1 : Int32) else if x = (nI 102) then (-1 : Int32) else if x = (nI 103) then (-1 : Int32) else if x = (nI 104) then (-1 : Int32) else if x = (nI 105) then (-1 : Int32) else if x = (nI 106) then (-1 : Int32) else if x = (nI 107) then (nI 1) else if x = (nI 108) then (-1 : Int32) else if x = (nI 109) then (-1 : Int32) else if x = (nI 110) then (nI 2) else if x = (nI 111) then (nI 3) else if x = (nI 112) then (nI 0) else if x = (nI 113) then (-1 : Int32) else if x = (nI 114) then (-1 : Int32) else if x = (nI 115) then (-1 : Int32) else if x = (nI 116) then (-1 : Int32) else if x = (nI 117) then (nI 4) else if x = (nI 118) then (-1 : Int32) else if x = (nI 119) then (nI 7) else (-1 : Int32))
theorem ite_sm {c : Prop} [Decidable c] {a b : Int32} {X : Option zR} {μ : zMem} (h : X = some (b, μ)) : (if c then some (a, μ) else X) = some ((if c then a else b), μ) := by
  by_cases hc : c
  · rw [if_pos hc, if_pos hc]
  · rw [if_neg hc, if_neg hc, h]
theorem e_facC {F : Nat} {x : Int32} {μ : zMem} : fX10_factOf F x μ = some (yFac x, μ) := by
  unfold fX10_factOf yFac
  repeat refine ite_sm ?_
  rfl
theorem e_facM {F : Nat} {x : Int32} {μ : zMem} : fX12_factOf F x μ = some (yFac x, μ) := by
  unfold fX12_factOf yFac
  repeat refine ite_sm ?_
  rfl
theorem yFac_d : ∀ v, v < 256 → (yFac (nI v) = -1 ∨ ∃ j, j < 9 ∧ yFac (nI v) = nI j) ∧ (48 ≤ v → v ≤ 57 → yFac (nI v) = -1) ∧ (v = 91 → yFac (nI v) = -1) := by
  have h : ∀ v, v < 256 → (yFac (nI v) = -1 ∨ yFac (nI v) = nI 0 ∨ yFac (nI v) = nI 1 ∨ yFac (nI v) = nI 2 ∨ yFac (nI v) = nI 3 ∨ yFac (nI v) = nI 4 ∨ yFac (nI v) = nI 5 ∨ yFac (nI v) = nI 6 ∨ yFac (nI v) = nI 7 ∨ yFac (nI v) = nI 8) ∧ (48 ≤ v → v ≤ 57 → yFac (nI v) = -1) ∧ (v = 91 → yFac (nI v) = -1) := by decide +kernel
  intro v hv
  obtain ⟨h1, h2⟩ := h v hv
  refine ⟨?_, h2⟩
  rcases h1 with e | e | e | e | e | e | e | e | e | e
  · exact Or.inl e
  · exact Or.inr ⟨0, by omega, e⟩
  · exact Or.inr ⟨1, by omega, e⟩
  · exact Or.inr ⟨2, by omega, e⟩
  · exact Or.inr ⟨3, by omega, e⟩
  · exact Or.inr ⟨4, by omega, e⟩
  · exact Or.inr ⟨5, by omega, e⟩
  · exact Or.inr ⟨6, by omega, e⟩
  · exact Or.inr ⟨7, by omega, e⟩
  · exact Or.inr ⟨8, by omega, e⟩
/-! pieces of codes stay when more comes -/
theorem ySV.mono {l : zLS} {a e d d' : Nat} (h : ySV l a e d) (hd : d ≤ d') : ySV l a e d' := by
  have key : ∀ d', d ≤ d' → ySV l a e d' := by
    apply h (fun a e d => ∀ d', d ≤ d' → ySV l a e d')
    · intro a d ho ha hd d' hdd P p1 p2 p3
      exact p1 a d' ho ha (by omega)
    · intro a d ho ha hd d' hdd P p1 p2 p3
      exact p2 a d' ho ha (by omega)
    · intro a m f d d2 h1 h2 hd ho1 ho2 ha d' hdd P p1 p2 p3
      exact p3 a m f d' d2 (h1 d' hdd P p1 p2 p3) (h2 d2 (Nat.le_refl _) P p1 p2 p3) (by omega) ho1 ho2 ha
  exact key d' hd
theorem ySV.ext {l l2 : zLS} {a e d : Nat} (h : ySV l a e d) (he : ∀ i, a ≤ i → i < e → lO l2 i = lO l i ∧ lA l2 i = lA l i) : ySV l2 a e d := by
  have key : a < e ∧ ((∀ i, a ≤ i → i < e → lO l2 i = lO l i ∧ lA l2 i = lA l i) → ySV l2 a e d) := by
    apply h (fun a e d => a < e ∧ ((∀ i, a ≤ i → i < e → lO l2 i = lO l i ∧ lA l2 i = lA l i) → ySV l2 a e d))
    · intro a d ho ha hd
      refine ⟨by omega, fun he P p1 p2 p3 => ?_⟩
      obtain ⟨e1, e2⟩ := he a (by omega) (by omega)
      exact p1 a d (by rw [e1]; exact ho) (by rw [e2]; exact ha) hd
    · intro a d ho ha hd
      refine ⟨by omega, fun he P p1 p2 p3 => ?_⟩
      obtain ⟨e1, e2⟩ := he a (by omega) (by omega)
      exact p2 a d (by rw [e1]; exact ho) (by rw [e2]; exact ha) hd
    · rintro a m f d d2 ⟨h1, k1⟩ ⟨h2, k2⟩ hd ho1 ho2 ha
      refine ⟨by omega, fun he P p1 p2 p3 => ?_⟩
      obtain ⟨e1, e2⟩ := he f (by omega) (by omega)
      exact p3 a m f d d2 (k1 (fun i h1 h2 => he i h1 (by omega)) P p1 p2 p3) (k2 (fun i h1 h2 => he i (by omega) (by omega)) P p1 p2 p3) hd (by rw [e1]; exact ho1) (by rw [e1]; exact ho2) (by rw [e2]; exact ha)
  exact key.2 he
theorem ySV.lt {l : zLS} {a e d : Nat} (h : ySV l a e d) : a < e ∧ 1 ≤ d := by
  apply h (fun a e d => a < e ∧ 1 ≤ d)
  · intro a d _ _ hd; exact ⟨by omega, hd⟩
  · intro a d _ _ hd; exact ⟨by omega, hd⟩
  · rintro a m f d d2 ⟨h1, h2⟩ ⟨h3, h4⟩ _ _ _ _; exact ⟨by omega, h2⟩
theorem ySV.bin {l : zLS} {a m f d d2 : Nat} (h1 : ySV l a m d) (h2 : ySV l m f d2) (hd : d2 + 1 ≤ d) (ho1 : 2 ≤ lO l f) (ho2 : lO l f ≤ 6) (ha : lA l f = 0) : ySV l a (f + 1) d := fun P p1 p2 p3 => p3 a m f d d2 (h1 P p1 p2 p3) (h2 P p1 p2 p3) hd ho1 ho2 ha
theorem ySV.num {l : zLS} {a d : Nat} (ho : lO l a = 0) (ha : lA l a < 100000) (hd : 1 ≤ d) : ySV l a (a + 1) d := fun P p1 p2 p3 => p1 a d ho ha hd
theorem ySV.fact {l : zLS} {a d : Nat} (ho : lO l a = 1) (ha : lA l a < 9) (hd : 1 ≤ d) : ySV l a (a + 1) d := fun P p1 p2 p3 => p2 a d ho ha hd
theorem ySV.kE {k k' : yCd} {a e d : Nat} (h : ySV (yL k) a e d) (he : kE k k') (hk : e ≤ k.1) : ySV (yL k') a e d := h.ext (fun i h1 h2 => he.2 i (by omega))
