/-! ===== the law is read: values ===== -/
def yRB (F f g base : Nat) (μ : zMem) : Option zR := zBd (fX12_readsFactor_0 F f μ) (fun r9 m9 => if r9 = 0 then some ((nI 0), m9) else fX12_readsSum_14 F g (nI base) m9)
def y1 (x : Nat) : Nat := if x = 0 then 0 else 1
theorem y1_le (x : Nat) : y1 x ≤ 1 := by unfold y1; split <;> omega
theorem y1_0 : y1 0 = 0 := rfl
theorem y1_n {x : Nat} (h : x ≠ 0) : y1 x = 1 := if_neg h
theorem yApp_y1 (k : yCd) (x : Nat) : (yApp k x).1 = k.1 + y1 x := yApp_1 k x
theorem yWn_y1 (w wt tm : Nat) : yWn w wt tm = w + y1 wt + y1 tm := rfl
def yOkW (x : Nat) : Prop := x = 0 ∨ x = 2 ∨ x = 3
def yOkT (x : Nat) : Prop := x = 0 ∨ (4 ≤ x ∧ x ≤ 6)
def ySums : List Nat := [43, 45, 42, 47, 37]
def yFACT (N : Nat) (b : Nat → Nat) (p o : Nat) (k : yCd) : Prop := ∃ (ok : Bool) (p' : Nat) (k' : yCd) (ft : Int32), (ok = true → p < p' ∧ p' ≤ N ∧ k.1 < k'.1 ∧ k'.1 + p ≤ k.1 + p' ∧ kE k k' ∧ ySV (yL k') k.1 k'.1 (13 - 2 * o)) ∧
  (∀ (F D d : Nat) (μ : zMem), 300 ≤ F → 13 - 2 * o ≤ D → (d = 19 ∨ d = 26) → yPC N b p d k μ → ∃ m1, fGC F D 3 (nI o) μ = some (zB ok, m1) ∧ (ok = true → yPC N b p' d k' m1) ∧ (ok = false → m1 1 3 = ft) ∧ frC d μ m1) ∧
  ∀ (F f g base w : Nat) (Wk : Nat → Nat) (μ : zMem), 300 ≤ F → 8 ≤ f + o → N < g + p → base ≤ w → w ≤ p → yWb w Wk → yPM N b p o w Wk k μ → ∃ m1, (ok = true → ∃ g1, N < g1 + p' ∧ yRB F f g base μ = fX12_readsSum_14 F g1 (nI base) m1 ∧ yPM N b p' o w Wk k' m1) ∧ (ok = false → yRB F f g base μ = some (nI 0, m1) ∧ m1 60 12 = ft) ∧ frM μ m1
def yVAL (N : Nat) (b : Nat → Nat) (p o wt tm a : Nat) (k : yCd) : Prop := ∃ (ok : Bool) (p' : Nat) (k1 : yCd) (wt1 tm1 : Nat) (ft : Int32), (ok = true → p < p' ∧ p' ≤ N ∧ yOkW wt1 ∧ yOkT tm1 ∧ kE k k1 ∧ k1.1 + y1 tm1 + y1 wt1 + p ≤ k.1 + y1 tm + y1 wt + p' ∧ (p' < N → b p' ∉ ySums) ∧ ySV (yL (yApp (yApp k1 tm1) wt1)) a (yApp (yApp k1 tm1) wt1).1 (15 - 2 * o)) ∧
  (∀ (F D d f i : Nat) (μ : zMem), 300 ≤ F → 13 - 2 * o ≤ D → N < f + p → 2 * i ≤ p → (d = 19 ∨ d = 26) → yPC N b p d k μ → ∃ m1, fX6_readsValue_8 F (fGC F D 0) (fGC F D 1) (fGC F D 2) (fGC F D 3) f (nI o) (yOp wt) (yOp tm) (nI i) μ = some (zB ok, m1) ∧ (ok = true → yPC N b p' d (yApp (yApp k1 tm1) wt1) m1) ∧ (ok = false → m1 1 3 = ft) ∧ frC d μ m1) ∧
  ∀ (F f g base w : Nat) (Wk : Nat → Nat) (μ : zMem), 300 ≤ F → 8 ≤ f + o → N < g + p → base ≤ w → yWn w wt tm ≤ p → yWb w Wk → yFl w Wk → yPM N b p o (yWn w wt tm) (yWk Wk w wt tm) k μ → ∃ m1, (ok = true → ∃ g1, N < g1 + p' ∧ yRB F f g base μ = fX12_readsSum_14 F g1 (nI base) m1 ∧ yPM N b p' o (yWn w wt1 tm1) (yWk Wk w wt1 tm1) k1 m1) ∧ (ok = false → yRB F f g base μ = some (nI 0, m1) ∧ m1 60 12 = ft) ∧ frM μ m1
/-- what has been read of this value so far -/
def ySf (a o wt tm : Nat) (k : yCd) : Prop := ∃ x, x ≤ k.1 ∧ (if wt = 0 then a = x else ySV (yL k) a x (15 - 2 * o)) ∧ (if tm = 0 then x = k.1 else ySV (yL k) x k.1 (14 - 2 * o))
theorem sg_none {N p : Nat} {b : Nat → Nat} (h : ¬ p < N) : ySg N b p = -1 := if_neg h
theorem m1_ne {c : Nat} (h : c < 256) : ¬ (-1 : Int32) = nI c := fun z => nI_m1 (by omega) z.symm
theorem yFac_m1 : yFac (-1) = -1 := by decide
theorem fact_of {N : Nat} {b : Nat → Nat} (hN : N ≤ 240) (hb : ∀ j, b j < 256) {p o : Nat} {k : yCd} (hp : p ≤ N) (ho : o ≤ 6) (hk : k.1 ≤ p) (hV : o < 6 → p < N → yVAL N b (p + 1) (o + 1) 0 0 k.1 k) : yFACT N b p o k := by
  -- what the class does, by its sign
  have cS : ∀ (F D d : Nat) (μ : zMem), 13 - 2 * o ≤ D → yPC N b p d k μ → ∃ D1, D = D1 + 1 := fun F D d μ hD _ => ⟨D - 1, by omega⟩
  have fault : ∀ kk : Nat, (∀ (F D d : Nat) (μ : zMem), 300 ≤ F → 13 - 2 * o ≤ D + 1 → (d = 19 ∨ d = 26) → yPC N b p d k μ → ∃ m1, fGC F (D + 1) 3 (nI o) μ = some (nI 0, m1) ∧ m1 1 3 = yFt kk p ∧ frC d μ m1) → (∀ (F f g base w : Nat) (Wk : Nat → Nat) (μ : zMem), 300 ≤ F → yPM N b p o w Wk k μ → fX12_readsFactor_0 F (f + 1) μ = some (nI 0, zUp μ 60 12 (yFt kk p))) → yFACT N b p o k := by
    intro kk h1 h2
    refine ⟨false, 0, k, yFt kk p, fun h => (by cases h), fun F D d μ hF hD hd hP => ?_, fun F f g base w Wk μ hF hf hg hbw hwp hWb hP => ?_⟩
    · obtain ⟨D, rfl⟩ : ∃ D1, D = D1 + 1 := ⟨D - 1, by omega⟩
      obtain ⟨m1, a1, a2, a3⟩ := h1 F D d μ hF hD hd hP
      exact ⟨m1, a1, fun h => (by cases h), fun _ => a2, a3⟩
    · obtain ⟨f, rfl⟩ : ∃ f1, f = f1 + 1 := ⟨f - 1, by omega⟩
      refine ⟨zUp μ 60 12 (yFt kk p), fun h => (by cases h), fun _ => ⟨?_, zUp_s _ _ _ _⟩, frM_60 (by omega)⟩
      unfold yRB
      rw [h2 F f g base w Wk μ hF hP, zBd_s, if_pos (show nI 0 = 0 from rfl)]
  by_cases h91 : p < N ∧ b p = 91
  · obtain ⟨hpN, hb91⟩ := h91
    have hS : ySg N b p = nI 91 := by rw [ySg_in hpN, hb91]
    by_cases ho6 : o = 6
    · refine fault 5 (fun F D d μ hF hD hd hP => ?_) (fun F f g base w Wk μ hF hP => ?_)
      · refine ⟨zUp μ 1 3 (yFt 5 p), ?_, zUp_s _ _ _ _, frC_1 hd⟩
        rw [fGC, if_neg (by decide), if_neg (by decide), if_neg (by decide)]
        unfold bX6_readsFactor
        rw [e_sign hP.1 (by omega) (by omega), zBd_s, hS, if_pos rfl, if_neg (fun z => by have := (nI_ltI (by omega) (by decide)).mp z; omega), e_fails hP.1, zBd_s, zGb0]
      · rw [fX12_readsFactor_0, e_here hP.1 (by omega) (by omega), zBd_s, hS, if_pos rfl, e_mOpens_f hP ho6, zBd_s, if_pos (show nI 0 = 0 from rfl)]
    · obtain ⟨ok, p2, k1, wt1, tm1, ft, g1, g2, g3⟩ := hV (by omega) hpN
      -- the class behind the bracket
      have cI : ∀ (F D d : Nat) (μ : zMem), 300 ≤ F → 13 - 2 * o ≤ D + 1 → (d = 19 ∨ d = 26) → yPC N b p d k μ → ∃ m1, fGC F (D + 1) 3 (nI o) μ = zBd (some (zB ok, m1)) (fun r4 m4 => if r4 = 0 then some ((nI 0), m4) else zBd (fX9_needs F (nI 93) m4) (fun r5 m5 => if r5 = 0 then some ((nI 0), m5) else some ((nI 1), m5))) ∧ (ok = true → yPC N b p2 d (yApp (yApp k1 tm1) wt1) m1) ∧ (ok = false → m1 1 3 = ft) ∧ frC d μ m1 := by
        intro F D d μ hF hD hd hP
        obtain ⟨D, rfl⟩ : ∃ D1, D = D1 + 1 := ⟨D - 1, by omega⟩
        obtain ⟨m1, a1, a2, a3, a4⟩ := g2 F D d F 0 (zUp μ 1 2 (nI (p + 1))) hF (by omega) (by omega) (by omega) hd (hP.pos hd)
        refine ⟨m1, ?_, a2, a3, (frC_1 hd).trans a4⟩
        rw [fGC, if_neg (by decide), if_neg (by decide), if_neg (by decide)]
        unfold bX6_readsFactor
        rw [e_sign hP.1 (by omega) (by omega), zBd_s, hS, if_pos rfl, if_pos ((nI_ltI (by omega) (by decide)).mpr (by omega)), hP.1.2.1, nI_add, nI_add]
        dsimp only [zLt]
        have e2 : fGC F (D + 1) 2 (nI (o + 1)) (zUp μ 1 2 (nI (p + 1))) = some (zB ok, m1) := by
          rw [fGC, if_neg (by decide), if_neg (by decide), if_pos rfl]
          exact a1
        rw [e2]
      have mI : ∀ (F f g base w : Nat) (Wk : Nat → Nat) (μ : zMem), 300 ≤ F → 8 ≤ f + 1 + o → N < g + p → base ≤ w → w ≤ p → yWb w Wk → yPM N b p o w Wk k μ → ∃ m1, (ok = true → ∃ g1, N < g1 + p2 ∧ yRB F (f + 1) g base μ = fX12_readsSum_14 F g1 (nI base) m1 ∧ yPM N b p2 (o + 1) (yWn (w + 1) wt1 tm1) (yWk (uN Wk w (1048576 * 14)) (w + 1) wt1 tm1) k1 m1) ∧ (ok = false → yRB F (f + 1) g base μ = some (nI 0, m1) ∧ m1 60 12 = ft) ∧ frM μ m1 := by
        intro F f g base w Wk μ hF hf hg hbw hwp hWb hP
        obtain ⟨m0, a1, a2, a3⟩ := e_mOpens_t (F := F) (x := 14) hP (by omega) (by omega)
        have hWb1 : yWb (w + 1) (uN Wk w (1048576 * 14)) := fun i hi => by
          by_cases e : i = w
          · rw [e, uN_s]; decide
          · rw [uN_o e]; exact hWb i (by omega)
        have hfl1 : yFl (w + 1) (uN Wk w (1048576 * 14)) := Or.inr (by rw [show w + 1 - 1 = w by omega, uN_s]; decide)
        obtain ⟨m1, b1, b2, b3⟩ := g3 F f g base (w + 1) (uN Wk w (1048576 * 14)) m0 hF (by omega) (by omega) (by omega) (by rw [yWn_0]; omega) hWb1 hfl1 (a2.wk (fun i hi => yWk_in hi))
        have e : yRB F (f + 1) g base μ = yRB F f g base m0 := by
          unfold yRB
          rw [fX12_readsFactor_0, e_here hP.1 (by omega) (by omega), zBd_s, hS, if_pos rfl, a1, zBd_s, if_neg (show ¬ nI 1 = 0 by decide)]
        rw [e]
        exact ⟨m1, b1, b2, a3.trans b3⟩
      cases ok with
      | false =>
        refine ⟨false, 0, k, ft, fun h => (by cases h), fun F D d μ hF hD hd hP => ?_, fun F f g base w Wk μ hF hf hg hbw hwp hWb hP => ?_⟩
        · obtain ⟨D, rfl⟩ : ∃ D1, D = D1 + 1 := ⟨D - 1, by omega⟩
          obtain ⟨m1, a1, a2, a3, a4⟩ := cI F D d μ hF hD hd hP
          exact ⟨m1, by rw [a1, zBd_s, z_bf]; rfl, fun h => (by cases h), a3, a4⟩
        · obtain ⟨f, rfl⟩ : ∃ f1, f = f1 + 1 := ⟨f - 1, by omega⟩
          obtain ⟨m1, a1, a2, a3⟩ := mI F f g base w Wk μ hF hf hg hbw hwp hWb hP
          exact ⟨m1, fun h => (by cases h), a2, a3⟩
      | true =>
        obtain ⟨q1, q2, q3, q4, q5, q6, q7, q8⟩ := g1 rfl
        have y1a := y1_le tm1
        have y1b := y1_le wt1
        rw [y1_0] at q6
        have hk' : (yApp (yApp k1 tm1) wt1).1 = k1.1 + y1 tm1 + y1 wt1 := by rw [yApp_y1, yApp_y1]
        -- the reference at the end of the inner value
        have hop : ∀ (F w base : Nat) (Wk : Nat → Nat) (m1 : zMem), 300 ≤ F → base ≤ w → w ≤ p → yWb w Wk → yPM N b p2 (o + 1) (yWn (w + 1) wt1 tm1) (yWk (uN Wk w (1048576 * 14)) (w + 1) wt1 tm1) k1 m1 → fX12_hasOpenSum F (nI base) m1 = some (nI 1, m1) := by
          intro F w base Wk m1 hF hbw hwp hWb hP1
          have hWb1 : yWb (w + 1) (uN Wk w (1048576 * 14)) := fun i hi => by
            by_cases e : i = w
            · rw [e, uN_s]; decide
            · rw [uN_o e]; exact hWb i (by omega)
          have hn : yWn (w + 1) wt1 tm1 = w + 1 + y1 wt1 + y1 tm1 := rfl
          exact e_hasOpen_t hP1 (by omega) (yWk_b hWb1 (by unfold yOkW at q3; omega) (by unfold yOkT at q4; omega)) (yWn (w + 1) wt1 tm1 - base) base F (by omega) (by omega) ⟨w, hbw, by omega, by rw [yWk_in (by omega), uN_s]⟩
        have hsum : ∀ (F : Nat) (m1 : zMem), fX12_sumSign F (ySg N b p2) m1 = some (-1, m1) := by
          intro F m1
          have nn : ∀ c, c ∈ ySums → ¬ ySg N b p2 = nI c := fun c hc z => by
            have hc256 : c < 256 := by simp [ySums] at hc; omega
            obtain ⟨z1, z2⟩ := (ySg_eq (hb p2) hc256).mp z
            exact q7 z1 (by rw [z2]; exact hc)
          unfold fX12_sumSign
          rw [if_neg (nn 43 (by decide)), if_neg (nn 45 (by decide)), if_neg (nn 42 (by decide)), if_neg (nn 47 (by decide)), if_neg (nn 37 (by decide))]
        by_cases h93 : p2 < N ∧ b p2 = 93
        · refine ⟨true, p2 + 1, yApp (yApp k1 tm1) wt1, 0, fun _ => ⟨by omega, by omega, (ySV.lt q8).1, by omega, (q5.trans (kE_app _ _)).trans (kE_app _ _), by rw [show 13 - 2 * o = 15 - 2 * (o + 1) by omega]; exact q8⟩, fun F D d μ hF hD hd hP => ?_, fun F f g base w Wk μ hF hf hg hbw hwp hWb hP => ?_⟩
          · obtain ⟨D, rfl⟩ : ∃ D1, D = D1 + 1 := ⟨D - 1, by omega⟩
            obtain ⟨m1, a1, a2, a3, a4⟩ := cI F D d μ hF hD hd hP
            refine ⟨zUp m1 1 2 (nI (p2 + 1)), ?_, fun _ => (a2 rfl).pos hd, fun h => (by cases h), a4.trans (frC_1 hd)⟩
            rw [a1, zBd_s, z_bt, e_needs_t (a2 rfl).1 (by omega) h93.1 h93.2, zBd_s, if_neg (show ¬ nI 1 = 0 by decide)]
            rfl
          · obtain ⟨f, rfl⟩ : ∃ f1, f = f1 + 1 := ⟨f - 1, by omega⟩
            obtain ⟨m1, a1, a2, a3⟩ := mI F f g base w Wk μ hF hf hg hbw hwp hWb hP
            obtain ⟨g1', c1, c2, c3⟩ := a1 rfl
            have hWb1 : yWb (w + 1) (uN Wk w (1048576 * 14)) := fun i hi => by
              by_cases e : i = w
              · rw [e, uN_s]; decide
              · rw [uN_o e]; exact hWb i (by omega)
            have hfl1 : yFl (w + 1) (uN Wk w (1048576 * 14)) := Or.inr (by rw [show w + 1 - 1 = w by omega, uN_s]; decide)
            obtain ⟨m2, d1, d2, d3⟩ := cs_all (F := F) (by omega) c3 (by omega) hWb1 hfl1 q3 q4 (by omega)
            have e1 := (d2.pop (show w ≤ w + 1 by omega)).wk (Wk2 := Wk) (fun i hi => (uN_o (by omega)).symm)
            have e2 := e1.opn (o' := o)
            have e3 := e2.pos (q := p2 + 1)
            obtain ⟨g2', rfl⟩ : ∃ g2', g1' = g2' + 1 := ⟨g1' - 1, by omega⟩
            refine ⟨_, fun _ => ⟨g2', by omega, ?_, e3⟩, fun h => (by cases h), (a3.trans d3).trans (((frM_60 (by omega)).trans (frM_60 (by omega))).trans (frM_60 (by omega)))⟩
            rw [c2, fX12_readsSum_14, e_here c3.1 (by omega) (by omega), zBd_s, hsum, zBd_s, if_pos rfl, e_here c3.1 (by omega) (by omega), zBd_s, ySg_in h93.1, h93.2, if_pos rfl, hop F w base Wk m1 hF hbw hwp hWb c3, zBd_s, if_neg (show ¬ nI 1 = 0 by decide), d1, zBd_s]
            dsimp only [zLt]
            rw [d2.2.2.1, pk_sub (by omega), show w + 1 - 1 = w by omega, e1.2.1, pk_sub (by omega), show o + 1 - 1 = o by omega, e2.1.2.1, nI_add]
        · refine ⟨false, 0, k, yFt 1 p2, fun h => (by cases h), fun F D d μ hF hD hd hP => ?_, fun F f g base w Wk μ hF hf hg hbw hwp hWb hP => ?_⟩
          · obtain ⟨D, rfl⟩ : ∃ D1, D = D1 + 1 := ⟨D - 1, by omega⟩
            obtain ⟨m1, a1, a2, a3, a4⟩ := cI F D d μ hF hD hd hP
            refine ⟨zUp m1 1 3 (yFt 1 p2), ?_, fun h => (by cases h), fun _ => zUp_s _ _ _ _, a4.trans (frC_1 hd)⟩
            rw [a1, zBd_s, z_bt, e_needs_f (a2 rfl).1 (by omega) (by omega) (hb _) (by decide) h93, zBd_s, if_pos (show nI 0 = 0 from rfl)]
            rfl
          · obtain ⟨f, rfl⟩ : ∃ f1, f = f1 + 1 := ⟨f - 1, by omega⟩
            obtain ⟨m1, a1, a2, a3⟩ := mI F f g base w Wk μ hF hf hg hbw hwp hWb hP
            obtain ⟨g1', c1, c2, c3⟩ := a1 rfl
            obtain ⟨g2', rfl⟩ : ∃ g2', g1' = g2' + 1 := ⟨g1' - 1, by omega⟩
            refine ⟨zUp m1 60 12 (yFt 1 p2), fun h => (by cases h), fun _ => ⟨?_, zUp_s _ _ _ _⟩, a3.trans (frM_60 (by omega))⟩
            rw [c2, fX12_readsSum_14, e_here c3.1 (by omega) (by omega), zBd_s, hsum, zBd_s, if_pos rfl, e_here c3.1 (by omega) (by omega), zBd_s, if_neg (fun z => h93 ((ySg_eq (hb p2) (by decide)).mp z))]
            unfold fX12_readsSum_138
            rw [hop F w base Wk m1 hF hbw hwp hWb c3, zBd_s, if_neg (show ¬ nI 1 = 0 by decide), c3.1.2.1, e_wrongAt, zBd_s, zGb0]
  · have hn91 : ¬ ySg N b p = nI 91 := fun z => h91 ((ySg_eq (hb p) (by decide)).mp z)
    by_cases hfac : yFac (ySg N b p) = -1
    · -- a number
      obtain ⟨ok, i', v', kk, g1, g2, g3, g4, g5, g6, g7, -, g9⟩ := num_k (N := N) (D := 5) (q := p) (b := b) hN hb (by omega) 5 0 0 rfl (by omega) (by decide)
      have hp5 : 10 ^ i' ≤ 10 ^ 5 := Nat.pow_le_pow_right (by decide) g2
      have cN : ∀ (F D d : Nat) (μ : zMem), 300 ≤ F → (d = 19 ∨ d = 26) → yPC N b p d k μ → ∃ m1, fGC F (D + 1) 3 (nI o) μ = (if (if ok then nI v' else (-1 : Int32)) = (-1 : Int32) then some ((nI 0), m1) else zGb (zIsLw ((m1 18 1).toNatClampNeg)) (zBd (fX5_puts F ((m1 18 1).toNatClampNeg) (nI 0) (if ok then nI v' else (-1 : Int32)) m1) (fun r10 m10 => some ((nI 1), m10)))) ∧ yPC N b (p + i') d k m1 ∧ (ok = false → m1 1 3 = yFt kk (p + i')) ∧ frC d μ m1 := by
        intro F D d μ hF hd hP
        obtain ⟨m1, a1, a2, a3, a4⟩ := g7 F F μ (by omega) hP.1
        refine ⟨m1, ?_, ⟨a2, by rw [a4 18 (by decide)]; exact hP.2.1, by rw [a4 d (by omega)]; exact hP.2.2.1, fun i hi => by rw [a4 (d + 1) (by omega), a4 (d + 2) (by omega)]; exact hP.2.2.2 i hi⟩, a3, ⟨fun j _ => by rw [a4 d (by omega)], fun c h1 _ _ _ => a4 c h1⟩⟩
        rw [fGC, if_neg (by decide), if_neg (by decide), if_neg (by decide)]
        unfold bX6_readsFactor fX9_number
        rw [e_sign hP.1 (by omega) (by omega), zBd_s, if_neg hn91, e_facC, zBd_s, hfac, if_pos rfl, a1, zBd_s]
      cases hl : yIs N b (p + 0) 48 57 with
      | false =>
        -- nothing that can stand there
        have hs48 : zIn (ySg N b (p + 0) - nI 48) 0 9 = yIs N b (p + 0) 48 57 := zIn_sgs (hb _) (by decide) (by decide) (by decide)
        refine fault 1 (fun F D d μ hF hD hd hP => ?_) (fun F f g base w Wk μ hF hP => ?_)
        · refine ⟨zUp μ 1 3 (yFt 1 p), ?_, zUp_s _ _ _ _, frC_1 hd⟩
          rw [fGC, if_neg (by decide), if_neg (by decide), if_neg (by decide)]
          unfold bX6_readsFactor fX9_number
          obtain ⟨F, rfl⟩ : ∃ F1, F = F1 + 1 := ⟨F - 1, by omega⟩
          rw [e_sign hP.1 (by omega) (by omega), zBd_s, if_neg hn91, e_facC, zBd_s, hfac, if_pos rfl, fX9_number_4, if_neg (by decide), e_sign hP.1 (by omega) (by omega), zBd_s, e_isWithin, zBd_s, show zIn (ySg N b p - nI 48) 0 9 = false by rw [← hl]; exact hs48, z_bf, if_pos (show nI 0 = 0 from rfl), e_fails hP.1, zBd_s, zBd_s, if_pos rfl]
        · rw [fX12_readsFactor_0, e_here hP.1 (by omega) (by omega), zBd_s, if_neg hn91, e_isDigit hP.1 (by omega) (by omega) (hb _), zBd_s, show yIs N b p 48 57 = false from hl, z_bf, e_here hP.1 (by omega) (by omega), zBd_s, e_facM, zBd_s, hfac, if_pos rfl, hP.1.2.1, e_wrongAt, zBd_s, zGb0]
      | true =>
        obtain ⟨hpN, -, -⟩ := yIs_t hl
        have mN : ∀ (F f w : Nat) (Wk : Nat → Nat) (μ : zMem), 300 ≤ F → yPM N b p o w Wk k μ → ∃ m1, fX12_readsFactor_0 F (f + 1) μ = (if zB ok = 0 then some ((nI 0), m1) else zBd (fX12_notes F (nI 0) (nI v') m1) (fun r13 m13 => some ((nI 1), m13))) ∧ yPM N b (p + i') o w Wk k m1 ∧ (ok = false → m1 60 12 = yFt kk (p + i')) ∧ frM μ m1 := by
          intro F f w Wk μ hF hP
          obtain ⟨m1, a1, a2, a3, a4, a5, a6⟩ := g9 rfl (Or.inr hl) F F (zUp μ 60 13 (nI 0)) (by omega) (hP.1.of (zUp_o (by decide)) (zUp_o (by decide)) (zUp_ne (by decide))) (zUp_s _ _ _ _)
          refine ⟨m1, ?_, ⟨a2, by rw [a5 14 (by decide) (by decide) (by decide), zUp_o (by decide)]; exact hP.2.1, by rw [a5 16 (by decide) (by decide) (by decide), zUp_o (by decide)]; exact hP.2.2.1, fun i hi => by rw [a6 70 (by decide), zUp_ne (by decide)]; exact hP.2.2.2.1 i hi, by rw [a5 15 (by decide) (by decide) (by decide), zUp_o (by decide)]; exact hP.2.2.2.2.1, fun i hi => by rw [a6 69 (by decide), zUp_ne (by decide)]; exact hP.2.2.2.2.2 i hi⟩, a4, ⟨fun j h1 h2 h3 _ _ _ => by rw [a5 j h1 h2 h3, zUp_o h3], fun c h1 _ _ => by rw [a6 c h1, zUp_ne h1]⟩⟩
          rw [fX12_readsFactor_0, e_here hP.1 (by omega) (by omega), zBd_s, if_neg hn91, e_isDigit hP.1 (by omega) (by omega) (hb _), zBd_s, show yIs N b p 48 57 = true from hl, z_bt]
          have er : fX12_readsNumber F μ = some (zB ok, m1) := by
            unfold fX12_readsNumber
            rw [hP.1.2.1]
            exact a1
          rw [er, zBd_s, a3]
        have hi1 : 1 ≤ i' := by
          rcases g6 hl with h | h
          · exact h
          · omega
        cases ok with
        | false =>
          refine ⟨false, 0, k, yFt kk (p + i'), fun h => (by cases h), fun F D d μ hF hD hd hP => ?_, fun F f g base w Wk μ hF hf hg hbw hwp hWb hP => ?_⟩
          · obtain ⟨D, rfl⟩ : ∃ D1, D = D1 + 1 := ⟨D - 1, by omega⟩
            obtain ⟨m1, a1, a2, a3, a4⟩ := cN F D d μ hF hd hP
            refine ⟨m1, ?_, fun h => (by cases h), a3, a4⟩
            rw [a1, if_pos (show (if false = true then nI v' else (-1 : Int32)) = -1 from rfl)]
            rfl
          · obtain ⟨f, rfl⟩ : ∃ f1, f = f1 + 1 := ⟨f - 1, by omega⟩
            obtain ⟨m1, a1, a2, a3, a4⟩ := mN F f w Wk μ hF hP
            refine ⟨m1, fun h => (by cases h), fun _ => ⟨?_, a3 rfl⟩, a4⟩
            unfold yRB
            rw [a1, z_bf, zBd_s, if_pos (show nI 0 = 0 from rfl)]
        | true =>
          refine ⟨true, p + i', kP k 0 v', 0, fun _ => ⟨by omega, g3, by show k.1 < k.1 + 1; omega, by show k.1 + 1 + p ≤ _; omega, kE_kP _ _ _, ySV.num (uN_s _ _ _) (by show uN k.2.2 k.1 v' k.1 < 100000; rw [uN_s]; omega) (by omega)⟩, fun F D d μ hF hD hd hP => ?_, fun F f g base w Wk μ hF hf hg hbw hwp hWb hP => ?_⟩
          · obtain ⟨D, rfl⟩ : ∃ D1, D = D1 + 1 := ⟨D - 1, by omega⟩
            obtain ⟨m1, a1, a2, a3, a4⟩ := cN F D d μ hF hd hP
            obtain ⟨m2, b1, b2, b3⟩ := p_puts (F := F) (x := 0) (a := v') hd a2 (by omega)
            refine ⟨m2, ?_, fun _ => b2, fun h => (by cases h), a4.trans b3⟩
            rw [a1, if_neg (by rw [if_pos rfl]; exact nI_m1 (by omega)), a2.2.1, cl9 (by omega), zGb_t (lw_is hd), if_pos rfl]
            have b1' : fX5_puts F d (nI 0) (nI v') m1 = some (nI k.1, m2) := b1
            rw [b1', zBd_s]
            rfl
          · obtain ⟨f, rfl⟩ : ∃ f1, f = f1 + 1 := ⟨f - 1, by omega⟩
            obtain ⟨m1, a1, a2, a3, a4⟩ := mN F f w Wk μ hF hP
            obtain ⟨m2, b1, b2, b3⟩ := p_notes (F := F) (x := 0) (a := v') a2 (by omega)
            refine ⟨m2, fun _ => ⟨g, by omega, ?_, b2⟩, fun h => (by cases h), a4.trans b3⟩
            unfold yRB
            rw [a1, z_bt, b1, zBd_s, zBd_s, if_neg (show ¬ nI 1 = 0 by decide)]
    · -- a fact
      have hpN : p < N := Classical.byContradiction fun z => hfac (by rw [sg_none z]; exact yFac_m1)
      obtain ⟨f1, f2, f3⟩ := yFac_d (b p) (hb p)
      have hS : ySg N b p = nI (b p) := ySg_in hpN
      rw [hS] at hfac
      obtain ⟨j, hj, ej⟩ : ∃ j, j < 9 ∧ yFac (nI (b p)) = nI j := f1.resolve_left hfac
      have hdig : yIs N b p 48 57 = false := by
        cases hl : yIs N b p 48 57
        · rfl
        · obtain ⟨-, h1, h2⟩ := yIs_t hl
          exact absurd (f2 h1 h2) hfac
      refine ⟨true, p + 1, kP k 1 j, 0, fun _ => ⟨by omega, by omega, by show k.1 < k.1 + 1; omega, by show k.1 + 1 + p ≤ _; omega, kE_kP _ _ _, ySV.fact (uN_s _ _ _) (by show uN k.2.2 k.1 j k.1 < 9; rw [uN_s]; exact hj) (by omega)⟩, fun F D d μ hF hD hd hP => ?_, fun F f g base w Wk μ hF hf hg hbw hwp hWb hP => ?_⟩
      · obtain ⟨D, rfl⟩ : ∃ D1, D = D1 + 1 := ⟨D - 1, by omega⟩
        have hP1 := hP.pos (q := p + 1) hd
        obtain ⟨m2, b1, b2, b3⟩ := p_puts (F := F) (x := 1) (a := j) hd hP1 (by omega)
        refine ⟨m2, ?_, fun _ => b2, fun h => (by cases h), (frC_1 hd).trans b3⟩
        rw [fGC, if_neg (by decide), if_neg (by decide), if_neg (by decide)]
        unfold bX6_readsFactor
        rw [e_sign hP.1 (by omega) (by omega), zBd_s, if_neg hn91, e_facC, zBd_s, hS, ej, if_neg (nI_m1 (by omega)), hP.1.2.1, nI_add]
        dsimp only [zLt]
        have b1' : fX5_puts F d (nI 1) (nI j) (zUp μ 1 2 (nI (p + 1))) = some (nI k.1, m2) := b1
        rw [hP1.2.1, cl9 (by omega), zGb_t (lw_is hd), b1', zBd_s]
        rfl
      · obtain ⟨f, rfl⟩ : ∃ f1, f = f1 + 1 := ⟨f - 1, by omega⟩
        obtain ⟨m2, b1, b2, b3⟩ := p_notes (F := F) (x := 1) (a := j) hP (by omega)
        have hP2 := b2.pos (q := p + 1)
        refine ⟨zUp m2 60 10 (nI (p + 1)), fun _ => ⟨g, by omega, ?_, hP2⟩, fun h => (by cases h), b3.trans (frM_60 (by omega))⟩
        unfold yRB
        rw [fX12_readsFactor_0, e_here hP.1 (by omega) (by omega), zBd_s, if_neg hn91, e_isDigit hP.1 (by omega) (by omega) (hb _), zBd_s, hdig, z_bf, e_here hP.1 (by omega) (by omega), zBd_s, e_facM, zBd_s, hS, ej, if_neg (nI_m1 (by omega)), b1, zBd_s, b2.1.2.1, nI_add]
        dsimp only [zLt]
        rw [zBd_s, if_neg (show ¬ nI 1 = 0 by decide)]
