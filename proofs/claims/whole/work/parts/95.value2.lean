/-! ===== the law is read: values, their loop ===== -/
theorem seg_term {a o wt tm : Nat} {k kF : yCd} (ho : o ≤ 6) (htm : yOkT tm) (h : ySf a o wt tm k) (he : kE k kF) (hv : ySV (yL kF) k.1 kF.1 (13 - 2 * o)) : ∃ x, x ≤ k.1 ∧ (if wt = 0 then a = x else ySV (yL (yApp kF tm)) a x (15 - 2 * o)) ∧ ySV (yL (yApp kF tm)) x (yApp kF tm).1 (14 - 2 * o) := by
  obtain ⟨x, hx, h1, h2⟩ := h
  have e2 : kE k (yApp kF tm) := he.trans (kE_app kF tm)
  refine ⟨x, hx, ?_, ?_⟩
  · by_cases h0 : wt = 0
    · rw [if_pos h0] at h1 ⊢; exact h1
    · rw [if_neg h0] at h1 ⊢; exact h1.kE e2 hx
  · by_cases h0 : tm = 0
    · rw [if_pos h0] at h2
      rw [h0, yApp_0, h2]
      exact hv.mono (by omega)
    · rw [if_neg h0] at h2
      rw [yApp_n h0]
      have e3 : kE k (kP kF tm 0) := he.trans (kE_kP kF tm 0)
      have a1 := h2.kE e3 (Nat.le_refl _)
      have a2 := hv.kE (kE_kP kF tm 0) (Nat.le_refl _)
      have o1 : lO (yL (kP kF tm 0)) kF.1 = tm := uN_s _ _ _
      have o2 : lA (yL (kP kF tm 0)) kF.1 = 0 := uN_s _ _ _
      exact ySV.bin a1 a2 (by omega) (by rw [o1]; unfold yOkT at htm; omega) (by rw [o1]; unfold yOkT at htm; omega) o2
theorem seg_sum {a o wt tm : Nat} {k kF : yCd} (ho : o ≤ 6) (hwt : yOkW wt) (htm : yOkT tm) (h : ySf a o wt tm k) (he : kE k kF) (hv : ySV (yL kF) k.1 kF.1 (13 - 2 * o)) : ySV (yL (yApp (yApp kF tm) wt)) a (yApp (yApp kF tm) wt).1 (15 - 2 * o) := by
  obtain ⟨x, hx, h1, h2⟩ := seg_term ho htm h he hv
  by_cases h0 : wt = 0
  · rw [if_pos h0] at h1
    rw [h0, yApp_0, h1]
    exact h2.mono (by omega)
  · rw [if_neg h0] at h1
    rw [yApp_n h0]
    have hx2 : x ≤ (yApp kF tm).1 := by have := he.1; rw [yApp_y1]; omega
    have a1 := h1.kE (kE_kP (yApp kF tm) wt 0) hx2
    have a2 := h2.kE (kE_kP (yApp kF tm) wt 0) (Nat.le_refl _)
    have o1 : lO (yL (kP (yApp kF tm) wt 0)) (yApp kF tm).1 = wt := uN_s _ _ _
    have o2 : lA (yL (kP (yApp kF tm) wt 0)) (yApp kF tm).1 = 0 := uN_s _ _ _
    exact ySV.bin a1 a2 (by omega) (by rw [o1]; unfold yOkW at hwt; omega) (by rw [o1]; unfold yOkW at hwt; omega) o2
theorem yWk_pt {Wk : Nat → Nat} {w wt op : Nat} (hop : op ≠ 0) : ∀ i, i < yWn w wt op → yWk Wk w wt op i = uN (yWk Wk w wt 0) (yWn w wt 0) (1048576 * op) i := by
  intro i hi
  have e1 : yWn w wt op = yWn w wt 0 + 1 := by rw [yWn_y1, yWn_y1, y1_n hop, y1_0]
  by_cases e : i = yWn w wt 0
  · rw [e, uN_s]
    by_cases h0 : wt = 0
    · subst h0; exact yWk_t (by rw [yWn_0]; omega) (Or.inl rfl)
    · exact yWk_t (by rw [yWn_y1]; omega) (Or.inr (by rw [yWn_y1, y1_n h0, y1_0]; omega))
  · rw [uN_o e]
    by_cases hw : i < w
    · rw [yWk_in hw, yWk_in hw]
    · have h0 : wt ≠ 0 := fun z => by subst z; rw [e1, yWn_0] at hi; rw [yWn_0] at e; omega
      have : i = w := by rw [e1, yWn_y1, y1_n h0, y1_0] at hi; rw [yWn_y1, y1_n h0, y1_0] at e; omega
      rw [this, yWk_w h0, yWk_w h0]
theorem yWk_pw {Wk : Nat → Nat} {w op : Nat} (hop : op ≠ 0) : ∀ i, i < yWn w op 0 → yWk Wk w op 0 i = uN Wk w (1048576 * op) i := by
  intro i hi
  rw [yWn_y1, y1_n hop, y1_0] at hi
  by_cases e : i = w
  · rw [e, uN_s, yWk_w hop]
  · rw [uN_o e, yWk_in (by omega)]
theorem sumSign_c {F x : Nat} {μ : zMem} (hx : x < 256) : fX12_sumSign F (nI x) μ = some (if x = 43 then nI 2 else if x = 45 then nI 3 else if x = 42 then nI 4 else if x = 47 then nI 5 else if x = 37 then nI 6 else -1, μ) := by
  unfold fX12_sumSign
  have e : ∀ c, c < 256 → ((nI x = nI c) = (x = c)) := fun c hc => propext (nI_eq (by omega) (by omega))
  simp only [e 43 (by decide), e 45 (by decide), e 42 (by decide), e 47 (by decide), e 37 (by decide)]
  repeat refine ite_sm ?_
  rfl
theorem val_step {N : Nat} {b : Nat → Nat} (hN : N ≤ 240) (hb : ∀ j, b j < 256) {p o wt tm a : Nat} {k : yCd} (hp : p ≤ N) (ho : o ≤ 6) (hwt : yOkW wt) (htm : yOkT tm) (hk : k.1 + y1 tm + y1 wt ≤ p) (hsf : ySf a o wt tm k)
    (IH : ∀ (p' o wt tm a : Nat) (k : yCd), p < p' → p' ≤ N → o ≤ 6 → yOkW wt → yOkT tm → k.1 + y1 tm + y1 wt ≤ p' → ySf a o wt tm k → yVAL N b p' o wt tm a k) : yVAL N b p o wt tm a k := by
  obtain ⟨ok, p2, kF, ft, g1, g2, g3⟩ := fact_of hN hb hp ho (by omega) (fun h1 h2 => IH (p + 1) (o + 1) 0 0 k.1 k (by omega) (by omega) (by omega) (Or.inl rfl) (Or.inl rfl) (by rw [y1_0]; omega) ⟨k.1, Nat.le_refl _, rfl, rfl⟩)
  have hwt6 : wt ≤ 6 := by unfold yOkW at hwt; omega
  have htm6 : tm ≤ 6 := by unfold yOkT at htm; omega
  have y1a := y1_le tm
  have y1b := y1_le wt
  cases ok with
  | false =>
    refine ⟨false, 0, k, 0, 0, ft, fun h => (by cases h), fun F D d f i μ hF hD hf hi hd hP => ?_, fun F f g base w Wk μ hF hf hg hbw hwp hWb hfl hP => ?_⟩
    · obtain ⟨f, rfl⟩ : ∃ f1, f = f1 + 1 := ⟨f - 1, by omega⟩
      obtain ⟨m1, a1, a2, a3, a4⟩ := g2 F D d μ hF hD hd hP
      refine ⟨m1, ?_, fun h => (by cases h), a3, a4⟩
      rw [fX6_readsValue_8, z_more (by omega) (by decide), a1, zBd_s, z_bf]
      rfl
    · obtain ⟨m1, a1, a2, a3⟩ := g3 F f g base (yWn w wt tm) (yWk Wk w wt tm) μ hF hf hg (by rw [yWn_y1]; omega) hwp (yWk_b hWb hwt6 htm6) hP
      exact ⟨m1, fun h => (by cases h), a2, a3⟩
  | true =>
    obtain ⟨q1, q2, q3, q4, q5, q6⟩ := g1 rfl
    have hk1 : (yApp kF tm).1 = kF.1 + y1 tm := yApp_y1 kF tm
    have hk2 : (yApp (yApp kF tm) wt).1 = kF.1 + y1 tm + y1 wt := by rw [yApp_y1, yApp_y1]
    -- the class behind a factor
    have cF : ∀ (F D d f i : Nat) (μ : zMem), 300 ≤ F → 13 - 2 * o ≤ D → 2 * i ≤ p → (d = 19 ∨ d = 26) → yPC N b p d k μ → ∃ m3, yPC N b p2 d (yApp kF tm) m3 ∧ frC d μ m3 ∧ fX6_readsValue_8 F (fGC F D 0) (fGC F D 1) (fGC F D 2) (fGC F D 3) (f + 1) (nI o) (yOp wt) (yOp tm) (nI i) μ = (if ySg N b p2 = (nI 42) then fX6_readsValue_66 F (fGC F D 0) (fGC F D 1) (fGC F D 2) (fGC F D 3) (fX6_readsValue_8 F (fGC F D 0) (fGC F D 1) (fGC F D 2) (fGC F D 3) f) (nI o) (yOp wt) (nI i) (ySg N b p2) m3 else if ySg N b p2 = (nI 47) then fX6_readsValue_66 F (fGC F D 0) (fGC F D 1) (fGC F D 2) (fGC F D 3) (fX6_readsValue_8 F (fGC F D 0) (fGC F D 1) (fGC F D 2) (fGC F D 3) f) (nI o) (yOp wt) (nI i) (ySg N b p2) m3 else if ySg N b p2 = (nI 37) then fX6_readsValue_66 F (fGC F D 0) (fGC F D 1) (fGC F D 2) (fGC F D 3) (fX6_readsValue_8 F (fGC F D 0) (fGC F D 1) (fGC F D 2) (fGC F D 3) f) (nI o) (yOp wt) (nI i) (ySg N b p2) m3 else zBd (fX5_joins F d (yOp wt) m3) (fun r6 m6 => if ySg N b p2 = (nI 43) then fX6_readsValue_97 F (fGC F D 0) (fGC F D 1) (fGC F D 2) (fGC F D 3) (fX6_readsValue_8 F (fGC F D 0) (fGC F D 1) (fGC F D 2) (fGC F D 3) f) (nI o) (-1 : Int32) (nI i) (ySg N b p2) m6 else if ySg N b p2 = (nI 45) then fX6_readsValue_97 F (fGC F D 0) (fGC F D 1) (fGC F D 2) (fGC F D 3) (fX6_readsValue_8 F (fGC F D 0) (fGC F D 1) (fGC F D 2) (fGC F D 3) f) (nI o) (-1 : Int32) (nI i) (ySg N b p2) m6 else some ((nI 1), m6))) := by
      intro F D d f i μ hF hD hi hd hP
      obtain ⟨m1, a1, a2, a3, a4⟩ := g2 F D d μ hF hD hd hP
      have hP1 := a2 rfl
      obtain ⟨r3, m3, b1, b2, b3⟩ := p_joins (F := F) (x := tm) hd hP1 (fun h => by rw [y1_n h] at hk; omega)
      refine ⟨m3, b2, a4.trans b3, ?_⟩
      rw [fX6_readsValue_8, z_more (by omega) (by decide), a1, zBd_s, z_bt, hP1.2.1, cl9 (by omega), zGb_t (lw_is hd), b1, zBd_s, e_sign b2.1 (by omega) (by omega), zBd_s, b2.2.1, cl9 (by omega), zGb_t (lw_is hd)]
    by_cases hmul : p2 < N ∧ (b p2 = 42 ∨ b p2 = 47 ∨ b p2 = 37)
    · obtain ⟨hp2, hc⟩ := hmul
      obtain ⟨op, hop, hopc, hops⟩ : ∃ op, (4 ≤ op ∧ op ≤ 6) ∧ nI (b p2) = yOp op ∧ ∀ F (m : zMem), fX12_sumSign F (nI (b p2)) m = some (nI op, m) := by
        rcases hc with e | e | e
        · exact ⟨4, by omega, by rw [e]; rfl, fun F m => by rw [e, sumSign_c (by decide)]; rfl⟩
        · exact ⟨5, by omega, by rw [e]; rfl, fun F m => by rw [e, sumSign_c (by decide)]; rfl⟩
        · exact ⟨6, by omega, by rw [e]; rfl, fun F m => by rw [e, sumSign_c (by decide)]; rfl⟩
      have hop0 : op ≠ 0 := by omega
      obtain ⟨x, hx, s1, s2⟩ := seg_term ho htm hsf q5 q6
      obtain ⟨ok, p', k1, wt1, tm1, ft', i1, i2, i3⟩ := IH (p2 + 1) o wt op a (yApp kF tm) (by omega) (by omega) ho hwt (Or.inr hop) (by rw [y1_n hop0]; omega) ⟨x, by omega, s1, by rw [if_neg hop0]; exact s2⟩
      refine ⟨ok, p', k1, wt1, tm1, ft', fun h => ?_, fun F D d f i μ hF hD hf hi hd hP => ?_, fun F f g base w Wk μ hF hf hg hbw hwp hWb hfl hP => ?_⟩
      · obtain ⟨j1, j2, j3, j4, j5, j6, j7, j8⟩ := i1 h
        rw [y1_n hop0] at j6
        exact ⟨by omega, j2, j3, j4, (q5.trans (kE_app kF tm)).trans j5, by omega, j7, j8⟩
      · obtain ⟨f, rfl⟩ : ∃ f1, f = f1 + 1 := ⟨f - 1, by omega⟩
        obtain ⟨m3, a1, a2, a3⟩ := cF F D d f i μ hF hD hi hd hP
        obtain ⟨m4, b1, b2, b3, b4⟩ := i2 F D d f (i + 1) (zUp m3 1 2 (nI (p2 + 1))) hF hD (by omega) (by omega) hd (a1.pos hd)
        refine ⟨m4, ?_, b2, b3, (a2.trans (frC_1 hd)).trans b4⟩
        have k66 : fX6_readsValue_66 F (fGC F D 0) (fGC F D 1) (fGC F D 2) (fGC F D 3) (fX6_readsValue_8 F (fGC F D 0) (fGC F D 1) (fGC F D 2) (fGC F D 3) f) (nI o) (yOp wt) (nI i) (nI (b p2)) m3 = some (zB ok, m4) := by
          unfold fX6_readsValue_66 fX6_readsValue_100
          rw [a1.1.2.1, nI_add, nI_add, hopc]
          exact b1
        rw [a3, ySg_in hp2, k66]
        rcases hc with e | e | e
        · rw [if_pos (by rw [e])]
        · rw [if_neg (by rw [e]; decide), if_pos (by rw [e])]
        · rw [if_neg (by rw [e]; decide), if_neg (by rw [e]; decide), if_pos (by rw [e])]
      · obtain ⟨m1, a1, a2, a3⟩ := g3 F f g base (yWn w wt tm) (yWk Wk w wt tm) μ hF hf hg (by rw [yWn_y1]; omega) hwp (yWk_b hWb hwt6 htm6) hP
        obtain ⟨g1', c1, c2, c3⟩ := a1 rfl
        obtain ⟨g2', rfl⟩ : ∃ g2', g1' = g2' + 1 := ⟨g1' - 1, by omega⟩
        have hwp2 : w ≤ p := by rw [yWn_y1] at hwp; omega
        have hn0 : yWn w wt 0 ≤ p := by rw [yWn_y1] at hwp ⊢; rw [y1_0]; omega
        have hn1 : yWn w wt op = yWn w wt 0 + 1 := by rw [yWn_y1, yWn_y1, y1_n hop0, y1_0]
        obtain ⟨m2, d1, d2, d3⟩ := cs_mul (F := F) (by omega) c3 (by omega) hWb hfl hwt htm (fun h => by rw [y1_n h] at hk; omega)
        have e1 := d2.push (x := 1048576 * op)
        have e2 := (e1.pos (q := p2 + 1)).wk (Wk2 := yWk Wk w wt op) (by rw [← hn1]; exact yWk_pt hop0)
        rw [← hn1] at e2
        obtain ⟨m4, f1, f2, f3⟩ := i3 F F g2' base w Wk _ hF (by omega) (by omega) hbw (by omega) hWb hfl e2
        have er : yRB F f g base μ = yRB F F g2' base (zUp (zUp (zUp m2 70 (yWn w wt 0) (nI (1048576 * op))) 60 16 (nI (yWn w wt op))) 60 10 (nI (p2 + 1))) := by
          rw [c2, fX12_readsSum_14, e_here c3.1 (by omega) (by omega), zBd_s, ySg_in hp2, hops, zBd_s, if_neg (nI_m1 (by omega)), if_pos ((nI_leI (by decide) (by omega)).mpr hop.1)]
          unfold fX12_readsSum_38
          rw [d1, zBd_s, d2.2.2.1, zG_in rfl (by omega) (by decide), cl9 (by omega), pk_mul]
          dsimp only [zLt]
          rw [zUp_ne (show (60 : Nat) ≠ 70 by decide), d2.2.2.1, nI_add, ← hn1]
          rw [← hn1] at e1
          rw [e1.1.2.1, nI_add]
          rfl
        rw [er]
        rw [hn1] at f1 f2 f3 ⊢
        exact ⟨m4, f1, f2, ((a3.trans d3).trans ⟨fun j h1 h2 h3 h4 h5 h6 => by rw [zUp_o h1, zUp_o h6, zUp_ne (by decide)], fun c h1 h2 h3 => by rw [zUp_ne h1, zUp_ne h1, zUp_ne h3]⟩).trans f3⟩
    · by_cases hadd : p2 < N ∧ (b p2 = 43 ∨ b p2 = 45)
      · obtain ⟨hp2, hc⟩ := hadd
        obtain ⟨op, hop, hopc, hops⟩ : ∃ op, (op = 2 ∨ op = 3) ∧ nI (b p2) = yOp op ∧ ∀ F (m : zMem), fX12_sumSign F (nI (b p2)) m = some (nI op, m) := by
          rcases hc with e | e
          · exact ⟨2, by omega, by rw [e]; rfl, fun F m => by rw [e, sumSign_c (by decide)]; rfl⟩
          · exact ⟨3, by omega, by rw [e]; rfl, fun F m => by rw [e, sumSign_c (by decide)]; rfl⟩
        have hop0 : op ≠ 0 := by omega
        have hsum := seg_sum ho hwt htm hsf q5 q6
        obtain ⟨ok, p', k1, wt1, tm1, ft', i1, i2, i3⟩ := IH (p2 + 1) o op 0 a (yApp (yApp kF tm) wt) (by omega) (by omega) ho (Or.inr hop) (Or.inl rfl) (by rw [y1_n hop0, y1_0]; omega) ⟨(yApp (yApp kF tm) wt).1, Nat.le_refl _, by rw [if_neg hop0]; exact hsum, rfl⟩
        refine ⟨ok, p', k1, wt1, tm1, ft', fun h => ?_, fun F D d f i μ hF hD hf hi hd hP => ?_, fun F f g base w Wk μ hF hf hg hbw hwp hWb hfl hP => ?_⟩
        · obtain ⟨j1, j2, j3, j4, j5, j6, j7, j8⟩ := i1 h
          rw [y1_n hop0, y1_0] at j6
          exact ⟨by omega, j2, j3, j4, ((q5.trans (kE_app kF tm)).trans (kE_app _ _)).trans j5, by omega, j7, j8⟩
        · obtain ⟨f, rfl⟩ : ∃ f1, f = f1 + 1 := ⟨f - 1, by omega⟩
          obtain ⟨m3, a1, a2, a3⟩ := cF F D d f i μ hF hD hi hd hP
          obtain ⟨r6, m6, d1, d2, d3⟩ := p_joins (F := F) (x := wt) hd a1 (fun h => by rw [y1_n h] at hk; omega)
          obtain ⟨m4, b1, b2, b3, b4⟩ := i2 F D d f (i + 1) (zUp m6 1 2 (nI (p2 + 1))) hF hD (by omega) (by omega) hd (d2.pos hd)
          refine ⟨m4, ?_, b2, b3, ((a2.trans d3).trans (frC_1 hd)).trans b4⟩
          have k97 : fX6_readsValue_97 F (fGC F D 0) (fGC F D 1) (fGC F D 2) (fGC F D 3) (fX6_readsValue_8 F (fGC F D 0) (fGC F D 1) (fGC F D 2) (fGC F D 3) f) (nI o) (-1 : Int32) (nI i) (nI (b p2)) m6 = some (zB ok, m4) := by
            unfold fX6_readsValue_97 fX6_readsValue_100
            rw [d2.1.2.1, nI_add, nI_add, hopc]
            exact b1
          rw [a3, ySg_in hp2]
          rcases hc with e | e
          · rw [if_neg (by rw [e]; decide), if_neg (by rw [e]; decide), if_neg (by rw [e]; decide), d1, zBd_s, k97, if_pos (by rw [e])]
          · rw [if_neg (by rw [e]; decide), if_neg (by rw [e]; decide), if_neg (by rw [e]; decide), d1, zBd_s, k97, if_neg (by rw [e]; decide), if_pos (by rw [e])]
        · obtain ⟨m1, a1, a2, a3⟩ := g3 F f g base (yWn w wt tm) (yWk Wk w wt tm) μ hF hf hg (by rw [yWn_y1]; omega) hwp (yWk_b hWb hwt6 htm6) hP
          obtain ⟨g1', c1, c2, c3⟩ := a1 rfl
          obtain ⟨g2', rfl⟩ : ∃ g2', g1' = g2' + 1 := ⟨g1' - 1, by omega⟩
          have hwp2 : w ≤ p := by rw [yWn_y1] at hwp; omega
          have hn1 : yWn w op 0 = w + 1 := by rw [yWn_y1, y1_n hop0, y1_0]
          obtain ⟨m2, d1, d2, d3⟩ := cs_all (F := F) (by omega) c3 (by omega) hWb hfl hwt htm (by omega)
          have e1 := d2.push (x := 1048576 * op)
          have e2 := (e1.pos (q := p2 + 1)).wk (Wk2 := yWk Wk w op 0) (by rw [← hn1]; exact yWk_pw hop0)
          rw [← hn1] at e2
          obtain ⟨m4, f1, f2, f3⟩ := i3 F F g2' base w Wk _ hF (by omega) (by omega) hbw (by omega) hWb hfl e2
          have er : yRB F f g base μ = yRB F F g2' base (zUp (zUp (zUp m2 70 w (nI (1048576 * op))) 60 16 (nI (yWn w op 0))) 60 10 (nI (p2 + 1))) := by
            rw [c2, fX12_readsSum_14, e_here c3.1 (by omega) (by omega), zBd_s, ySg_in hp2, hops, zBd_s, if_neg (nI_m1 (by omega)), if_neg (fun z => by have := (nI_leI (by decide) (by omega)).mp z; omega)]
            unfold fX12_readsSum_38
            rw [d1, zBd_s, d2.2.2.1, zG_in rfl (by omega) (by decide), cl9 (by omega), pk_mul]
            dsimp only [zLt]
            rw [zUp_ne (show (60 : Nat) ≠ 70 by decide), d2.2.2.1, nI_add, ← hn1]
            rw [← hn1] at e1
            rw [e1.1.2.1, nI_add]
            rfl
          rw [er]
          rw [hn1] at f1 f2 f3 ⊢
          exact ⟨m4, f1, f2, ((a3.trans d3).trans ⟨fun j h1 h2 h3 h4 h5 h6 => by rw [zUp_o h1, zUp_o h6, zUp_ne (by decide)], fun c h1 h2 h3 => by rw [zUp_ne h1, zUp_ne h1, zUp_ne h3]⟩).trans f3⟩
      · -- the value ends
        refine ⟨true, p2, kF, wt, tm, 0, fun _ => ⟨q1, q2, hwt, htm, q5, by omega, fun h z => ?_, seg_sum ho hwt htm hsf q5 q6⟩, fun F D d f i μ hF hD hf hi hd hP => ?_, fun F f g base w Wk μ hF hf hg hbw hwp hWb hfl hP => ?_⟩
        · have z : b p2 = 43 ∨ b p2 = 45 ∨ b p2 = 42 ∨ b p2 = 47 ∨ b p2 = 37 := by simpa [ySums] using z
          rcases z with e | e | e | e | e
          · exact hadd ⟨h, Or.inl e⟩
          · exact hadd ⟨h, Or.inr e⟩
          · exact hmul ⟨h, Or.inl e⟩
          · exact hmul ⟨h, Or.inr (Or.inl e)⟩
          · exact hmul ⟨h, Or.inr (Or.inr e)⟩
        · obtain ⟨f, rfl⟩ : ∃ f1, f = f1 + 1 := ⟨f - 1, by omega⟩
          obtain ⟨m3, a1, a2, a3⟩ := cF F D d f i μ hF hD hi hd hP
          obtain ⟨r6, m6, d1, d2, d3⟩ := p_joins (F := F) (x := wt) hd a1 (fun h => by rw [y1_n h] at hk; omega)
          refine ⟨m6, ?_, fun _ => d2, fun h => (by cases h), a2.trans d3⟩
          have nn : ∀ c, c < 256 → (p2 < N → b p2 ≠ c) → ¬ ySg N b p2 = nI c := fun c hc h z => by
            obtain ⟨z1, z2⟩ := (ySg_eq (hb p2) hc).mp z
            exact h z1 z2
          rw [a3, if_neg (nn 42 (by decide) (fun h e => hmul ⟨h, Or.inl e⟩)), if_neg (nn 47 (by decide) (fun h e => hmul ⟨h, Or.inr (Or.inl e)⟩)), if_neg (nn 37 (by decide) (fun h e => hmul ⟨h, Or.inr (Or.inr e)⟩)), d1, zBd_s, if_neg (nn 43 (by decide) (fun h e => hadd ⟨h, Or.inl e⟩)), if_neg (nn 45 (by decide) (fun h e => hadd ⟨h, Or.inr e⟩))]
          rfl
        · obtain ⟨m1, a1, a2, a3⟩ := g3 F f g base (yWn w wt tm) (yWk Wk w wt tm) μ hF hf hg (by rw [yWn_y1]; omega) hwp (yWk_b hWb hwt6 htm6) hP
          exact ⟨m1, fun _ => a1 rfl, fun h => (by cases h), a3⟩
theorem val_all {N : Nat} {b : Nat → Nat} (hN : N ≤ 240) (hb : ∀ j, b j < 256) : ∀ (m p o wt tm a : Nat) (k : yCd), N - p ≤ m → p ≤ N → o ≤ 6 → yOkW wt → yOkT tm → k.1 + y1 tm + y1 wt ≤ p → ySf a o wt tm k → yVAL N b p o wt tm a k := by
  intro m
  induction m with
  | zero => intro p o wt tm a k hm hp ho hwt htm hk hsf; exact val_step hN hb hp ho hwt htm hk hsf (fun p' _ _ _ _ _ h1 h2 => by omega)
  | succ m ih => intro p o wt tm a k hm hp ho hwt htm hk hsf; exact val_step hN hb hp ho hwt htm hk hsf (fun p' o wt tm a k h1 h2 => ih p' o wt tm a k (by omega) h2)
/-- a whole value: both read it alike -/
theorem sum_ex {N : Nat} {b : Nat → Nat} (hN : N ≤ 240) (hb : ∀ j, b j < 256) {p o : Nat} {k : yCd} (hp : p ≤ N) (ho : o ≤ 6) (hk : k.1 ≤ p) : ∃ (ok : Bool) (p' : Nat) (k' : yCd) (ft : Int32), (ok = true → p < p' ∧ p' ≤ N ∧ kE k k' ∧ k'.1 + p ≤ k.1 + p' ∧ ySV (yL k') k.1 k'.1 (15 - 2 * o)) ∧
    (∀ (F D d : Nat) (μ : zMem), 300 ≤ F → 14 - 2 * o ≤ D → (d = 19 ∨ d = 26) → yPC N b p d k μ → ∃ m1, fGC F D 2 (nI o) μ = some (zB ok, m1) ∧ (ok = true → yPC N b p' d k' m1) ∧ (ok = false → m1 1 3 = ft) ∧ frC d μ m1) ∧
    ∀ (F w : Nat) (Wk : Nat → Nat) (μ : zMem), 300 ≤ F → w ≤ p → yWb w Wk → yFl w Wk → yPM N b p o w Wk k μ → ∃ m1, fX12_readsSum F μ = some (zB ok, m1) ∧ (ok = true → yPM N b p' o w Wk k' m1) ∧ (ok = false → m1 60 12 = ft) ∧ frM μ m1 := by
  obtain ⟨ok, p', k1, wt1, tm1, ft, g1, g2, g3⟩ := val_all hN hb (N - p) p o 0 0 k.1 k (Nat.le_refl _) hp ho (Or.inl rfl) (Or.inl rfl) (by rw [y1_0]; omega) ⟨k.1, Nat.le_refl _, rfl, rfl⟩
  refine ⟨ok, p', yApp (yApp k1 tm1) wt1, ft, fun h => ?_, fun F D d μ hF hD hd hP => ?_, fun F w Wk μ hF hwp hWb hfl hP => ?_⟩
  · obtain ⟨q1, q2, q3, q4, q5, q6, q7, q8⟩ := g1 h
    rw [y1_0] at q6
    exact ⟨q1, q2, (q5.trans (kE_app _ _)).trans (kE_app _ _), by rw [yApp_y1, yApp_y1]; omega, q8⟩
  · obtain ⟨D, rfl⟩ : ∃ D1, D = D1 + 1 := ⟨D - 1, by omega⟩
    obtain ⟨m1, a1, a2, a3, a4⟩ := g2 F D d F 0 μ hF (by omega) (by omega) (by omega) hd hP
    refine ⟨m1, ?_, a2, a3, a4⟩
    rw [fGC, if_neg (by decide), if_neg (by decide), if_pos rfl]
    exact a1
  · obtain ⟨m1, a1, a2, a3⟩ := g3 F F F w w Wk μ hF (by omega) (by omega) (Nat.le_refl _) (by rw [yWn_0]; exact hwp) hWb hfl (hP.wk (fun i hi => yWk_in hi))
    have er : fX12_readsSum F μ = yRB F F F w μ := by
      unfold fX12_readsSum
      rw [hP.2.2.1]
      rfl
    rw [er]
    cases ok with
    | false =>
      obtain ⟨b1, b2⟩ := a2 rfl
      exact ⟨m1, b1, fun h => (by cases h), fun _ => b2, a3⟩
    | true =>
      obtain ⟨q1, q2, q3, q4, q5, q6, q7, q8⟩ := g1 rfl
      obtain ⟨g', c1, c2, c3⟩ := a1 rfl
      obtain ⟨g2', rfl⟩ : ∃ g2', g' = g2' + 1 := ⟨g' - 1, by omega⟩
      have y1a := y1_le tm1
      have y1b := y1_le wt1
      rw [y1_0] at q6
      obtain ⟨m2, d1, d2, d3⟩ := cs_all (F := F) (by omega) c3 (by omega) hWb hfl q3 q4 (by omega)
      refine ⟨m2, ?_, fun _ => d2, fun h => (by cases h), a3.trans d3⟩
      have hsum : fX12_sumSign F (ySg N b p') m1 = some (-1, m1) := by
        have nn : ∀ c, c ∈ ySums → ¬ ySg N b p' = nI c := fun c hc z => by
          have hc256 : c < 256 := by simp [ySums] at hc; omega
          obtain ⟨z1, z2⟩ := (ySg_eq (hb p') hc256).mp z
          exact q7 z1 (by rw [z2]; exact hc)
        unfold fX12_sumSign
        rw [if_neg (nn 43 (by decide)), if_neg (nn 45 (by decide)), if_neg (nn 42 (by decide)), if_neg (nn 47 (by decide)), if_neg (nn 37 (by decide))]
      have hno : fX12_hasOpenSum F (nI w) m1 = some (nI 0, m1) := by
        have hwn : yWn w wt1 tm1 = w + y1 wt1 + y1 tm1 := rfl
        refine e_hasOpen_f (w0 := w) c3 (by omega) (yWk_b hWb (by unfold yOkW at q3; omega) (by unfold yOkT at q4; omega)) (fun i h1 h2 => ?_) (yWn w wt1 tm1 - w) w F (by omega) (Nat.le_refl _) (by omega)
        unfold yWk
        rw [if_neg (by omega)]
        unfold yOkW at q3
        unfold yOkT at q4
        split
        · omega
        · omega
      have h138 : fX12_readsSum_138 F (nI w) m1 = some (nI 1, m2) := by
        unfold fX12_readsSum_138
        rw [hno, zBd_s, if_pos (show nI 0 = 0 from rfl), d1, zBd_s]
      rw [c2, fX12_readsSum_14, e_here c3.1 (by omega) (by omega), zBd_s, hsum, zBd_s, if_pos rfl, e_here c3.1 (by omega) (by omega), zBd_s, hno, zBd_s, if_pos (show nI 0 = 0 from rfl), h138]
      split <;> rfl
