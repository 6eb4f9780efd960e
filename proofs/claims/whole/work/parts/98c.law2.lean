/-! ===== the law: all of it ===== -/
theorem nI_nat (x : Int32) : nI x.toBitVec.toNat = x := by
  apply Int32.toBitVec_inj.1
  show BitVec.ofNat 32 x.toBitVec.toNat = x.toBitVec
  simp
theorem law_k {N : Nat} {b : Nat → Nat} (hN : N ≤ 240) (hb : ∀ j, b j < 256) : ∀ (m p r : Nat) (k : yCd) (RK RV RT RE : Nat → Nat), N - p ≤ m → p ≤ N → r ≤ 16 → k.1 ≤ p → yRv k r RK RV RT RE → ∃ (ok : Bool) (r' : Nat) (k' : yCd) (RK' RV' RT' RE' : Nat → Nat) (ft : Int32), (ok = true → r' ≤ 16 ∧ k'.1 ≤ 240 ∧ yRv k' r' RK' RV' RT' RE') ∧
    (∀ (F d f : Nat) (μ : zMem), 300 ≤ F → m < f → (d = 19 ∨ d = 26) → yPC N b p d k μ → yRC d r RK RV RT RE μ → μ 18 0 = nI (45 - d) → ∃ m1, fX6_reads_9 F f (nI r) μ = some (zB ok, m1) ∧ (ok = true → (∀ i, i < k'.1 → m1 (d + 1) i = nI (zSign (k'.2.1 i)) ∧ m1 (d + 2) i = nI (k'.2.2 i)) ∧ yRC d r' RK' RV' RT' RE' m1 ∧ m1 18 0 = nI d ∧ m1 18 1 = nI (45 - d)) ∧ (ok = false → m1 1 3 = ft ∧ m1 18 = μ 18) ∧ ∀ c, c ≠ 1 → c ≠ 18 → (c < d ∨ d + 6 < c) → m1 c = μ c) ∧
    ∀ (F f o w : Nat) (Wk : Nat → Nat) (μ : zMem), 300 ≤ F → m + 1 < f → yPM N b p o w Wk k μ → yRM r RK RV RT RE μ → ∃ m1, zBd (fX12_readsRule F μ) (fun r4 m4 => if r4 = 0 then fX12_law_31 F f (nI 0) m4 else fX12_law_31 F f (nI 1) m4) = fX12_law_71 F (zB ok) m1 ∧ (ok = true → m1 60 15 = nI k'.1 ∧ (∀ i, i < k'.1 → m1 69 i = nI (1048576 * k'.2.1 i + k'.2.2 i)) ∧ yRM r' RK' RV' RT' RE' m1) ∧ (ok = false → m1 60 12 = ft) ∧ (∀ j, (j = 7 ∨ j = 18 ∨ j = 45) → m1 60 j = μ 60 j) ∧ ∀ c, c ≠ 60 → (c < 69 ∨ 74 < c) → m1 c = μ c := by
  intro m
  have main : ∀ (m p r : Nat) (k : yCd) (RK RV RT RE : Nat → Nat), N - p ≤ m → p ≤ N → r ≤ 16 → k.1 ≤ p → yRv k r RK RV RT RE → (∀ (p' r : Nat) (k : yCd) (RK RV RT RE : Nat → Nat), p < p' → p' ≤ N → r ≤ 16 → k.1 ≤ p' → yRv k r RK RV RT RE → 1 ≤ m ∧ ∃ (ok : Bool) (r' : Nat) (k' : yCd) (RK' RV' RT' RE' : Nat → Nat) (ft : Int32), (ok = true → r' ≤ 16 ∧ k'.1 ≤ 240 ∧ yRv k' r' RK' RV' RT' RE') ∧
    (∀ (F d f : Nat) (μ : zMem), 300 ≤ F → m - 1 < f → (d = 19 ∨ d = 26) → yPC N b p' d k μ → yRC d r RK RV RT RE μ → μ 18 0 = nI (45 - d) → ∃ m1, fX6_reads_9 F f (nI r) μ = some (zB ok, m1) ∧ (ok = true → (∀ i, i < k'.1 → m1 (d + 1) i = nI (zSign (k'.2.1 i)) ∧ m1 (d + 2) i = nI (k'.2.2 i)) ∧ yRC d r' RK' RV' RT' RE' m1 ∧ m1 18 0 = nI d ∧ m1 18 1 = nI (45 - d)) ∧ (ok = false → m1 1 3 = ft ∧ m1 18 = μ 18) ∧ ∀ c, c ≠ 1 → c ≠ 18 → (c < d ∨ d + 6 < c) → m1 c = μ c) ∧
    ∀ (F f o w : Nat) (Wk : Nat → Nat) (μ : zMem), 300 ≤ F → m - 1 + 1 < f → yPM N b p' o w Wk k μ → yRM r RK RV RT RE μ → ∃ m1, zBd (fX12_readsRule F μ) (fun r4 m4 => if r4 = 0 then fX12_law_31 F f (nI 0) m4 else fX12_law_31 F f (nI 1) m4) = fX12_law_71 F (zB ok) m1 ∧ (ok = true → m1 60 15 = nI k'.1 ∧ (∀ i, i < k'.1 → m1 69 i = nI (1048576 * k'.2.1 i + k'.2.2 i)) ∧ yRM r' RK' RV' RT' RE' m1) ∧ (ok = false → m1 60 12 = ft) ∧ (∀ j, (j = 7 ∨ j = 18 ∨ j = 45) → m1 60 j = μ 60 j) ∧ ∀ c, c ≠ 60 → (c < 69 ∨ 74 < c) → m1 c = μ c) →
    ∃ (ok : Bool) (r' : Nat) (k' : yCd) (RK' RV' RT' RE' : Nat → Nat) (ft : Int32), (ok = true → r' ≤ 16 ∧ k'.1 ≤ 240 ∧ yRv k' r' RK' RV' RT' RE') ∧
    (∀ (F d f : Nat) (μ : zMem), 300 ≤ F → m < f → (d = 19 ∨ d = 26) → yPC N b p d k μ → yRC d r RK RV RT RE μ → μ 18 0 = nI (45 - d) → ∃ m1, fX6_reads_9 F f (nI r) μ = some (zB ok, m1) ∧ (ok = true → (∀ i, i < k'.1 → m1 (d + 1) i = nI (zSign (k'.2.1 i)) ∧ m1 (d + 2) i = nI (k'.2.2 i)) ∧ yRC d r' RK' RV' RT' RE' m1 ∧ m1 18 0 = nI d ∧ m1 18 1 = nI (45 - d)) ∧ (ok = false → m1 1 3 = ft ∧ m1 18 = μ 18) ∧ ∀ c, c ≠ 1 → c ≠ 18 → (c < d ∨ d + 6 < c) → m1 c = μ c) ∧
    ∀ (F f o w : Nat) (Wk : Nat → Nat) (μ : zMem), 300 ≤ F → m + 1 < f → yPM N b p o w Wk k μ → yRM r RK RV RT RE μ → ∃ m1, zBd (fX12_readsRule F μ) (fun r4 m4 => if r4 = 0 then fX12_law_31 F f (nI 0) m4 else fX12_law_31 F f (nI 1) m4) = fX12_law_71 F (zB ok) m1 ∧ (ok = true → m1 60 15 = nI k'.1 ∧ (∀ i, i < k'.1 → m1 69 i = nI (1048576 * k'.2.1 i + k'.2.2 i)) ∧ yRM r' RK' RV' RT' RE' m1) ∧ (ok = false → m1 60 12 = ft) ∧ (∀ j, (j = 7 ∨ j = 18 ∨ j = 45) → m1 60 j = μ 60 j) ∧ ∀ c, c ≠ 60 → (c < 69 ∨ 74 < c) → m1 c = μ c := by
    intro m p r k RK RV RT RE hm hp hr hk hv IH
    obtain ⟨ok, p', k', kd, vf, tf, te, ft, g1, g2, g3⟩ := rule_ex hN hb hp hr hk
    cases ok with
    | false =>
      refine ⟨false, 0, k, RK, RV, RT, RE, ft, fun h => (by cases h), fun F d f μ hF hf hd hP hR h18 => ?_, fun F f o w Wk μ hF hf hP hR => ?_⟩
      · obtain ⟨f, rfl⟩ : ∃ f1, f = f1 + 1 := ⟨f - 1, by omega⟩
        obtain ⟨m1, a1, a2, a3, a4⟩ := g2 F d f μ hF hd hP hR.1
        refine ⟨m1, by rw [a1, if_neg (by decide)]; rfl, fun h => (by cases h), fun _ => ⟨a3 rfl, a4.2.2 18 (by decide) (by omega)⟩, fun c h1 _ h3 => a4.2.2 c h1 h3⟩
      · obtain ⟨f, rfl⟩ : ∃ f1, f = f1 + 1 := ⟨f - 1, by omega⟩
        obtain ⟨m1, a1, a2, a3, a4⟩ := g3 F o w Wk μ hF hP hR.1
        refine ⟨m1, ?_, fun h => (by cases h), a3, fun j hj => a4.1 j (by omega) (by omega) (by omega) (by omega) (by omega) (by omega) (by omega), fun c h1 h2 => a4.2.2 c h1 h2⟩
        rw [a1, zBd_s, z_bf, fX12_law_31, if_pos (show nI 0 = 0 from rfl)]
        rfl
    | true =>
      obtain ⟨q1, q2, q3, q4, q5, q6, q7, q8, q9⟩ := g1 rfl
      have hv' : yRv k' (r + 1) (uN RK r kd) (uN RV r vf) (uN RT r tf) (uN RE r te) := fun i hi => by
        by_cases e : i = r
        · rw [e, uN_s, uN_s, uN_s, uN_s]; exact ⟨q6, by omega, q8, q9⟩
        · obtain ⟨z1, z2, z3, z4⟩ := hv i (by omega)
          have := q4.1
          rw [uN_o e, uN_o e, uN_o e, uN_o e]
          have hlt := yST.lt z3
          exact ⟨z1, by omega, z3.ext (fun j j1 j2 => q4.2 j (by omega)), fun hn => (z4 hn).kE q4 (by omega)⟩
      have hRC : ∀ (d : Nat) (μ m1 : zMem), (d = 19 ∨ d = 26) → yRC d r RK RV RT RE μ → frR d r μ m1 → m1 d 7 = nI (r + 1) → m1 (d + 3) r = nI kd → m1 (d + 4) r = nI vf → m1 (d + 5) r = nI tf → m1 (d + 6) r = nI te → yRC d (r + 1) (uN RK r kd) (uN RV r vf) (uN RT r tf) (uN RE r te) m1 := by
        intro d μ m1 hd hR hf h7 h3 h4 h5 h6
        refine ⟨h7, fun i hi => ?_⟩
        by_cases e : i = r
        · rw [e, uN_s, uN_s, uN_s, uN_s]; exact ⟨h3, h4, h5, h6⟩
        · rw [uN_o e, uN_o e, uN_o e, uN_o e, hf.2.1 3 i (by omega) (by omega) e, hf.2.1 4 i (by omega) (by omega) e, hf.2.1 5 i (by omega) (by omega) e, hf.2.1 6 i (by omega) (by omega) e]
          exact hR.2 i (by omega)
      have hRM : ∀ (μ m1 : zMem), yRM r RK RV RT RE μ → frT r μ m1 → m1 60 17 = nI (r + 1) → m1 71 r = nI kd → m1 72 r = nI vf → m1 73 r = nI tf → m1 74 r = nI te → yRM (r + 1) (uN RK r kd) (uN RV r vf) (uN RT r tf) (uN RE r te) m1 := by
        intro μ m1 hR hf h7 h3 h4 h5 h6
        refine ⟨h7, fun i hi => ?_⟩
        by_cases e : i = r
        · rw [e, uN_s, uN_s, uN_s, uN_s]; exact ⟨h3, h4, h5, h6⟩
        · rw [uN_o e, uN_o e, uN_o e, uN_o e, hf.2.1 71 i (by omega) (by omega) e, hf.2.1 72 i (by omega) (by omega) e, hf.2.1 73 i (by omega) (by omega) e, hf.2.1 74 i (by omega) (by omega) e]
          exact hR.2 i (by omega)
      by_cases hov : N ≤ p'
      · refine ⟨true, r + 1, k', uN RK r kd, uN RV r vf, uN RT r tf, uN RE r te, 0, fun _ => ⟨by omega, by omega, hv'⟩, fun F d f μ hF hf hd hP hR h18 => ?_, fun F f o w Wk μ hF hf hP hR => ?_⟩
        · obtain ⟨f, rfl⟩ : ∃ f1, f = f1 + 1 := ⟨f - 1, by omega⟩
          obtain ⟨m1, a1, a2, a3, a4⟩ := g2 F d f μ hF hd hP hR.1
          obtain ⟨b1, b2, b3, b4, b5, b6⟩ := a2 rfl
          have e18 : m1 18 0 = nI (45 - d) := by rw [a4.2.2 18 (by decide) (by omega)]; exact h18
          have hR1 := hRC d μ m1 hd hR a4 b2 b3 b4 b5 b6
          have ec : ∀ c, c ≠ 18 → zUp (zUp m1 18 0 (nI d)) 18 1 (nI (45 - d)) c = m1 c := fun c hc => by rw [zUp_ne hc, zUp_ne hc]
          refine ⟨zUp (zUp m1 18 0 (nI d)) 18 1 (nI (45 - d)), ?_, fun _ => ⟨fun i hi => by rw [ec (d + 1) (by omega), ec (d + 2) (by omega)]; exact b1.2.2.2 i hi, ⟨by rw [ec d (by omega)]; exact hR1.1, fun i hi => by rw [ec (d + 3) (by omega), ec (d + 4) (by omega), ec (d + 5) (by omega), ec (d + 6) (by omega)]; exact hR1.2 i hi⟩, by rw [zUp_o (by decide), zUp_s], zUp_s _ _ _ _⟩, fun h => (by cases h), fun c h1 h2 h3 => by rw [ec c h2, a4.2.2 c h1 h3]⟩
          rw [a1, if_pos rfl]
          unfold yTail fX6_takesEffect
          rw [e_isOver b1.1 (by omega) (by omega), zBd_s, decide_eq_true hov, z_bt, e18, b1.2.1, cl9 (by omega), cl9 (by omega), zGb_t (lw_is (show 45 - d = 19 ∨ 45 - d = 26 by omega)), zGb_t (lw_is hd)]
          rfl
        · obtain ⟨f, rfl⟩ : ∃ f1, f = f1 + 1 := ⟨f - 1, by omega⟩
          obtain ⟨m1, a1, a2, a3, a4⟩ := g3 F o w Wk μ hF hP hR.1
          obtain ⟨b1, b2, b3, b4, b5, b6⟩ := a2 rfl
          refine ⟨m1, ?_, fun _ => ⟨b1.2.2.2.2.1, b1.2.2.2.2.2, hRM μ m1 hR a4 b2 b3 b4 b5 b6⟩, fun h => (by cases h), fun j hj => a4.1 j (by omega) (by omega) (by omega) (by omega) (by omega) (by omega) (by omega), fun c h1 h2 => a4.2.2 c h1 h2⟩
          rw [a1, zBd_s, z_bt, fX12_law_31, if_neg (by decide), b1.1.1, b1.1.2.1, z_done hov (by omega)]
          rfl
      · by_cases h59 : b p' = 59
        · obtain ⟨hm1, ok, r2, k2, RK2, RV2, RT2, RE2, ft2, i1, i2, i3⟩ := IH (p' + 1) (r + 1) k' (uN RK r kd) (uN RV r vf) (uN RT r tf) (uN RE r te) (by omega) (by omega) (by omega) (by omega) hv'
          refine ⟨ok, r2, k2, RK2, RV2, RT2, RE2, ft2, i1, fun F d f μ hF hf hd hP hR h18 => ?_, fun F f o w Wk μ hF hf hP hR => ?_⟩
          · obtain ⟨f, rfl⟩ : ∃ f1, f = f1 + 1 := ⟨f - 1, by omega⟩
            obtain ⟨m1, a1, a2, a3, a4⟩ := g2 F d f μ hF hd hP hR.1
            obtain ⟨b1, b2, b3, b4, b5, b6⟩ := a2 rfl
            have hR1 := hRC d μ m1 hd hR a4 b2 b3 b4 b5 b6
            obtain ⟨m2, c1, c2, c3, c4⟩ := i2 F d f (zUp m1 1 2 (nI (p' + 1))) hF (by omega) hd (b1.pos hd) ⟨by rw [zUp_ne (by omega)]; exact hR1.1, fun i hi => by rw [zUp_ne (show d + 3 ≠ 1 by omega), zUp_ne (show d + 4 ≠ 1 by omega), zUp_ne (show d + 5 ≠ 1 by omega), zUp_ne (show d + 6 ≠ 1 by omega)]; exact hR1.2 i hi⟩ (by rw [zUp_ne (by decide), a4.2.2 18 (by decide) (by omega)]; exact h18)
            refine ⟨m2, ?_, c2, fun h => ⟨(c3 h).1, by rw [(c3 h).2, zUp_ne (by decide), a4.2.2 18 (by decide) (by omega)]⟩, fun c h1 h2 h3 => by rw [c4 c h1 h2 h3, zUp_ne h1, a4.2.2 c h1 h3]⟩
            rw [a1, if_pos rfl]
            unfold yTail
            rw [e_isOver b1.1 (by omega) (by omega), zBd_s, decide_eq_false hov, z_bf, e_needs_t b1.1 (by omega) (by omega) h59, zBd_s, if_neg (by decide), nI_add]
            exact c1
          · obtain ⟨f, rfl⟩ : ∃ f1, f = f1 + 1 := ⟨f - 1, by omega⟩
            obtain ⟨m1, a1, a2, a3, a4⟩ := g3 F o w Wk μ hF hP hR.1
            obtain ⟨b1, b2, b3, b4, b5, b6⟩ := a2 rfl
            have hR1 := hRM μ m1 hR a4 b2 b3 b4 b5 b6
            obtain ⟨m2, c1, c2, c3, c4, c5⟩ := i3 F f 0 0 (fun _ => 0) (zUp m1 60 10 (nI (p' + 1))) hF (by omega) b1.pos ⟨by rw [zUp_o (by decide)]; exact hR1.1, fun i hi => by rw [zUp_ne (show (71 : Nat) ≠ 60 by decide), zUp_ne (show (72 : Nat) ≠ 60 by decide), zUp_ne (show (73 : Nat) ≠ 60 by decide), zUp_ne (show (74 : Nat) ≠ 60 by decide)]; exact hR1.2 i hi⟩
            refine ⟨m2, ?_, c2, c3, fun j hj => by rw [c4 j hj, zUp_o (by omega), a4.1 j (by omega) (by omega) (by omega) (by omega) (by omega) (by omega) (by omega)], fun c h1 h2 => by rw [c5 c h1 h2, zUp_ne h1, a4.2.2 c h1 h2]⟩
            rw [a1, zBd_s, z_bt, fX12_law_31, if_neg (by decide), b1.1.1, b1.1.2.1, z_more (by omega) (by omega), e_takes_t b1.1 (by omega) (by omega) h59, zBd_s, if_neg (by decide)]
            exact c1
        · refine ⟨false, 0, k, RK, RV, RT, RE, yFt 1 p', fun h => (by cases h), fun F d f μ hF hf hd hP hR h18 => ?_, fun F f o w Wk μ hF hf hP hR => ?_⟩
          · obtain ⟨f, rfl⟩ : ∃ f1, f = f1 + 1 := ⟨f - 1, by omega⟩
            obtain ⟨m1, a1, a2, a3, a4⟩ := g2 F d f μ hF hd hP hR.1
            obtain ⟨b1, b2, b3, b4, b5, b6⟩ := a2 rfl
            refine ⟨zUp m1 1 3 (yFt 1 p'), ?_, fun h => (by cases h), fun _ => ⟨zUp_s _ _ _ _, by rw [zUp_ne (by decide), a4.2.2 18 (by decide) (by omega)]⟩, fun c h1 _ h3 => by rw [zUp_ne h1, a4.2.2 c h1 h3]⟩
            rw [a1, if_pos rfl]
            unfold yTail
            rw [e_isOver b1.1 (by omega) (by omega), zBd_s, decide_eq_false hov, z_bf, e_needs_f b1.1 (by omega) (by omega) (hb _) (by decide) (fun z => h59 z.2), zBd_s, if_pos (by decide)]
            rfl
          · obtain ⟨f, rfl⟩ : ∃ f1, f = f1 + 1 := ⟨f - 1, by omega⟩
            obtain ⟨m1, a1, a2, a3, a4⟩ := g3 F o w Wk μ hF hP hR.1
            obtain ⟨b1, b2, b3, b4, b5, b6⟩ := a2 rfl
            refine ⟨zUp m1 60 12 (yFt 1 p'), ?_, fun h => (by cases h), fun _ => zUp_s _ _ _ _, fun j hj => by rw [zUp_o (by omega), a4.1 j (by omega) (by omega) (by omega) (by omega) (by omega) (by omega) (by omega)], fun c h1 h2 => by rw [zUp_ne h1, a4.2.2 c h1 h2]⟩
            obtain ⟨f, rfl⟩ : ∃ f1, f = f1 + 1 := ⟨f - 1, by omega⟩
            rw [a1, zBd_s, z_bt, fX12_law_31, if_neg (by decide), b1.1.1, b1.1.2.1, z_more (by omega) (by omega), e_takes_f b1.1 (by omega) (by omega) (hb _) (by decide) (fun z => h59 z.2), zBd_s, if_pos (by decide), fX12_law_31, if_pos (by decide)]
            rfl
  induction m with
  | zero => intro p r k RK RV RT RE hm hp hr hk hv; exact main 0 p r k RK RV RT RE hm hp hr hk hv (fun p' _ _ _ _ _ _ h1 h2 => by omega)
  | succ m ih => intro p r k RK RV RT RE hm hp hr hk hv; exact main (m + 1) p r k RK RV RT RE hm hp hr hk hv (fun p' r k RK RV RT RE h1 h2 h3 h4 h5 => ⟨by omega, ih p' r k RK RV RT RE (by omega) h2 h3 h4 h5⟩)
theorem e_law_123 {F r : Nat} (hr : r ≤ 16) : ∀ m i f (μ : zMem), i + m = r → m < f → μ 60 17 = nI r → ∃ m1, fX12_law_123 F f (nI i) μ = some (nI r, m1) ∧ (∀ j, i ≤ j → j < r → m1 76 j = μ 71 j ∧ m1 77 j = μ 72 j ∧ m1 78 j = μ 73 j ∧ m1 79 j = μ 74 j) ∧ (∀ j, j < i → m1 76 j = μ 76 j ∧ m1 77 j = μ 77 j ∧ m1 78 j = μ 78 j ∧ m1 79 j = μ 79 j) ∧ ∀ c, (c < 76 ∨ 79 < c) → m1 c = μ c := by
  intro m
  induction m with
  | zero =>
    intro i f μ hi hf h17
    obtain ⟨f, rfl⟩ := z_s hf
    refine ⟨μ, ?_, fun j h1 h2 => by omega, fun _ _ => ⟨rfl, rfl, rfl, rfl⟩, fun _ _ => rfl⟩
    rw [fX12_law_123, h17, z_done (by omega) (by omega)]
  | succ m ih =>
    intro i f μ hi hf h17
    obtain ⟨f, rfl⟩ := z_s hf
    obtain ⟨m0, hm0⟩ : ∃ m0, m0 = zUp (zUp (zUp (zUp μ 76 i (μ 71 i)) 77 i (μ 72 i)) 78 i (μ 73 i)) 79 i (μ 74 i) := ⟨_, rfl⟩
    have ec : ∀ c, (c < 76 ∨ 79 < c) → m0 c = μ c := fun c hc => by rw [hm0, zUp_ne (by omega), zUp_ne (by omega), zUp_ne (by omega), zUp_ne (by omega)]
    have e76 : m0 76 = upd (μ 76) i (μ 71 i) := by rw [hm0, zUp_ne (by decide), zUp_ne (by decide), zUp_ne (by decide), zUp_at]
    have e77 : m0 77 = upd (μ 77) i (μ 72 i) := by rw [hm0, zUp_ne (by decide), zUp_ne (by decide), zUp_at, zUp_ne (by decide)]
    have e78 : m0 78 = upd (μ 78) i (μ 73 i) := by rw [hm0, zUp_ne (by decide), zUp_at, zUp_ne (by decide), zUp_ne (by decide)]
    have e79 : m0 79 = upd (μ 79) i (μ 74 i) := by rw [hm0, zUp_at, zUp_ne (by decide), zUp_ne (by decide), zUp_ne (by decide)]
    obtain ⟨m1, a1, a2, a3, a4⟩ := ih (i + 1) f m0 (by omega) (by omega) (by rw [ec 60 (by omega)]; exact h17)
    refine ⟨m1, ?_, fun j h1 h2 => ?_, fun j hj => ?_, fun c hc => by rw [a4 c hc, ec c hc]⟩
    · rw [fX12_law_123, h17, z_more (by omega) (by omega), zG_in rfl (by omega) (by decide), zG_in rfl (by omega) (by decide), cl9 (by omega)]
      dsimp only [zLt]
      rw [zG_in rfl (by omega) (by decide), zG_in rfl (by omega) (by decide), zG_in rfl (by omega) (by decide), zG_in rfl (by omega) (by decide), zG_in rfl (by omega) (by decide), zG_in rfl (by omega) (by decide), zUp_ne (show (72 : Nat) ≠ 76 by decide), zUp_ne (show (73 : Nat) ≠ 77 by decide), zUp_ne (show (73 : Nat) ≠ 76 by decide), zUp_ne (show (74 : Nat) ≠ 78 by decide), zUp_ne (show (74 : Nat) ≠ 77 by decide), zUp_ne (show (74 : Nat) ≠ 76 by decide), nI_add, ← hm0]
      exact a1
    · by_cases e : j = i
      · obtain ⟨b1, b2, b3, b4⟩ := a3 j (by omega)
        rw [b1, b2, b3, b4, e76, e77, e78, e79, e, pk_us, pk_us, pk_us, pk_us]
        exact ⟨rfl, rfl, rfl, rfl⟩
      · obtain ⟨b1, b2, b3, b4⟩ := a2 j (by omega) h2
        rw [b1, b2, b3, b4, ec 71 (by omega), ec 72 (by omega), ec 73 (by omega), ec 74 (by omega)]
        exact ⟨rfl, rfl, rfl, rfl⟩
    · obtain ⟨b1, b2, b3, b4⟩ := a3 j (by omega)
      rw [b1, b2, b3, b4, e76, e77, e78, e79, pk_un (by omega), pk_un (by omega), pk_un (by omega), pk_un (by omega)]
      exact ⟨rfl, rfl, rfl, rfl⟩
theorem e_law_95 {F c0 : Nat} (hc : c0 ≤ 240) : ∀ m i f (μ : zMem), i + m = c0 → m < f → μ 60 15 = nI c0 → ∃ m1, fX12_law_95 F f (nI i) μ = fX12_law_123 F F (nI 0) m1 ∧ (∀ j, i ≤ j → j < c0 → m1 75 j = μ 69 j) ∧ (∀ j, j < i → m1 75 j = μ 75 j) ∧ ∀ c, c ≠ 75 → m1 c = μ c := by
  intro m
  induction m with
  | zero =>
    intro i f μ hi hf h15
    obtain ⟨f, rfl⟩ := z_s hf
    refine ⟨μ, ?_, fun j h1 h2 => by omega, fun _ _ => rfl, fun _ _ => rfl⟩
    rw [fX12_law_95, h15, z_done (by omega) (by omega)]
  | succ m ih =>
    intro i f μ hi hf h15
    obtain ⟨f, rfl⟩ := z_s hf
    obtain ⟨m1, a1, a2, a3, a4⟩ := ih (i + 1) f (zUp μ 75 i (μ 69 i)) (by omega) (by omega) (by rw [zUp_ne (by decide)]; exact h15)
    refine ⟨m1, ?_, fun j h1 h2 => ?_, fun j hj => by rw [a3 j (by omega), zUp_o (by omega)], fun c hc => by rw [a4 c hc, zUp_ne hc]⟩
    · rw [fX12_law_95, h15, z_more (by omega) (by omega), zG_in rfl (by omega) (by decide), zG_in rfl (by omega) (by decide), cl9 (by omega), nI_add]
      exact a1
    · by_cases e : j = i
      · rw [e, a3 i (by omega), zUp_s]
      · rw [a2 j (by omega) h2, zUp_ne (by decide)]
def aSL (A : zAS) (l : zLS) : zAS := (0, A.2.1, A.2.2.1, A.2.2.2.1, l, A.2.2.2.2.2)
theorem pr_law {F : Nat} (hF : 300 ≤ F) (x : Int32) : zPair (fX11_law F x) (fX12_law F x) := by
  refine zPair.mk fun A μ hW hC => ?_
  cases hz : zIn x 1 240
  · refine ⟨-1, A, μ, ?_, hW, hC, fun _ _ => rfl, fun μ' hM => ⟨μ', ?_, hM, fun _ _ => rfl⟩⟩
    · unfold fX11_law
      rw [e_isWithin, zBd_s, hz, z_bf]
    · unfold fX12_law
      rw [e_in, zBd_s, hz, z_bf]
  · obtain ⟨n, h1n, hn, rfl⟩ := zIn_t (by decide) (by decide) hz
    have hT260 := hW.1.1
    by_cases ht : n ≤ aT A
    · obtain ⟨ok, r', k', RK, RV, RT, RE, ft, g1, g2, g3⟩ := law_k (N := n) (b := aB A) hn hW.1.2 n 0 0 (0, fun _ => 0, fun _ => 0) (fun _ => 0) (fun _ => 0) (fun _ => 0) (fun _ => 0) (by omega) (by omega) (by omega) (Nat.le_refl _) (fun i hi => by omega)
      obtain ⟨h, hlw, c0, c1, c2, c3, c4⟩ := hC.2.2.2.1
      have hh : h = 19 ∨ h = 26 := zIsLw_or hlw
      obtain ⟨d, hd⟩ : ∃ d, d = 45 - h := ⟨_, rfl⟩
      have hdd : d = 19 ∨ d = 26 := by omega
      rw [← hd] at c1
      obtain ⟨m0, hm0⟩ : ∃ m0, m0 = zUp (zUp (zOp μ n) d 6 (nI 0)) d 7 (nI 0) := ⟨_, rfl⟩
      have e0 : ∀ c, c ≠ 1 → c ≠ d → m0 c = μ c := fun c h1 h2 => by rw [hm0, zUp_ne h2, zUp_ne h2, zOp_ne h1]
      have hP0 : yPC n (aB A) 0 d (0, fun _ => 0, fun _ => 0) m0 := ⟨(zOp_t hC.1 ht).of (by rw [hm0, zUp_ne (by omega), zUp_ne (by omega)]) (by rw [hm0, zUp_ne (by omega), zUp_ne (by omega)]) (by rw [hm0, zUp_ne (by omega), zUp_ne (by omega)]), by rw [e0 18 (by decide) (by omega)]; exact c1, by rw [hm0, zUp_o (by decide), zUp_s], fun i hi => absurd hi (Nat.not_lt_zero i)⟩
      obtain ⟨m2, b1, b2, b3, b4⟩ := g2 F d F m0 hF (by omega) hdd hP0 ⟨by rw [hm0, zUp_s], fun i hi => by omega⟩ (by rw [e0 18 (by decide) (by omega), show 45 - d = h by omega]; exact c0)
      have ec : ∀ c, c ≠ 1 → c ≠ 18 → (c < d ∨ d + 6 < c) → m2 c = μ c := fun c h1 h2 h3 => by rw [b4 c h1 h2 h3, e0 c h1 (by omega)]
      have hread : fX6_reads F (zOp μ n) = some (zB ok, m2) := by
        unfold fX6_reads fX5_clears
        rw [zOp_ne (show (18 : Nat) ≠ 1 by decide), c1, cl9 (by omega), zGb_t (lw_is hdd)]
        dsimp only [zLt]
        rw [zBd_s, ← hm0]
        exact b1
      have cM : ∀ μ', zRepM A μ' → ∃ m4, fX12_law F (nI n) μ' = fX12_law_71 F (zB ok) m4 ∧ (ok = true → m4 60 15 = nI k'.1 ∧ (∀ i, i < k'.1 → m4 69 i = nI (1048576 * k'.2.1 i + k'.2.2 i)) ∧ yRM r' RK RV RT RE m4) ∧ (ok = false → m4 60 12 = ft) ∧ (∀ j, j = 7 ∨ j = 18 ∨ j = 45 → m4 60 j = μ' 60 j) ∧ ∀ c, c ≠ 60 → (c < 69 ∨ 74 < c) → m4 c = μ' c := by
        intro μ' hM
        have hT3 : yTM n (aB A) 0 (zBeg μ' n) := zBeg_t hM.1 ht
        have h15 : zBeg μ' n 60 15 = nI 0 := by unfold zBeg; rw [zUp_o (by decide), zUp_s]
        have h17 : zBeg μ' n 60 17 = nI 0 := by unfold zBeg; rw [zUp_s]
        have hP3 : yPM n (aB A) 0 (zBeg μ' n 60 14).toBitVec.toNat (zBeg μ' n 60 16).toBitVec.toNat (fun i => (zBeg μ' n 70 i).toBitVec.toNat) (0, fun _ => 0, fun _ => 0) (zBeg μ' n) := ⟨hT3, (nI_nat _).symm, (nI_nat _).symm, fun i hi => (nI_nat _).symm, h15, fun i hi => absurd hi (Nat.not_lt_zero i)⟩
        obtain ⟨m4, l1, l2, l3, l4, l5⟩ := g3 F F _ _ _ (zBeg μ' n) hF (by omega) hP3 ⟨h17, fun i hi => by omega⟩
        refine ⟨m4, ?_, l2, l3, fun j hj => by rw [l4 j hj, zBeg_o (by omega) (by omega) (by omega) (by omega)], fun c h1 h2 => by rw [l5 c h1 h2, zBeg_ne h1]⟩
        unfold fX12_law
        rw [e_in, zBd_s, hz, z_bt, hM.1.1, if_pos ((nI_leI (by omega) (by omega)).mpr ht), e_begins, zBd_s, ← l1]
        obtain ⟨ok2, p2, k2, kd2, vf2, tf2, te2, ft2, -, -, q3⟩ := rule_ex (N := n) (b := aB A) (p := 0) (r := 0) (k := (0, fun _ => 0, fun _ => 0)) hn hW.1.2 (by omega) (by omega) (Nat.le_refl _)
        obtain ⟨m5, q4, -⟩ := q3 F _ _ _ (zBeg μ' n) hF hP3 h17
        rw [q4, zBd_s, zBd_s]
        cases ok2
        · rw [z_bf]; rfl
        · rw [z_bt]; rfl
      cases ok with
      | false =>
        obtain ⟨f1, f2⟩ := b3 rfl
        have e18 : m2 18 = μ 18 := by rw [f2, e0 18 (by decide) (by omega)]
        have e : ∀ c, c ≠ 1 → (c < d ∨ d + 6 < c) → zUp m2 1 1 (nI 0) c = μ c := fun c h1 h3 => by
          rw [zUp_ne h1]
          by_cases h18 : c = 18
          · rw [h18, e18]
          · exact ec c h1 h18 h3
        refine ⟨ft, aST A 0 (aB A), zUp m2 1 1 (nI 0), ?_, hW.tape (by omega) hW.1.2, ?_, fun c hc => e c (by omega) (by omega), fun μ' hM => ?_⟩
        · unfold fX11_law
          rw [e_isWithin, zBd_s, hz, z_bt, e_opens_t hC.1.1 hW.1.1 ht, zBd_s, z_bt, hread, zBd_s, e_empties, zBd_s, z_bf, zUp_o (by decide), f1]
        · have e00 := e 0 (by omega) (by omega)
          refine ⟨⟨zUp_s _ _ _ _, fun j hj => by have hj : j < 0 := hj; omega⟩, hC.2.1.of (fun c h1 h2 => e c (by omega) (by omega)), hC.2.2.1.of (by rw [e00]) (fun c h1 h2 => e c (by omega) (by omega)), ?_, hC.2.2.2.2.of (by rw [e00]) (by rw [e00]) (fun c h1 h2 => e c (by omega) (by omega))⟩
          refine ⟨h, hlw, by rw [e 18 (by decide) (by omega)]; exact c0, by rw [e 18 (by decide) (by omega), ← hd]; exact c1, by rw [e h (by omega) (by omega)]; exact c2, fun r hr => ?_, fun i hi => ?_⟩
          · rw [e (h + 3) (by omega) (by omega), e (h + 4) (by omega) (by omega), e (h + 5) (by omega) (by omega), e (h + 6) (by omega) (by omega)]
            exact c3 r hr
          · rw [e (h + 1) (by omega) (by omega), e (h + 2) (by omega) (by omega)]
            exact c4 i hi
        · obtain ⟨m4, q1, q2, q3, q4, q5⟩ := cM μ' hM
          refine ⟨zUp m4 60 9 (nI 0), ?_, hM.tape ⟨zUp_s _ _ _ _, fun j hj => by omega⟩ (fun j hj => by rw [zUp_o (by omega), q4 j hj]) (fun c hc => by rw [zUp_ne (by omega), q5 c (by omega) (by omega)]), fun c hc => by rw [zUp_ne (by omega), q5 c (by omega) (by omega)]⟩
          rw [q1]
          unfold fX12_law_71
          dsimp only [zLt]
          rw [z_bf, zUp_o (by decide), q3 rfl]
      | true =>
        obtain ⟨r1, r2, r3⟩ := g1 rfl
        obtain ⟨s1, s2, s3, s4⟩ := b2 rfl
        have hwfl : zWFL (r', RK, RV, RT, RE, k'.2.1, k'.2.2, k'.1) := by
          refine ⟨r1, r2, fun i hi => ?_⟩
          obtain ⟨z1, z2, z3, z4⟩ := r3 i hi
          exact ⟨z1, z2, z3.ext (fun _ _ _ => ⟨rfl, rfl⟩), fun hn => (z4 hn).ext (fun _ _ _ => ⟨rfl, rfl⟩)⟩
        have e : ∀ c, c ≠ 1 → c ≠ 18 → (c < d ∨ d + 6 < c) → zUp m2 1 1 (nI 0) c = μ c := fun c h1 h2 h3 => by rw [zUp_ne h1, ec c h1 h2 h3]
        have e00 := e 0 (by omega) (by omega) (by omega)
        refine ⟨nI r', aSL A (r', RK, RV, RT, RE, k'.2.1, k'.2.2, k'.1), zUp m2 1 1 (nI 0), ?_, ⟨⟨by show 0 ≤ 260; omega, hW.1.2⟩, hW.2.1, hW.2.2.1, hwfl, hW.2.2.2.2⟩, ⟨⟨zUp_s _ _ _ _, fun j hj => by have hj : j < 0 := hj; omega⟩, hC.2.1.of (fun c h1 h2 => e c (by omega) (by omega) (by omega)), hC.2.2.1.of (by rw [e00]) (fun c h1 h2 => e c (by omega) (by omega) (by omega)), ⟨d, lw_is hdd, by rw [zUp_ne (by decide)]; exact s3, by rw [zUp_ne (by decide)]; exact s4, by rw [zUp_ne (by omega)]; exact s2.1, fun i hi => ?_, fun i hi => ?_⟩, hC.2.2.2.2.of (by rw [e00]) (by rw [e00]) (fun c h1 h2 => e c (by omega) (by omega) (by omega))⟩, fun c hc => e c (by omega) (by omega) (by omega), fun μ' hM => ?_⟩
        · unfold fX11_law
          rw [e_isWithin, zBd_s, hz, z_bt, e_opens_t hC.1.1 hW.1.1 ht, zBd_s, z_bt, hread, zBd_s, e_empties, zBd_s, z_bt, zUp_ne (show (18 : Nat) ≠ 1 by decide), s3, cl9 (by omega), zGb_t (lw_is hdd), zUp_ne (show d ≠ 1 by omega), s2.1]
        · rw [zUp_ne (show d + 3 ≠ 1 by omega), zUp_ne (show d + 4 ≠ 1 by omega), zUp_ne (show d + 5 ≠ 1 by omega), zUp_ne (show d + 6 ≠ 1 by omega)]
          exact s2.2 i hi
        · rw [zUp_ne (show d + 1 ≠ 1 by omega), zUp_ne (show d + 2 ≠ 1 by omega)]
          exact s1 i hi
        · obtain ⟨m4, q1, q2, q3, q4, q5⟩ := cM μ' hM
          obtain ⟨t1, t2, t3⟩ := q2 rfl
          obtain ⟨m5, u1, u2, u3, u4⟩ := e_law_95 (F := F) (c0 := k'.1) r2 k'.1 0 F (zUp (zUp m4 60 9 (nI 0)) 60 18 (nI r')) (by omega) (by omega) (by rw [zUp_o (by decide), zUp_o (by decide)]; exact t1)
          obtain ⟨m6, w1, w2, w3, w4⟩ := e_law_123 (F := F) r1 r' 0 F m5 (by omega) (by omega) (by rw [u4 60 (by decide), zUp_o (by decide), zUp_o (by decide)]; exact t3.1)
          have e60 : m6 60 = zUp (zUp m4 60 9 (nI 0)) 60 18 (nI r') 60 := by rw [w4 60 (by omega), u4 60 (by decide)]
          have ek : ∀ c, c ≠ 60 → (c < 69 ∨ 79 < c) → m6 c = μ' c := fun c h1 h2 => by rw [w4 c (by omega), u4 c (by omega), zUp_ne h1, zUp_ne h1, q5 c h1 (by omega)]
          have e7 : ∀ c, 71 ≤ c → c ≤ 74 → m5 c = m4 c := fun c h1 h2 => by rw [u4 c (by omega), zUp_ne (by omega), zUp_ne (by omega)]
          refine ⟨m6, ?_, ⟨⟨by rw [e60, zUp_o (by decide), zUp_s]; rfl, fun j hj => by have hj : j < 0 := hj; omega⟩, hM.2.1.of (ek 61 (by decide) (by omega)), hM.2.2.1.of (by rw [e60, zUp_o (by decide), zUp_o (by decide), q4 45 (by omega)]) (ek 63 (by decide) (by omega)), ⟨by rw [e60, zUp_s]; rfl, fun i hi => ?_, fun i hi => ?_⟩, hM.2.2.2.2.of (by rw [e60, zUp_o (by decide), zUp_o (by decide), q4 7 (by omega)]) (ek 64 (by decide) (by omega)) (ek 65 (by decide) (by omega))⟩, fun c hc => ek c (by omega) (by omega)⟩
          · rw [q1]
            unfold fX12_law_71
            dsimp only [zLt]
            rw [z_bt, zUp_o (show (17 : Nat) ≠ 9 by decide), t3.1, u1, w1]
          · have hi : i < r' := hi
            obtain ⟨x1, x2, x3, x4⟩ := w2 i (by omega) hi
            obtain ⟨y1, y2, y3, y4⟩ := t3.2 i hi
            rw [x1, x2, x3, x4, e7 71 (by omega) (by omega), e7 72 (by omega) (by omega), e7 73 (by omega) (by omega), e7 74 (by omega) (by omega)]
            exact ⟨y1, y2, y3, y4⟩
          · have hi : i < k'.1 := hi
            rw [w4 75 (by omega), u2 i (by omega) hi, zUp_ne (by decide), zUp_ne (by decide)]
            exact t2 i hi
    · refine ⟨-1, A, μ, ?_, hW, hC, fun _ _ => rfl, fun μ' hM => ⟨μ', ?_, hM, fun _ _ => rfl⟩⟩
      · unfold fX11_law
        rw [e_isWithin, zBd_s, hz, z_bt, e_opens_f hC.1.1 hW.1.1 (by omega) (by omega), zBd_s, z_bf]
      · unfold fX12_law
        rw [e_in, zBd_s, hz, z_bt, hM.1.1, if_neg (fun z => ht ((nI_leI (by omega) (by omega)).mp z))]
