/-! ===== a week ===== -/
theorem nI_add3 (x : Int32) (a b : Nat) : x + nI a + nI b = x + nI (a + b) := by rw [Int32.add_assoc, nI_add]
theorem people_k {l : zLS} (hl : zWFL l) {q : Nat} : ∀ m k s, k + m = 16 → zWFS s → q = pw s % 20 → pP s q ≤ k → ∃ (s' : zPS) (d e : Nat), zWFS s' ∧ pT s' = pT s ∧ pw s' = pw s ∧ pP s' q = pP s q + d ∧ d ≤ m ∧ e ≤ m ∧
    (∀ (F h a f : Nat) (μ : zMem), 300 ≤ F → m < f → (h = 3 ∨ h = 13) → (a = 19 ∨ a = 26) → zRepS h s μ → yLw l a μ → ∃ m1, fX10_goesBy_28 F h a f (nI q) (nI k) μ = zBd (fX10_isRead F h a (nI q) m1) (fun r1 m1 => zLt (zUp m1 h 6 ((m1 h 6) + (nI 1))) (fun m3 => zG (nI q) 20 (some ((m3 (h + 3) (nI q).toNatClampNeg), m3)))) ∧ zRepS h s' m1 ∧ m1 33 2 = μ 33 2 + nI e ∧ ∀ c, (c < h ∨ h + 4 < c) → c ≠ 33 → c ≠ 34 → c ≠ 35 → m1 c = μ c) ∧
    ∀ (F f : Nat) (μ : zMem), 300 ≤ F → m < f → zRepN 61 s μ → zLawM l μ → ∃ m1, fX12_weekGoes_24 F f (nI q) (nI k) μ = fX12_weekGoes_53 F F (nI q) (nI 0) (nI 0) m1 ∧ zRepN 61 s' m1 ∧ m1 60 34 = μ 60 34 + nI d ∧ m1 60 35 = μ 60 35 + nI e ∧ (∀ j, j ≠ 34 → j ≠ 35 → m1 60 j = μ 60 j) ∧ ∀ c, c ≠ 60 → c ≠ 61 → c ≠ 80 → c ≠ 81 → m1 c = μ c := by
  intro m
  induction m with
  | zero =>
    intro k s hk hw hq hP
    refine ⟨s, 0, 0, hw, rfl, rfl, rfl, by omega, by omega, fun F h a f μ hF hf hh ha hr hL => ⟨μ, ?_, hr, (Int32.add_zero _).symm, fun _ _ _ _ _ => rfl⟩, fun F f μ hF hf hr hL => ⟨μ, ?_, hr, (Int32.add_zero _).symm, (Int32.add_zero _).symm, fun _ _ _ => rfl, fun _ _ _ _ _ => rfl⟩⟩
    · obtain ⟨f, rfl⟩ := z_s hf
      rw [fX10_goesBy_28, z_done (by omega) (by omega)]
    · obtain ⟨f, rfl⟩ := z_s hf
      rw [fX12_weekGoes_24, z_done (by omega) (by omega)]
  | succ m ih =>
    intro k s hk hw hq hP
    cases ht : (pT s).testBit k with
    | false =>
      obtain ⟨s', d, e, g1, g2, g3, g4, g5, g6, g7, g8⟩ := ih (k + 1) s (by omega) hw hq (by omega)
      refine ⟨s', d, e, g1, g2, g3, g4, by omega, by omega, fun F h a f μ hF hf hh ha hr hL => ?_, fun F f μ hF hf hr hL => ?_⟩
      · obtain ⟨f, rfl⟩ := z_s hf
        rw [fX10_goesBy_28, z_more (by omega) (by decide), e_isTold hr hw, zBd_s, zTold_n (by omega), ht, z_bf, nI_add]
        exact g7 F h a f μ hF (by omega) hh ha hr hL
      · obtain ⟨f, rfl⟩ := z_s hf
        rw [fX12_weekGoes_24, z_more (by omega) (by decide), e_mTold hr, zBd_s, zTold_n (by omega), ht, z_bf, nI_add]
        exact g8 F f μ hF (by omega) hr hL
    | true =>
      obtain ⟨s1, d1, e1, a1, a2, a3, a4, a5, a6, a7, a8⟩ := turn_ex hw hl (p := k) (by omega) hq ht hP
      obtain ⟨s', d, e, g1, g2, g3, g4, g5, g6, g7, g8⟩ := ih (k + 1) s1 (by omega) a1 (by rw [a3]; exact hq) (by omega)
      refine ⟨s', d1 + d, e1 + e, g1, by rw [g2, a2], by rw [g3, a3], by omega, by omega, by omega, fun F h a f μ hF hf hh ha hr hL => ?_, fun F f μ hF hf hr hL => ?_⟩
      · obtain ⟨f, rfl⟩ := z_s hf
        obtain ⟨r, m1, b1, b2, b3, b4⟩ := a7 F h a μ hF hh ha hr hL
        obtain ⟨m2, c1, c2, c3, c4⟩ := g7 F h a f m1 hF (by omega) hh ha b2 (hL.of (fun c h1 h2 => b4 c (by omega) (by omega) (by omega) (by omega)))
        refine ⟨m2, ?_, c2, by rw [c3, b3, nI_add3], fun c h1 h2 h3 h4 => by rw [c4 c h1 h2 h3 h4, b4 c h1 h2 h3 h4]⟩
        rw [fX10_goesBy_28, z_more (by omega) (by decide), e_isTold hr hw, zBd_s, zTold_n (by omega), ht, z_bt, b1, zBd_s, nI_add]
        exact c1
      · obtain ⟨f, rfl⟩ := z_s hf
        obtain ⟨r, m1, b1, b2, b3, b4, b5, b6⟩ := a8 F μ hF hr hL
        obtain ⟨m2, c1, c2, c3, c4, c5, c6⟩ := g8 F f m1 hF (by omega) b2 (hL.of (b5 18 (by decide) (by decide)) (fun c h1 h2 => b6 c (by omega) (by omega) (by omega) (by omega)))
        refine ⟨m2, ?_, c2, by rw [c3, b3, nI_add3], by rw [c4, b4, nI_add3], fun j h1 h2 => by rw [c5 j h1 h2, b5 j h1 h2], fun c h1 h2 h3 h4 => by rw [c6 c h1 h2 h3 h4, b6 c h1 h2 h3 h4]⟩
        rw [fX12_weekGoes_24, z_more (by omega) (by decide), e_mTold hr, zBd_s, zTold_n (by omega), ht, z_bt, b1, zBd_s, nI_add]
        exact c1
theorem read_k {l : zLS} (hl : zWFL l) {q S : Nat} (hS : S < 65536) : ∀ m k s, k + m = 16 → zWFS s → q = pw s % 20 → ∃ (s' : zPS), zWFS s' ∧ pT s' = pT s ∧ pw s' = pw s ∧ pP s' = pP s ∧
    (∀ (F h a f : Nat) (μ : zMem), 300 ≤ F → m < f → (h = 3 ∨ h = 13) → (a = 19 ∨ a = 26) → zRepS h s μ → yLw l a μ → ∃ m1, fX10_isRead_26 F h a f (nI q) (nI S) (zB (!yHas l (lR l) 0)) (nI k) μ = some (nI 0, m1) ∧ zRepS h s' m1 ∧ ∀ c, (c < h ∨ h + 4 < c) → c ≠ 34 → c ≠ 35 → m1 c = μ c) ∧
    ∀ (F f : Nat) (μ : zMem), 300 ≤ F → m < f → zRepN 61 s μ → zLawM l μ → ∃ m1 g, fX12_weekGoes_97 F f (nI S) (nI k) μ = fX12_weekGoes_97 F (g + 1) (nI S) (nI 16) m1 ∧ zRepN 61 s' m1 ∧ ∀ c, c ≠ 61 → c ≠ 80 → c ≠ 81 → m1 c = μ c := by
  intro m
  have hR := hl.1
  induction m with
  | zero =>
    intro k s hk hw hq
    refine ⟨s, hw, rfl, rfl, rfl, fun F h a f μ hF hf hh ha hr hL => ⟨μ, ?_, hr, fun _ _ _ _ => rfl⟩, fun F f μ hF hf hr hL => ⟨μ, f - 1, ?_, hr, fun _ _ _ _ => rfl⟩⟩
    · obtain ⟨f, rfl⟩ := z_s hf
      rw [fX10_isRead_26, z_done (by omega) (by omega)]
    · rw [show f - 1 + 1 = f by omega, show k = 16 by omega]
  | succ m ih =>
    intro k s hk hw hq
    have hq20 : q < 20 := by omega
    have hKk := hw.2.2.2.1 k (by omega)
    cases ht : (pT s).testBit k with
    | false =>
      obtain ⟨s', g1, g2, g3, g4, g7, g8⟩ := ih (k + 1) s (by omega) hw hq
      refine ⟨s', g1, g2, g3, g4, fun F h a f μ hF hf hh ha hr hL => ?_, fun F f μ hF hf hr hL => ?_⟩
      · obtain ⟨f, rfl⟩ := z_s hf
        rw [fX10_isRead_26, z_more (by omega) (by decide), e_isTold hr hw, zBd_s, zTold_n (by omega), ht, z_bf, nI_add]
        exact g7 F h a f μ hF (by omega) hh ha hr hL
      · obtain ⟨f, rfl⟩ := z_s hf
        rw [fX12_weekGoes_97, z_more (by omega) (by decide), e_mTold hr, zBd_s, zTold_n (by omega), ht, z_bf, nI_add]
        exact g8 F f μ hF (by omega) hr hL
    | true =>
      cases hrd : (pR s).testBit k with
      | false =>
        obtain ⟨s', g1, g2, g3, g4, g7, g8⟩ := ih (k + 1) s (by omega) hw hq
        refine ⟨s', g1, g2, g3, g4, fun F h a f μ hF hf hh ha hr hL => ?_, fun F f μ hF hf hr hL => ?_⟩
        · obtain ⟨f, rfl⟩ := z_s hf
          rw [fX10_isRead_26, z_more (by omega) (by decide), e_isTold hr hw, zBd_s, zTold_n (by omega), ht, z_bt, e_isReader hr hw (by omega), zBd_s, hrd, z_bf, nI_add]
          exact g7 F h a f μ hF (by omega) hh ha hr hL
        · obtain ⟨f, rfl⟩ := z_s hf
          rw [fX12_weekGoes_97, z_more (by omega) (by decide), e_mTold hr, zBd_s, zTold_n (by omega), ht, z_bt, nI_add, nI_add, zG_in rfl (by omega) (by decide), cl9 (by omega), hr.2.2.1 k (by omega), hrd, if_pos (by decide)]
          exact g8 F f μ hF (by omega) hr hL
      | true =>
        obtain ⟨b, t1, t2⟩ := any_k (yF0 s k q) hl (lR l) 0 (by omega)
        -- what both see
        have cC : ∀ (F h a : Nat) (μ : zMem), 300 ≤ F → (h = 3 ∨ h = 13) → (a = 19 ∨ a = 26) → zRepS h s μ → yLw l a μ → ∃ (r : Int32) (m0 m1 : zMem), fX10_looksAt F h (nI k) (nI (pP s q)) μ = some (r, m0) ∧ fX10_holdsAny F a m0 = some (zB b, m1) ∧ (∀ c, c ≠ 34 → m0 c = μ c) ∧ ∀ c, c ≠ 34 → c ≠ 35 → m1 c = μ c := by
          intro F h a μ hF hh ha hr hL
          obtain ⟨r0, m0, a1, a2, a3⟩ := e_looksAt (F := F) (q := q) hh hr hw (show k < 16 by omega)
          obtain ⟨m1, b1, b2⟩ := t1 F a F m0 hF (by omega) ha (hL.of (fun c h1 h2 => a3 c (by omega))) a2
          exact ⟨r0, m0, m1, a1, b1, a3, fun c h1 h2 => by rw [b2 c h2, a3 c h1]⟩
        have cM : ∀ (F : Nat) (μ : zMem), 300 ≤ F → zRepN 61 s μ → zLawM l μ → ∃ (r : Int32) (m0 m1 : zMem), fX12_feels F (nI k) (-1 : Int32) μ = some (r, m0) ∧ fX12_holdsAnyOrNone F (nI 114) m0 = some (zB (b || !yHas l (lR l) 0), m1) ∧ ∀ c, c ≠ 80 → c ≠ 81 → m1 c = μ c := by
          intro F μ hF hr hL
          obtain ⟨r0, m0, a1, a2, a3⟩ := e_feels0 (F := F) (q := q) (by omega) hr hw hq (show k < 16 by omega)
          obtain ⟨m1, b1, b2⟩ := t2 F F true m0 hF (by omega) (hL.of (by rw [a3 60 (by decide)]) (fun c h1 h2 => a3 c (by omega))) a2
          rw [Bool.true_and] at b1
          exact ⟨r0, m0, m1, a1, b1, fun c h1 h2 => by rw [b2 c h1, a3 c h2]⟩
        cases heff : (b || !yHas l (lR l) 0) with
        | false =>
          have hb : b = false := by cases b <;> simp_all
          have hh2 : yHas l (lR l) 0 = true := by cases hy : yHas l (lR l) 0 <;> simp_all
          obtain ⟨s', g1, g2, g3, g4, g7, g8⟩ := ih (k + 1) s (by omega) hw hq
          refine ⟨s', g1, g2, g3, g4, fun F h a f μ hF hf hh ha hr hL => ?_, fun F f μ hF hf hr hL => ?_⟩
          · obtain ⟨f, rfl⟩ := z_s hf
            obtain ⟨r, m0, m1, a1, a2, a3, a4⟩ := cC F h a μ hF hh ha hr hL
            obtain ⟨m2, c1, c2, c3⟩ := g7 F h a f m1 hF (by omega) hh ha (hr.of (fun c h1 h2 => a4 c (by omega) (by omega))) (hL.of (fun c h1 h2 => a4 c (by omega) (by omega)))
            refine ⟨m2, ?_, c2, fun c h1 h2 h3 => by rw [c3 c h1 h2 h3, a4 c h2 h3]⟩
            rw [fX10_isRead_26, z_more (by omega) (by decide), e_isTold hr hw, zBd_s, zTold_n (by omega), ht, z_bt, e_isReader hr hw (by omega), zBd_s, hrd, z_bt, zG_in rfl hq20 (by decide), cl9 (by omega), hr.2.2.2.2.2.2.1 q hq20, a1, zBd_s, if_pos (by rw [hh2]; rfl), a2, zBd_s, hb, z_bf, nI_add]
            exact c1
          · obtain ⟨f, rfl⟩ := z_s hf
            obtain ⟨r, m0, m1, a1, a2, a4⟩ := cM F μ hF hr hL
            obtain ⟨m2, g, c1, c2, c3⟩ := g8 F f m1 hF (by omega) (hr.of (a4 61 (by decide) (by decide))) (hL.of (by rw [a4 60 (by decide) (by decide)]) (fun c h1 h2 => a4 c (by omega) (by omega)))
            refine ⟨m2, g, ?_, c2, fun c h1 h2 h3 => by rw [c3 c h1 h2 h3, a4 c h2 h3]⟩
            rw [fX12_weekGoes_97, z_more (by omega) (by decide), e_mTold hr, zBd_s, zTold_n (by omega), ht, z_bt, nI_add, nI_add, zG_in rfl (by omega) (by decide), cl9 (by omega), hr.2.2.1 k (by omega), hrd, if_neg (by decide), a1, zBd_s, a2, heff, zBd_s, z_bf]
            exact c1
        | true =>
          have hw2 : zWFS (sK s k (pK s k ||| S)) := sK_wf hw (Nat.or_lt_two_pow (n := 16) hKk hS)
          obtain ⟨s', g1, g2, g3, g4, g7, g8⟩ := ih (k + 1) (sK s k (pK s k ||| S)) (by omega) hw2 hq
          refine ⟨s', g1, g2, g3, g4, fun F h a f μ hF hf hh ha hr hL => ?_, fun F f μ hF hf hr hL => ?_⟩
          · obtain ⟨f, rfl⟩ := z_s hf
            obtain ⟨r, m0, m1, a1, a2, a3, a4⟩ := cC F h a μ hF hh ha hr hL
            have k77 : ∀ m1 : zMem, (∀ c, c ≠ 34 → c ≠ 35 → m1 c = μ c) → ∃ m2, fX10_isRead_77 F h a (fX10_isRead_26 F h a f) (nI q) (nI S) (zB (!yHas l (lR l) 0)) (nI k) m1 = some (nI 0, m2) ∧ zRepS h s' m2 ∧ ∀ c, (c < h ∨ h + 4 < c) → c ≠ 34 → c ≠ 35 → m2 c = μ c := by
              intro m1 a4
              have hr1 : zRepS h s m1 := hr.of (fun c h1 h2 => a4 c (by omega) (by omega))
              have hr2 := hr1.k k (pK s k ||| S)
              obtain ⟨m2, c1, c2, c3⟩ := g7 F h a f (zUp m1 (h + 1) k (nI (pK s k ||| S))) hF (by omega) hh ha hr2 (hL.of (fun c h1 h2 => by rw [zUp_ne (by omega), a4 c (by omega) (by omega)]))
              refine ⟨m2, ?_, c2, fun c h1 h2 h3 => by rw [c3 c h1 h2 h3, zUp_ne (by omega), a4 c h2 h3]⟩
              unfold fX10_isRead_77
              rw [zG_in rfl (by omega) (by decide), zG_in rfl (by omega) (by decide), cl9 (by omega), hr1.2.2.2.2.1 k (by omega), fa_or, nI_add]
              exact c1
            rw [fX10_isRead_26, z_more (by omega) (by decide), e_isTold hr hw, zBd_s, zTold_n (by omega), ht, z_bt, e_isReader hr hw (by omega), zBd_s, hrd, z_bt, zG_in rfl hq20 (by decide), cl9 (by omega), hr.2.2.2.2.2.2.1 q hq20, a1, zBd_s]
            cases hy : yHas l (lR l) 0 with
            | true =>
              have hb : b = true := by cases b <;> simp_all
              rw [hy] at k77
              rw [if_pos (show zB (!true) = 0 from rfl), a2, zBd_s, hb, z_bt]
              exact k77 m1 a4
            | false =>
              rw [hy] at k77
              rw [if_neg (show ¬ zB (!false) = 0 by decide)]
              exact k77 m0 (fun c h1 _ => a3 c h1)
          · obtain ⟨f, rfl⟩ := z_s hf
            obtain ⟨r, m0, m1, a1, a2, a4⟩ := cM F μ hF hr hL
            have hr1 := hr.of (a4 61 (by decide) (by decide))
            have hr2 := hr1.k (show k < 16 by omega) (pK s k ||| S)
            obtain ⟨m2, g, c1, c2, c3⟩ := g8 F f (zUp m1 61 (16 + k) (nI (pK s k ||| S))) hF (by omega) hr2 (hL.of (by rw [zUp_ne (by decide), a4 60 (by decide) (by decide)]) (fun c h1 h2 => by rw [zUp_ne (by omega), a4 c (by omega) (by omega)]))
            refine ⟨m2, g, ?_, c2, fun c h1 h2 h3 => by rw [c3 c h1 h2 h3, zUp_ne h1, a4 c h2 h3]⟩
            rw [fX12_weekGoes_97, z_more (by omega) (by decide), e_mTold hr, zBd_s, zTold_n (by omega), ht, z_bt, nI_add, nI_add, zG_in rfl (by omega) (by decide), cl9 (by omega), hr.2.2.1 k (by omega), hrd, if_neg (by decide), a1, zBd_s, a2, heff, zBd_s, z_bt, nI_add, zG_in rfl (by omega) (by decide), zG_in rfl (by omega) (by decide), cl9 (by omega), hr1.2.1 k (by omega), fa_or]
            exact c1
theorem e_mSecrets {F q : Nat} {s : zPS} {μ : zMem} (hr : zRepN 61 s μ) (hw : zWFS s) (hq : q < 20) : ∀ m j a f, j + m = pP s q → m < f → fX12_weekGoes_53 F f (nI q) (nI a) (nI j) μ = fX12_weekGoes_97 F F (nI (zFold (fun j a => a ||| 2 ^ (pW s q j / 256)) m j a)) (nI 0) μ := by
  have h16 := hw.2.2.2.2.2.2.1 q hq
  intro m
  induction m with
  | zero =>
    intro j a f hj hf
    obtain ⟨f, rfl⟩ := z_s hf
    rw [fX12_weekGoes_53, nI_add, zG_in rfl (by omega) (by decide), cl9 (by omega), hr.2.2.2.2.1 q hq, z_done (by omega) (by omega)]
    rfl
  | succ m ih =>
    intro j a f hj hf
    obtain ⟨f, rfl⟩ := z_s hf
    have hW := hw.2.2.2.2.2.2.2.1 q j hq (by omega)
    obtain ⟨g0, g1, g2⟩ := hr.2.2.2.2.2.1 q j hq (by omega)
    rw [fX12_weekGoes_53, nI_add, zG_in rfl (by omega) (by decide), cl9 (by omega), hr.2.2.2.2.1 q hq, z_more (by omega) (by omega), pk_mul, nI_add, pk_mul, nI_add, nI_add, zG_in rfl (by omega) (by decide), cl9 (by omega), g2, zq_1shl (by omega), fa_or, nI_add]
    exact ih (j + 1) _ f (by omega) (by omega)
theorem week_ex {s : zPS} {l : zLS} (hw : zWFS s) (hl : zWFL l) (h9 : pw s < 9999) : ∃ (s' : zPS) (n e : Nat), zWFS s' ∧ pT s' = pT s ∧ pw s' = pw s + 1 ∧ n ≤ 16 ∧ e ≤ 16 ∧
    (∀ (F h a : Nat) (μ : zMem), 300 ≤ F → (h = 3 ∨ h = 13) → (a = 19 ∨ a = 26) → zRepS h s μ → yLw l a μ → ∃ m1, fX10_goesBy F h a μ = some (nI n, m1) ∧ zRepS h s' m1 ∧ m1 33 2 = μ 33 2 + nI e ∧ ∀ c, (c < h ∨ h + 4 < c) → c ≠ 33 → c ≠ 34 → c ≠ 35 → m1 c = μ c) ∧
    ∀ (F : Nat) (μ : zMem), 300 ≤ F → zRepN 61 s μ → zLawM l μ → ∃ r m1, fX12_weekGoes F μ = some (r, m1) ∧ zRepN 61 s' m1 ∧ m1 60 34 = μ 60 34 + nI n ∧ m1 60 35 = μ 60 35 + nI e ∧ (∀ j, j ≠ 34 → j ≠ 35 → m1 60 j = μ 60 j) ∧ ∀ c, c ≠ 60 → c ≠ 61 → c ≠ 80 → c ≠ 81 → m1 c = μ c := by
  obtain ⟨q, hq⟩ : ∃ q, q = pw s % 20 := ⟨_, rfl⟩
  have hq20 : q < 20 := by omega
  have hw0 := sP0_wf (q := q) hw
  have hp0 : pP (sP0 s q) q = 0 := uN_s _ _ _
  obtain ⟨s1, d, e, a1, a2, a3, a4, a5, a6, a7, a8⟩ := people_k hl (q := q) 16 0 (sP0 s q) rfl hw0 hq (by omega)
  have hP1 : pP s1 q = d := by omega
  obtain ⟨s2, b1, b2, b3, b4, b7, b8⟩ := read_k hl (q := q) (yMs_lt a1 hq20) 16 0 s1 rfl a1 (by rw [a3]; exact hq)
  have hw2 : pw s2 = pw s := by rw [b3, a3]; rfl
  have hR := hl.1
  refine ⟨sWk s2, d, e, sWk_wf b1 (by omega), by show pT s2 = _; rw [b2, a2]; rfl, by show pw s2 + 1 = _; omega, by omega, by omega, fun F h a μ hF hh ha hr hL => ?_, fun F μ hF hr hL => ?_⟩
  · have hr0 := hr.p0 q
    obtain ⟨m1, c1, c2, c3, c4⟩ := a7 F h a F (zUp μ (h + 3) q (nI 0)) hF (by omega) hh ha hr0 (hL.of (fun c h1 h2 => by rw [zUp_ne (by omega)]))
    have hL1 : yLw l a m1 := hL.of (fun c h1 h2 => by rw [c4 c (by omega) (by omega) (by omega) (by omega), zUp_ne (by omega)])
    obtain ⟨m2, d1, d2, d3⟩ := b7 F h a F m1 hF (by omega) hh ha c2 hL1
    have hP2 : m2 (h + 3) q = nI d := by rw [d2.2.2.2.2.2.2.1 q hq20, b4, hP1]
    refine ⟨zUp m2 h 6 (nI (pw s2 + 1)), ?_, d2.wk, ?_, fun c h1 h2 h3 h4 => ?_⟩
    · unfold fX10_goesBy
      rw [hr.2.2.1, if_pos ((nI_ltI (by omega) (by decide)).mpr h9)]
      have hs := e_slotOf (F := F) (i := 0) hr hw (by omega)
      rw [Nat.sub_zero, ← hq] at hs
      rw [hs, zBd_s, zG_in rfl hq20 (by decide), cl9 (by omega)]
      show fX10_goesBy_28 F h a F (nI q) (nI 0) (zUp μ (h + 3) q (nI 0)) = _
      rw [c1]
      unfold fX10_isRead
      rw [e_secretsIn (by omega) c2 a1 hq20, zBd_s, show fX5_hasKind F a (nI 114) m1 = some (zB (yHas l (lR l) 0), m1) from e_hasKind_2 hl hL1 (lR l) 0 F (by omega) (by omega), zBd_s]
      have er : (if zB (yHas l (lR l) 0) = 0 then fX10_isRead_26 F h a F (nI q) (nI (yMs s1 q)) (nI 1) (nI 0) m1 else fX10_isRead_26 F h a F (nI q) (nI (yMs s1 q)) (nI 0) (nI 0) m1) = some (nI 0, m2) := by
        rw [← d1]
        cases yHas l (lR l) 0
        · rw [z_bf]; rfl
        · rw [z_bt]; rfl
      rw [er, zBd_s, d2.2.2.1, nI_add]
      show zG (nI q) 20 (some (zUp m2 h 6 (nI (pw s2 + 1)) (h + 3) (nI q).toNatClampNeg, zUp m2 h 6 (nI (pw s2 + 1)))) = _
      rw [zG_in rfl hq20 (by decide), cl9 (by omega), zUp_ne (by omega), hP2]
    · rw [zUp_ne (by omega), d3 33 (by omega) (by decide) (by decide), c3, zUp_ne (by omega)]
    · rw [zUp_ne (by omega), d3 c h1 h3 h4, c4 c h1 h2 h3 h4, zUp_ne (by omega)]
  · have hr0 := hr.p0 hq20
    obtain ⟨m1, c1, c2, c3, c4, c5, c6⟩ := a8 F F (zUp μ 61 (64 + q) (nI 0)) hF (by omega) hr0 (hL.of (by rw [zUp_ne (by decide)]) (fun c h1 h2 => by rw [zUp_ne (by omega)]))
    have hL1 : zLawM l m1 := hL.of (by rw [c5 18 (by decide) (by decide), zUp_ne (by decide)]) (fun c h1 h2 => by rw [c6 c (by omega) (by omega) (by omega) (by omega), zUp_ne (by omega)])
    obtain ⟨m2, g, d1, d2, d3⟩ := b8 F F m1 hF (by omega) c2 hL1
    refine ⟨nI 0, zUp (zUp m2 61 1044 (nI (pw s2 + 1))) 61 1045 (nI (pw s2 + 1)), ?_, d2.wk b1, ?_, ?_, fun j h1 h2 => ?_, fun c h1 h2 h3 h4 => ?_⟩
    · have hpw := hw.2.2.2.2.2.2.2.2.1
      unfold fX12_weekGoes
      rw [zG_in rfl (by decide) (by decide), zGz_in (by decide), cl9 (by decide), hr.2.2.2.2.2.2.1, nI_mod (by omega) (by decide) (by decide), ← hq, nI_add, zG_in rfl (by omega) (by decide), cl9 (by omega)]
      show fX12_weekGoes_24 F F (nI q) (nI 0) (zUp μ 61 (64 + q) (nI 0)) = _
      rw [c1, e_mSecrets c2 a1 hq20 (pP s1 q) 0 0 F (by omega) (by omega)]
      show fX12_weekGoes_97 F F (nI (yMs s1 q)) (nI 0) m1 = _
      rw [d1, fX12_weekGoes_97, z_done (by omega) (by decide), zG_in rfl (by decide) (by decide), zG_in rfl (by decide) (by decide), cl9 (by decide), d2.2.2.2.2.2.2.1, nI_add]
      show zG (nI 1045) 1047 (zG (nI 1045) 1047 (some (nI 0, zUp (zUp m2 61 1044 (nI (pw s2 + 1))) 61 (nI 1045).toNatClampNeg (zUp m2 61 1044 (nI (pw s2 + 1)) 61 (nI 1045).toNatClampNeg + nI 1)))) = _
      rw [zG_in rfl (by decide) (by decide), zG_in rfl (by decide) (by decide), cl9 (by decide), zUp_o (by decide), d2.2.2.2.2.2.2.2.1, nI_add]
    · rw [zUp_ne (by decide), zUp_ne (by decide), d3 60 (by decide) (by decide) (by decide), c3, zUp_ne (by decide)]
    · rw [zUp_ne (by decide), zUp_ne (by decide), d3 60 (by decide) (by decide) (by decide), c4, zUp_ne (by decide)]
    · rw [zUp_ne (by decide), zUp_ne (by decide), d3 60 (by decide) (by decide) (by decide), c5 j h1 h2, zUp_ne (by decide)]
    · rw [zUp_ne h2, zUp_ne h2, d3 c h2 h3 h4, c6 c h1 h2 h3 h4, zUp_ne h2]
