/-! ===== numbers in a text ===== -/
theorem num_k {N D q : Nat} {b : Nat → Nat} (hN : N ≤ 240) (hb : ∀ j, b j < 256) (hD : D = 4 ∨ D = 5) : ∀ m i v, i + m = D → q + i ≤ N → v < 10 ^ i → ∃ (ok : Bool) (i' v' k : Nat), i ≤ i' ∧ i' ≤ D ∧ q + i' ≤ N ∧ v' < 10 ^ i' ∧ (ok = true → 1 ≤ i') ∧ (yIs N b (q + i) 48 57 = true → 1 ≤ i' ∨ i = D) ∧
    (∀ (F f : Nat) (μ : zMem), m < f → yTC N b (q + i) μ → ∃ m1, fX9_number_4 F f (nI D) (nI v) (nI i) μ = some (if ok then nI v' else -1, m1) ∧ yTC N b (q + i') m1 ∧ (ok = false → m1 1 3 = yFt k (q + i')) ∧ ∀ c, c ≠ 1 → m1 c = μ c) ∧
    (D = 4 → (0 < i ∨ yIs N b (q + i) 48 57 = true) → ∀ (F f w : Nat) (μ : zMem), m < f → w < 16 → yTM N b (q + i) μ → μ 60 13 = nI v → ∃ m1, yTM N b (q + i') m1 ∧ (∀ j, j ≠ 10 → j ≠ 12 → j ≠ 13 → m1 60 j = μ 60 j) ∧ (∀ c, c ≠ 60 → m1 c = μ c) ∧ (ok = true → fX12_readsBreath_27 F f (nI w) (nI q) μ = some (nI 1, zUp m1 61 (48 + w) (nI v'))) ∧ (ok = false → fX12_readsBreath_27 F f (nI w) (nI q) μ = some (nI 0, m1) ∧ m1 60 12 = yFt k (q + i'))) ∧
    (D = 5 → (0 < i ∨ yIs N b (q + i) 48 57 = true) → ∀ (F f : Nat) (μ : zMem), m < f → yTM N b (q + i) μ → μ 60 13 = nI v → ∃ m1, fX12_readsNumber_10 F f (nI q) μ = some (zB ok, m1) ∧ yTM N b (q + i') m1 ∧ m1 60 13 = nI v' ∧ (ok = false → m1 60 12 = yFt k (q + i')) ∧ (∀ j, j ≠ 10 → j ≠ 12 → j ≠ 13 → m1 60 j = μ 60 j) ∧ ∀ c, c ≠ 60 → m1 c = μ c) := by
  intro m
  induction m with
  | zero =>
    intro i v hi hq hv
    have hs : zIn (ySg N b (q + i) - nI 48) 0 9 = yIs N b (q + i) 48 57 := zIn_sgs (hb _) (by decide) (by decide) (by decide)
    cases hl : yIs N b (q + i) 48 57 with
    | true =>
      refine ⟨false, i, v, 2, Nat.le_refl _, by omega, hq, hv, fun h => (by cases h), fun _ => Or.inr (by omega), fun F f μ hf hT => ?_, fun h4 hd F f w μ hf hw hT h13 => ?_, fun h5 hd F f μ hf hT h13 => ?_⟩
      · obtain ⟨f, rfl⟩ := z_s hf
        refine ⟨zUp μ 1 3 (yFt 2 (q + i)), ?_, hT.of (zUp_o (by decide)) (zUp_o (by decide)) (zUp_ne (by decide)), fun _ => zUp_s _ _ _ _, fun c h1 => zUp_ne h1⟩
        rw [fX9_number_4, if_neg (fun z => by have := (nI_ltI (by omega) (by omega)).mp z; omega), e_sign hT (by omega) (by omega), zBd_s, e_isWithin, zBd_s, hs, hl, z_bt, if_pos (by rw [show i = D by omega]), e_fails hT, zBd_s]
        rfl
      · obtain ⟨f, rfl⟩ := z_s hf
        refine ⟨zUp μ 60 12 (yFt 2 (q + i)), hT.of (zUp_o (by decide)) (zUp_o (by decide)) (zUp_ne (by decide)), fun j h1 h2 h3 => zUp_o h2, fun c h1 => zUp_ne h1, fun h => (by cases h), fun _ => ⟨?_, zUp_s _ _ _ _⟩⟩
        rw [fX12_readsBreath_27, e_isDigit hT (by omega) (by omega) (hb _), zBd_s, hl, z_bt, hT.2.1, nI_add, if_pos (by rw [show i = 4 by omega]), e_wrongAt, zBd_s, zGb0]
      · obtain ⟨f, rfl⟩ := z_s hf
        refine ⟨zUp μ 60 12 (yFt 2 (q + i)), ?_, hT.of (zUp_o (by decide)) (zUp_o (by decide)) (zUp_ne (by decide)), by rw [zUp_o (by decide)]; exact h13, fun _ => zUp_s _ _ _ _, fun j h1 h2 h3 => zUp_o h2, fun c h1 => zUp_ne h1⟩
        rw [fX12_readsNumber_10, e_isDigit hT (by omega) (by omega) (hb _), zBd_s, hl, z_bt, hT.2.1, nI_add, if_pos (by rw [show i = 5 by omega]), e_wrongAt, zBd_s, zGb0]
        rfl
    | false =>
      refine ⟨true, i, v, 0, Nat.le_refl _, by omega, hq, hv, fun _ => by omega, fun h => (by cases h), fun F f μ hf hT => ?_, fun h4 hd F f w μ hf hw hT h13 => ?_, fun h5 hd F f μ hf hT h13 => ?_⟩
      · obtain ⟨f, rfl⟩ := z_s hf
        refine ⟨μ, ?_, hT, fun h => (by cases h), fun c h1 => rfl⟩
        rw [fX9_number_4, if_neg (fun z => by have := (nI_ltI (by omega) (by omega)).mp z; omega), e_sign hT (by omega) (by omega), zBd_s, e_isWithin, zBd_s, hs, hl, z_bf, if_neg (nI_ne0 (by omega) (by omega))]
        rfl
      · obtain ⟨f, rfl⟩ := z_s hf
        refine ⟨μ, hT, fun j h1 h2 h3 => rfl, fun c h1 => rfl, fun _ => ?_, fun h => (by cases h)⟩
        rw [fX12_readsBreath_27, e_isDigit hT (by omega) (by omega) (hb _), zBd_s, hl, z_bf, nI_add, zG_in rfl (by omega) (by decide), cl9 (by omega), h13]
        rfl
      · obtain ⟨f, rfl⟩ := z_s hf
        refine ⟨μ, ?_, hT, h13, fun h => (by cases h), fun j h1 h2 h3 => rfl, fun c h1 => rfl⟩
        rw [fX12_readsNumber_10, e_isDigit hT (by omega) (by omega) (hb _), zBd_s, hl, z_bf]
        rfl
  | succ m ih =>
    intro i v hi hq hv
    have hs : zIn (ySg N b (q + i) - nI 48) 0 9 = yIs N b (q + i) 48 57 := zIn_sgs (hb _) (by decide) (by decide) (by decide)
    have hp10 : 10 ^ i ≤ 10 ^ 5 := Nat.pow_le_pow_right (by decide) (by omega)
    cases hl : yIs N b (q + i) 48 57 with
    | true =>
      obtain ⟨hpN, hlo, hhi⟩ := yIs_t hl
      obtain ⟨ok, i', v', k, g1, g2, g3, g4, g5, g6, g7, g8, g9⟩ := ih (i + 1) (10 * v + (b (q + i) - 48)) (by omega) (by omega) (by rw [Nat.pow_succ]; omega)
      have ev : nI 10 * nI v + nI (b (q + i)) - nI 48 = nI (10 * v + (b (q + i) - 48)) := by
        rw [pk_mul, nI_add, pk_sub (by omega)]; congr 1; omega
      refine ⟨ok, i', v', k, by omega, g2, g3, g4, fun _ => by omega, fun _ => Or.inl (by omega), fun F f μ hf hT => ?_, fun h4 hd F f w μ hf hw hT h13 => ?_, fun h5 hd F f μ hf hT h13 => ?_⟩
      · obtain ⟨f, rfl⟩ := z_s hf
        obtain ⟨m1, c1, c2, c3, c4⟩ := g7 F f (zUp μ 1 2 (nI (q + i + 1))) (by omega) (hT.to (zUp_o (by decide)) (by rw [zUp_s]; rfl) (zUp_ne (by decide)))
        refine ⟨m1, ?_, c2, c3, fun c h1 => by rw [c4 c h1, zUp_ne h1]⟩
        rw [fX9_number_4, if_neg (fun z => by have := (nI_ltI (by omega) (by omega)).mp z; omega), e_sign hT (by omega) (by omega), zBd_s, e_isWithin, zBd_s, hs, hl, z_bt, if_neg (fun z => by have := (nI_eq (by omega) (by omega)).mp z; omega), ySg_in hpN, pk_sub (by omega), pk_mul, nI_add, hT.2.1, nI_add, nI_add]
        exact c1
      · obtain ⟨f, rfl⟩ := z_s hf
        obtain ⟨m1, c1, c2, c3, c4, c5⟩ := g8 h4 (Or.inl (by omega)) F f w (zUp (zUp μ 60 13 (nI (10 * v + (b (q + i) - 48)))) 60 10 (nI (q + i + 1))) (by omega) hw (hT.to (by rw [zUp_o (by decide), zUp_o (by decide)]) (by rw [zUp_s]; rfl) (by rw [zUp_ne (by decide), zUp_ne (by decide)])) (by rw [zUp_o (by decide), zUp_s])
        have hstep : fX12_readsBreath_27 F (f + 1) (nI w) (nI q) μ = fX12_readsBreath_27 F f (nI w) (nI q) (zUp (zUp μ 60 13 (nI (10 * v + (b (q + i) - 48)))) 60 10 (nI (q + i + 1))) := by
          rw [fX12_readsBreath_27, e_isDigit hT (by omega) (by omega) (hb _), zBd_s, hl, z_bt, hT.2.1, nI_add, if_neg (fun z => by have := (nI_eq (by omega) (by omega)).mp z; omega), e_here hT (by omega) (by omega), zBd_s, ySg_in hpN, h13, ev]
          dsimp only [zLt]
          rw [zUp_o (show (10 : Nat) ≠ 13 by decide), hT.2.1, nI_add]
        rw [hstep]
        exact ⟨m1, c1, fun j h1 h2 h3 => by rw [c2 j h1 h2 h3, zUp_o h1, zUp_o h3], fun c h1 => by rw [c3 c h1, zUp_ne h1, zUp_ne h1], c4, c5⟩
      · obtain ⟨f, rfl⟩ := z_s hf
        obtain ⟨m1, c1, c2, c3, c4, c5, c6⟩ := g9 h5 (Or.inl (by omega)) F f (zUp (zUp μ 60 13 (nI (10 * v + (b (q + i) - 48)))) 60 10 (nI (q + i + 1))) (by omega) (hT.to (by rw [zUp_o (by decide), zUp_o (by decide)]) (by rw [zUp_s]; rfl) (by rw [zUp_ne (by decide), zUp_ne (by decide)])) (by rw [zUp_o (by decide), zUp_s])
        have hstep : fX12_readsNumber_10 F (f + 1) (nI q) μ = fX12_readsNumber_10 F f (nI q) (zUp (zUp μ 60 13 (nI (10 * v + (b (q + i) - 48)))) 60 10 (nI (q + i + 1))) := by
          rw [fX12_readsNumber_10, e_isDigit hT (by omega) (by omega) (hb _), zBd_s, hl, z_bt, hT.2.1, nI_add, if_neg (fun z => by have := (nI_eq (by omega) (by omega)).mp z; omega), e_here hT (by omega) (by omega), zBd_s, ySg_in hpN, h13, ev]
          dsimp only [zLt]
          rw [zUp_o (show (10 : Nat) ≠ 13 by decide), hT.2.1, nI_add]
        rw [hstep]
        exact ⟨m1, c1, c2, c3, c4, fun j h1 h2 h3 => by rw [c5 j h1 h2 h3, zUp_o h1, zUp_o h3], fun c h1 => by rw [c6 c h1, zUp_ne h1, zUp_ne h1]⟩
    | false =>
      by_cases h0 : i = 0
      · refine ⟨false, i, v, 1, Nat.le_refl _, by omega, hq, hv, fun h => (by cases h), fun h => (by cases h), fun F f μ hf hT => ?_, fun h4 hd => ?_, fun h5 hd => ?_⟩
        · obtain ⟨f, rfl⟩ := z_s hf
          refine ⟨zUp μ 1 3 (yFt 1 (q + i)), ?_, hT.of (zUp_o (by decide)) (zUp_o (by decide)) (zUp_ne (by decide)), fun _ => zUp_s _ _ _ _, fun c h1 => zUp_ne h1⟩
          rw [fX9_number_4, if_neg (fun z => by have := (nI_ltI (by omega) (by omega)).mp z; omega), e_sign hT (by omega) (by omega), zBd_s, e_isWithin, zBd_s, hs, hl, z_bf, if_pos (by rw [h0]; rfl), e_fails hT, zBd_s]
          rfl
        · rcases hd with hd | hd
          · omega
          · cases hd
        · rcases hd with hd | hd
          · omega
          · cases hd
      · refine ⟨true, i, v, 0, Nat.le_refl _, by omega, hq, hv, fun _ => by omega, fun h => (by cases h), fun F f μ hf hT => ?_, fun h4 hd F f w μ hf hw hT h13 => ?_, fun h5 hd F f μ hf hT h13 => ?_⟩
        · obtain ⟨f, rfl⟩ := z_s hf
          refine ⟨μ, ?_, hT, fun h => (by cases h), fun c h1 => rfl⟩
          rw [fX9_number_4, if_neg (fun z => by have := (nI_ltI (by omega) (by omega)).mp z; omega), e_sign hT (by omega) (by omega), zBd_s, e_isWithin, zBd_s, hs, hl, z_bf, if_neg (nI_ne0 (by omega) (by omega))]
          rfl
        · obtain ⟨f, rfl⟩ := z_s hf
          refine ⟨μ, hT, fun j h1 h2 h3 => rfl, fun c h1 => rfl, fun _ => ?_, fun h => (by cases h)⟩
          rw [fX12_readsBreath_27, e_isDigit hT (by omega) (by omega) (hb _), zBd_s, hl, z_bf, nI_add, zG_in rfl (by omega) (by decide), cl9 (by omega), h13]
          rfl
        · obtain ⟨f, rfl⟩ := z_s hf
          refine ⟨μ, ?_, hT, h13, fun h => (by cases h), fun j h1 h2 h3 => rfl, fun c h1 => rfl⟩
          rw [fX12_readsNumber_10, e_isDigit hT (by omega) (by omega) (hb _), zBd_s, hl, z_bf]
          rfl
