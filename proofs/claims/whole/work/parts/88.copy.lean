/-! ===== copy ===== -/
def yDC (h w : Nat) (L U : Nat → Nat) (μ : zMem) : Prop := μ h 2 = nI w ∧ (∀ i, i < w → μ (h + 1) i = nI (L i)) ∧ ∀ i, i < 26 → μ (h + 2) i = nI (U i)
def yDM (w : Nat) (L U : Nat → Nat) (μ : zMem) : Prop := μ 60 33 = nI w ∧ (∀ i, i < w → μ 66 i = nI (L i)) ∧ ∀ i, i < 26 → μ 67 i = nI (U i)
theorem letters_k {N t first : Nat} {b : Nat → Nat} (hN : N ≤ 200) (hb : ∀ j, b j < 256) : ∀ m len (U : Nat → Nat), len + m = 12 → first + len ≤ N → ∃ (ok : Bool) (len' k : Nat) (U' : Nat → Nat), len ≤ len' ∧ len' ≤ 12 ∧ first + len' ≤ N ∧ (ok = true → 1 ≤ len') ∧ fb_sm U' 26 = fb_sm U 26 + t * (len' - len) ∧
    (∀ (F h f w : Nat) (L : Nat → Nat) (μ : zMem), m < f → (h = 40 ∨ h = 43) → yTC N b (first + len) μ → yDC h w L U μ → ∃ m1, fX1_readsLetters_2 F h f (nI t) (nI len) μ = some (if ok then nI len' else -1, m1) ∧ yTC N b (first + len') m1 ∧ yDC h w L U' m1 ∧ (ok = false → m1 1 3 = yFt k (first + len')) ∧ ∀ c, c ≠ 1 → c ≠ h + 2 → m1 c = μ c) ∧
    ∀ (F f w p0 : Nat) (L : Nat → Nat) (μ : zMem), m < f → yTM N b (first + len) μ → yDM w L U μ → ∃ m1, yTM N b (first + len') m1 ∧ yDM w L U' m1 ∧ (∀ j, j ≠ 10 → j ≠ 12 → m1 60 j = μ 60 j) ∧ (∀ c, c ≠ 60 → c ≠ 67 → m1 c = μ c) ∧ (ok = true → fX12_readsWord_44 F f (nI p0) (nI t) (nI first) μ = if ((m1 60 33) + nI t) ≤ (nI 60) then fX12_readsWord_157 F F (nI t) (nI first) (nI 0) m1 else some (nI 0, zUp m1 60 12 (yFt 4 p0))) ∧ (ok = false → fX12_readsWord_44 F f (nI p0) (nI t) (nI first) μ = some (nI 0, m1) ∧ m1 60 12 = yFt k (first + len')) := by
  intro m
  induction m with
  | zero =>
    intro len U hm hp
    have hs : zIn (ySg N b (first + len) - nI 97) 0 25 = yIs N b (first + len) 97 122 := zIn_sgs (hb _) (by decide) (by decide) (by decide)
    have hs2 : zIn (ySg N b (first + len)) 97 122 = yIs N b (first + len) 97 122 := zIn_sg (hb _) (by decide) (by decide)
    cases hl : yIs N b (first + len) 97 122 with
    | true =>
      refine ⟨false, len, 2, U, Nat.le_refl _, by omega, hp, fun h => (by cases h), by rw [Nat.sub_self, Nat.mul_zero, Nat.add_zero], fun F h f w L μ hf hh hT hD => ?_, fun F f w p0 L μ hf hT hD => ?_⟩
      · obtain ⟨f, rfl⟩ := z_s hf
        refine ⟨zUp μ 1 3 (yFt 2 (first + len)), ?_, hT.of (zUp_o (by decide)) (zUp_o (by decide)) (zUp_ne (by decide)), ?_, fun _ => zUp_s _ _ _ _, fun c h1 h2 => zUp_ne h1⟩
        · rw [fX1_readsLetters_2, if_neg (fun z => by have := (nI_ltI (by decide) (by omega)).mp z; omega), e_sign hT (by omega) (by omega), zBd_s, e_isLetter, zBd_s, hs, hl, z_bt, if_pos (by rw [show len = 12 by omega]), e_fails hT, zBd_s]
          rfl
        · exact ⟨by rw [zUp_ne (by omega)]; exact hD.1, fun i hi => by rw [zUp_ne (by omega)]; exact hD.2.1 i hi, fun i hi => by rw [zUp_ne (by omega)]; exact hD.2.2 i hi⟩
      · obtain ⟨f, rfl⟩ := z_s hf
        refine ⟨zUp μ 60 12 (yFt 2 (first + len)), hT.of (zUp_o (by decide)) (zUp_o (by decide)) (zUp_ne (by decide)), ?_, fun j h1 h2 => zUp_o h2, fun c h1 h2 => zUp_ne h1, fun h => (by cases h), fun _ => ⟨?_, zUp_s _ _ _ _⟩⟩
        · exact ⟨by rw [zUp_o (by decide)]; exact hD.1, fun i hi => by rw [zUp_ne (by omega)]; exact hD.2.1 i hi, fun i hi => by rw [zUp_ne (by omega)]; exact hD.2.2 i hi⟩
        · rw [fX12_readsWord_44, e_here hT (by omega) (by omega), zBd_s, e_in, zBd_s, hs2, hl, z_bt, hT.2.1, nI_add, if_pos (by rw [show len = 12 by omega]), e_wrongAt, zBd_s, zGb0]
    | false =>
      refine ⟨true, len, 0, U, Nat.le_refl _, by omega, hp, fun _ => by omega, by rw [Nat.sub_self, Nat.mul_zero, Nat.add_zero], fun F h f w L μ hf hh hT hD => ?_, fun F f w p0 L μ hf hT hD => ?_⟩
      · obtain ⟨f, rfl⟩ := z_s hf
        refine ⟨μ, ?_, hT, hD, fun h => (by cases h), fun c h1 h2 => rfl⟩
        rw [fX1_readsLetters_2, if_neg (fun z => by have := (nI_ltI (by decide) (by omega)).mp z; omega), e_sign hT (by omega) (by omega), zBd_s, e_isLetter, zBd_s, hs, hl, z_bf, if_neg (nI_nle (by omega) (by omega))]
        rfl
      · obtain ⟨f, rfl⟩ := z_s hf
        refine ⟨μ, hT, hD, fun j h1 h2 => rfl, fun c h1 h2 => rfl, fun _ => ?_, fun h => (by cases h)⟩
        rw [fX12_readsWord_44, e_here hT (by omega) (by omega), zBd_s, e_in, zBd_s, hs2, hl, z_bf, hT.2.1, if_neg (fun z => by have := (nI_eq (by omega) (by omega)).mp z; omega), e_wrongAt, zBd_s, zGb0]
  | succ m ih =>
    intro len U hm hp
    have hs : zIn (ySg N b (first + len) - nI 97) 0 25 = yIs N b (first + len) 97 122 := zIn_sgs (hb _) (by decide) (by decide) (by decide)
    have hs2 : zIn (ySg N b (first + len)) 97 122 = yIs N b (first + len) 97 122 := zIn_sg (hb _) (by decide) (by decide)
    cases hl : yIs N b (first + len) 97 122 with
    | true =>
      obtain ⟨hpN, hlo, hhi⟩ := yIs_t hl
      obtain ⟨ok, len', k, U', g1, g2, g3, g4, g5, g6, g7⟩ := ih (len + 1) (uN U (b (first + len) - 97) (U (b (first + len) - 97) + t)) (by omega) (by omega)
      have hsm : fb_sm (uN U (b (first + len) - 97) (U (b (first + len) - 97) + t)) 26 = fb_sm U 26 + t := by
        have := fb_sm_upd U (U (b (first + len) - 97) + t) (i := b (first + len) - 97) (n := 26) (by omega)
        have e : fb_sm (uN U (b (first + len) - 97) (U (b (first + len) - 97) + t)) 26 = fb_sm (fun k => if k = b (first + len) - 97 then U (b (first + len) - 97) + t else U k) 26 := rfl
        omega
      refine ⟨ok, len', k, U', by omega, g2, g3, g4, ?_, fun F h f w L μ hf hh hT hD => ?_, fun F f w p0 L μ hf hT hD => ?_⟩
      · rw [g5, hsm, show len' - len = (len' - (len + 1)) + 1 by omega, Nat.mul_add, Nat.mul_one]; omega
      · obtain ⟨f, rfl⟩ := z_s hf
        have hT1 : yTC N b (first + (len + 1)) (zUp (zUp μ (h + 2) (b (first + len) - 97) (nI (U (b (first + len) - 97) + t))) 1 2 (nI (first + len + 1))) := hT.to (by rw [zUp_o (by decide), zUp_ne (by omega)]) (by rw [zUp_s]; rfl) (by rw [zUp_ne (by omega), zUp_ne (by omega)])
        have hD1 : yDC h w L (uN U (b (first + len) - 97) (U (b (first + len) - 97) + t)) (zUp (zUp μ (h + 2) (b (first + len) - 97) (nI (U (b (first + len) - 97) + t))) 1 2 (nI (first + len + 1))) := by
          refine ⟨by rw [zUp_ne (by omega), zUp_ne (by omega)]; exact hD.1, fun i hi => by rw [zUp_ne (by omega), zUp_ne (by omega)]; exact hD.2.1 i hi, fun i hi => ?_⟩
          rw [zUp_ne (by omega)]
          by_cases e : i = b (first + len) - 97
          · rw [e, zUp_s, uN_s]
          · rw [zUp_o e, uN_o e]; exact hD.2.2 i hi
        obtain ⟨m1, c1, c2, c3, c4, c5⟩ := g6 F h f w L _ (by omega) hh hT1 hD1
        refine ⟨m1, ?_, c2, c3, c4, fun c h1 h2 => by rw [c5 c h1 h2, zUp_ne h1, zUp_ne h2]⟩
        rw [fX1_readsLetters_2, if_neg (fun z => by have := (nI_ltI (by decide) (by omega)).mp z; omega), e_sign hT (by omega) (by omega), zBd_s, e_isLetter, zBd_s, hs, hl, z_bt, if_neg (fun z => by have := (nI_eq (by omega) (by decide)).mp z; omega), ySg_in hpN, pk_sub hlo, zG_in rfl (by omega) (by decide), zG_in rfl (by omega) (by decide), cl9 (by omega), hD.2.2 _ (by omega), nI_add]
        dsimp only [zLt]
        rw [zUp_ne (show (1 : Nat) ≠ h + 2 by omega), hT.2.1, nI_add, nI_add]
        exact c1
      · obtain ⟨f, rfl⟩ := z_s hf
        have hT1 : yTM N b (first + (len + 1)) (zUp (zUp μ 67 (b (first + len) - 97) (nI (U (b (first + len) - 97) + t))) 60 10 (nI (first + len + 1))) := hT.to (by rw [zUp_o (by decide), zUp_ne (by omega)]) (by rw [zUp_s]; rfl) (by rw [zUp_ne (by omega), zUp_ne (by omega)])
        have hD1 : yDM w L (uN U (b (first + len) - 97) (U (b (first + len) - 97) + t)) (zUp (zUp μ 67 (b (first + len) - 97) (nI (U (b (first + len) - 97) + t))) 60 10 (nI (first + len + 1))) := by
          refine ⟨by rw [zUp_o (by omega), zUp_ne (by omega)]; exact hD.1, fun i hi => by rw [zUp_ne (by omega), zUp_ne (by omega)]; exact hD.2.1 i hi, fun i hi => ?_⟩
          rw [zUp_ne (by omega)]
          by_cases e : i = b (first + len) - 97
          · rw [e, zUp_s, uN_s]
          · rw [zUp_o e, uN_o e]; exact hD.2.2 i hi
        obtain ⟨m1, c1, c2, c3, c4, c5, c6⟩ := g7 F f w p0 L _ (by omega) hT1 hD1
        have hstep : fX12_readsWord_44 F (f + 1) (nI p0) (nI t) (nI first) μ = fX12_readsWord_44 F f (nI p0) (nI t) (nI first) (zUp (zUp μ 67 (b (first + len) - 97) (nI (U (b (first + len) - 97) + t))) 60 10 (nI (first + len + 1))) := by
          rw [fX12_readsWord_44, e_here hT (by omega) (by omega), zBd_s, e_in, zBd_s, hs2, hl, z_bt, hT.2.1, nI_add, if_neg (fun z => by have := (nI_eq (by omega) (by omega)).mp z; omega), e_here hT (by omega) (by omega), zBd_s, e_here hT (by omega) (by omega), zBd_s, ySg_in hpN, pk_sub hlo, zG_in rfl (by omega) (by decide), zG_in rfl (by omega) (by decide), cl9 (by omega), hD.2.2 _ (by omega), nI_add]
          dsimp only [zLt]
          rw [zUp_ne (show (60 : Nat) ≠ 67 by decide), hT.2.1, nI_add]
        rw [hstep]
        exact ⟨m1, c1, c2, fun j h1 h2 => by rw [c3 j h1 h2, zUp_o h1, zUp_ne (by decide)], fun c h1 h2 => by rw [c4 c h1 h2, zUp_ne h1, zUp_ne h2], c5, c6⟩
    | false =>
      by_cases h0 : len = 0
      · refine ⟨false, len, 1, U, Nat.le_refl _, by omega, hp, fun h => (by cases h), by rw [Nat.sub_self, Nat.mul_zero, Nat.add_zero], fun F h f w L μ hf hh hT hD => ?_, fun F f w p0 L μ hf hT hD => ?_⟩
        · obtain ⟨f, rfl⟩ := z_s hf
          refine ⟨zUp μ 1 3 (yFt 1 (first + len)), ?_, hT.of (zUp_o (by decide)) (zUp_o (by decide)) (zUp_ne (by decide)), ?_, fun _ => zUp_s _ _ _ _, fun c h1 h2 => zUp_ne h1⟩
          · rw [fX1_readsLetters_2, if_neg (fun z => by have := (nI_ltI (by decide) (by omega)).mp z; omega), e_sign hT (by omega) (by omega), zBd_s, e_isLetter, zBd_s, hs, hl, z_bf, if_pos (by rw [h0]; decide), e_fails hT, zBd_s]
            rfl
          · exact ⟨by rw [zUp_ne (by omega)]; exact hD.1, fun i hi => by rw [zUp_ne (by omega)]; exact hD.2.1 i hi, fun i hi => by rw [zUp_ne (by omega)]; exact hD.2.2 i hi⟩
        · obtain ⟨f, rfl⟩ := z_s hf
          refine ⟨zUp μ 60 12 (yFt 1 (first + len)), hT.of (zUp_o (by decide)) (zUp_o (by decide)) (zUp_ne (by decide)), ?_, fun j h1 h2 => zUp_o h2, fun c h1 h2 => zUp_ne h1, fun h => (by cases h), fun _ => ⟨?_, zUp_s _ _ _ _⟩⟩
          · exact ⟨by rw [zUp_o (by decide)]; exact hD.1, fun i hi => by rw [zUp_ne (by omega)]; exact hD.2.1 i hi, fun i hi => by rw [zUp_ne (by omega)]; exact hD.2.2 i hi⟩
          · rw [fX12_readsWord_44, e_here hT (by omega) (by omega), zBd_s, e_in, zBd_s, hs2, hl, z_bf, hT.2.1, if_pos (by rw [h0]; rfl), e_wrongAt, zBd_s, zGb0]
      · refine ⟨true, len, 0, U, Nat.le_refl _, by omega, hp, fun _ => by omega, by rw [Nat.sub_self, Nat.mul_zero, Nat.add_zero], fun F h f w L μ hf hh hT hD => ?_, fun F f w p0 L μ hf hT hD => ?_⟩
        · obtain ⟨f, rfl⟩ := z_s hf
          refine ⟨μ, ?_, hT, hD, fun h => (by cases h), fun c h1 h2 => rfl⟩
          rw [fX1_readsLetters_2, if_neg (fun z => by have := (nI_ltI (by decide) (by omega)).mp z; omega), e_sign hT (by omega) (by omega), zBd_s, e_isLetter, zBd_s, hs, hl, z_bf, if_neg (nI_nle (by omega) (by omega))]
          rfl
        · obtain ⟨f, rfl⟩ := z_s hf
          refine ⟨μ, hT, hD, fun j h1 h2 => rfl, fun c h1 h2 => rfl, fun _ => ?_, fun h => (by cases h)⟩
          rw [fX12_readsWord_44, e_here hT (by omega) (by omega), zBd_s, e_in, zBd_s, hs2, hl, z_bf, hT.2.1, if_neg (fun z => by have := (nI_eq (by omega) (by omega)).mp z; omega), e_wrongAt, zBd_s, zGb0]
def yLx (L : Nat → Nat) (w len : Nat) : Nat → Nat := fun i => if i < w then L i else len
theorem add_C {F h w t len : Nat} {L U : Nat → Nat} (hh : h = 40 ∨ h = 43) (hwt : w + t ≤ 60) : ∀ m i f (μ : zMem), i + m = t → m < f → yDC h (w + i) (yLx L w len) U μ → ∃ m1, fX1_readsWord_75 F h f (nI t) (nI len) (nI i) μ = some (nI 1, m1) ∧ yDC h (w + t) (yLx L w len) U m1 ∧ ∀ c, c ≠ h → c ≠ h + 1 → m1 c = μ c := by
  intro m
  induction m with
  | zero =>
    intro i f μ hi hf hD
    obtain ⟨f, rfl⟩ := z_s hf
    refine ⟨μ, ?_, by rw [show t = i by omega]; exact hD, fun c h1 h2 => rfl⟩
    rw [fX1_readsWord_75, z_done (by omega) (by omega)]
  | succ m ih =>
    intro i f μ hi hf hD
    obtain ⟨f, rfl⟩ := z_s hf
    obtain ⟨m1, c1, c2, c3⟩ := ih (i + 1) f (zUp (zUp μ (h + 1) (w + i) (nI len)) h 2 (nI (w + i + 1))) (by omega) (by omega) (by
      refine ⟨by rw [zUp_s]; rfl, fun j hj => ?_, fun j hj => by rw [zUp_ne (by omega), zUp_ne (by omega)]; exact hD.2.2 j hj⟩
      rw [zUp_ne (by omega)]
      by_cases e : j = w + i
      · rw [e, zUp_s]; unfold yLx; rw [if_neg (by omega)]
      · rw [zUp_o e]; exact hD.2.1 j (by omega))
    refine ⟨m1, ?_, c2, fun c h1 h2 => by rw [c3 c h1 h2, zUp_ne h1, zUp_ne h2]⟩
    rw [fX1_readsWord_75, z_more (by omega) (by omega), hD.1, zG_in rfl (by omega) (by decide), cl9 (by omega)]
    dsimp only [zLt]
    rw [zUp_ne (show h ≠ h + 1 by omega), hD.1, nI_add, nI_add]
    exact c1
theorem add_M {F N w t len first : Nat} {b L U : Nat → Nat} (hN : N ≤ 200) (hfl : first + len ≤ N) (hwt : w + t ≤ 60) : ∀ m i f (μ : zMem), i + m = t → m < f → yTM N b (first + len) μ → μ 60 33 = nI w → (∀ j, j < w + i → μ 66 j = nI (yLx L w len j)) → (∀ j, j < 26 → μ 67 j = nI (U j)) → ∃ m1, fX12_readsWord_157 F f (nI t) (nI first) (nI i) μ = some (nI 1, m1) ∧ yDM (w + t) (yLx L w len) U m1 ∧ (∀ j, j ≠ 33 → m1 60 j = μ 60 j) ∧ ∀ c, c ≠ 60 → c ≠ 66 → m1 c = μ c := by
  intro m
  induction m with
  | zero =>
    intro i f μ hi hf hT h33 h66 h67
    obtain ⟨f, rfl⟩ := z_s hf
    refine ⟨zUp μ 60 33 (nI (w + t)), ?_, ⟨by rw [zUp_s], fun j hj => by rw [zUp_ne (by decide)]; exact h66 j (by omega), fun j hj => by rw [zUp_ne (by decide)]; exact h67 j hj⟩, fun j hj => zUp_o hj, fun c h1 h2 => zUp_ne h1⟩
    rw [fX12_readsWord_157, z_done (by omega) (by omega), h33, nI_add]
    rfl
  | succ m ih =>
    intro i f μ hi hf hT h33 h66 h67
    obtain ⟨f, rfl⟩ := z_s hf
    obtain ⟨m1, c1, c2, c3, c4⟩ := ih (i + 1) f (zUp μ 66 (w + i) (nI len)) (by omega) (by omega) (hT.of (by rw [zUp_ne (by decide)]) (by rw [zUp_ne (by decide)]) (by rw [zUp_ne (by decide)])) (by rw [zUp_ne (by decide)]; exact h33) (fun j hj => by
      by_cases e : j = w + i
      · rw [e, zUp_s]; unfold yLx; rw [if_neg (by omega)]
      · rw [zUp_o e]; exact h66 j (by omega)) (fun j hj => by rw [zUp_ne (by decide)]; exact h67 j hj)
    refine ⟨m1, ?_, c2, fun j hj => by rw [c3 j hj, zUp_ne (by decide)], fun c h1 h2 => by rw [c4 c h1 h2, zUp_ne h2]⟩
    rw [fX12_readsWord_157, z_more (by omega) (by omega), h33, hT.2.1, nI_add, zG_in rfl (by omega) (by decide), cl9 (by omega), pk_sub (by omega), show first + len - first = len by omega, nI_add]
    exact c1
theorem yLx_sm (L : Nat → Nat) (w t len : Nat) : fb_sm (yLx L w len) (w + t) = fb_sm L w + t * len := by
  rw [fb_sm_split, fb_sm_cong (f := yLx L w len) (g := L) (n := w) (fun k hk => if_pos hk), fb_sm_cong (f := fun k => yLx L w len (w + k)) (g := fun _ => len) (n := t) (fun k hk => if_neg (by omega)), fb_sm_const]
theorem word_ex {N : Nat} {b : Nat → Nat} (hN : N ≤ 200) (hb : ∀ j, b j < 256) {p w : Nat} {L U : Nat → Nat} (hp : p ≤ N) (hw : w ≤ 60) : ∃ (ok : Bool) (p' w' : Nat) (L' U' : Nat → Nat) (ft : Int32), (ok = true → p < p' ∧ p' ≤ N ∧ w < w' ∧ w' ≤ 60 ∧ (∀ i, i < w → L' i = L i) ∧ (∀ i, w ≤ i → i < w' → 1 ≤ L' i ∧ L' i ≤ 12) ∧ fb_sm L' w' + fb_sm U 26 = fb_sm L w + fb_sm U' 26) ∧
    (∀ (F h : Nat) (μ : zMem), 20 ≤ F → (h = 40 ∨ h = 43) → yTC N b p μ → yDC h w L U μ → ∃ m1, fX1_readsWord F h μ = some (zB ok, m1) ∧ (ok = true → yTC N b p' m1 ∧ yDC h w' L' U' m1) ∧ (ok = false → m1 1 3 = ft) ∧ ∀ c, c ≠ 1 → c ≠ h → c ≠ h + 1 → c ≠ h + 2 → m1 c = μ c) ∧
    ∀ (F : Nat) (μ : zMem), 20 ≤ F → yTM N b p μ → yDM w L U μ → ∃ m1, fX12_readsWord F μ = some (zB ok, m1) ∧ (ok = true → yTM N b p' m1 ∧ yDM w' L' U' m1) ∧ (ok = false → m1 60 12 = ft) ∧ (∀ j, j ≠ 10 → j ≠ 12 → j ≠ 33 → m1 60 j = μ 60 j) ∧ ∀ c, c ≠ 60 → c ≠ 66 → c ≠ 67 → m1 c = μ c := by
  have hs : zIn (ySg N b p - nI 48) 2 9 = yIs N b p 50 57 := zIn_sgs (hb _) (by decide) (by decide) (by decide)
  have hs2 : zIn (ySg N b p) 50 57 = yIs N b p 50 57 := zIn_sg (hb _) (by decide) (by decide)
  -- the digit ahead
  have key : ∃ t first, 1 ≤ t ∧ t ≤ 9 ∧ p ≤ first ∧ first ≤ N ∧ (∀ (F h : Nat) (μ : zMem), (h = 40 ∨ h = 43) → yTC N b p μ → ∃ m1, fX1_readsWord F h μ = fX1_readsWord_38 F h (nI p) (nI t) m1 ∧ yTC N b first m1 ∧ ∀ c, c ≠ 1 → m1 c = μ c) ∧ ∀ (F : Nat) (μ : zMem), yTM N b p μ → ∃ m1, fX12_readsWord F μ = fX12_readsWord_44 F F (nI p) (nI t) (nI first) m1 ∧ yTM N b first m1 ∧ (∀ j, j ≠ 10 → m1 60 j = μ 60 j) ∧ ∀ c, c ≠ 60 → m1 c = μ c := by
    cases hd : yIs N b p 50 57 with
    | false =>
      refine ⟨1, p, by omega, by omega, by omega, hp, fun F h μ hh hT => ⟨μ, ?_, hT, fun _ _ => rfl⟩, fun F μ hT => ⟨μ, ?_, hT, fun _ _ => rfl, fun _ _ => rfl⟩⟩
      · unfold fX1_readsWord
        rw [e_sign hT (by omega) (by omega), zBd_s, e_isWithin, zBd_s, hs, hd, z_bf, hT.2.1]
      · unfold fX12_readsWord
        rw [e_here hT (by omega) (by omega), zBd_s, e_in, zBd_s, hs2, hd, z_bf, hT.2.1]
    | true =>
      obtain ⟨h1, h2, h3⟩ := yIs_t hd
      refine ⟨b p - 48, p + 1, by omega, by omega, by omega, by omega, fun F h μ hh hT => ⟨zUp μ 1 2 (nI (p + 1)), ?_, hT.to (zUp_o (by decide)) (zUp_s _ _ _ _) (zUp_ne (by decide)), fun c hc => zUp_ne hc⟩, fun F μ hT => ⟨zUp μ 60 10 (nI (p + 1)), ?_, hT.to (zUp_o (by decide)) (zUp_s _ _ _ _) (zUp_ne (by decide)), fun j hj => zUp_o hj, fun c hc => zUp_ne hc⟩⟩
      · unfold fX1_readsWord
        rw [e_sign hT (by omega) (by omega), zBd_s, e_isWithin, zBd_s, hs, hd, z_bt, hT.2.1, ySg_in h1, pk_sub (by omega), nI_add]
        rfl
      · unfold fX12_readsWord
        rw [e_here hT (by omega) (by omega), zBd_s, e_in, zBd_s, hs2, hd, z_bt, e_here hT (by omega) (by omega), zBd_s, hT.2.1, ySg_in h1, pk_sub (by omega), nI_add]
        dsimp only [zLt]
        rw [zUp_s]
  obtain ⟨t, first, ht1, ht9, hf1, hf2, k1, k2⟩ := key
  obtain ⟨ok, len, k, U', g1, g2, g3, g4, g5, g6, g7⟩ := letters_k (t := t) (first := first) hN hb 12 0 U rfl (by omega)
  rw [Nat.sub_zero] at g5
  have hm1 : ¬ nI len = (-1 : Int32) := nI_m1 (by omega)
  cases ok with
  | false =>
    refine ⟨false, 0, 0, L, U, yFt k (first + len), fun h => (by cases h), fun F h μ hF hh hT hD => ?_, fun F μ hF hT hD => ?_⟩
    · obtain ⟨m0, a1, a2, a3⟩ := k1 F h μ hh hT
      obtain ⟨m1, b1, b2, b3, b4, b5⟩ := g6 F h F w L m0 (by omega) hh a2 ⟨by rw [a3 h (by omega)]; exact hD.1, fun i hi => by rw [a3 (h + 1) (by omega)]; exact hD.2.1 i hi, fun i hi => by rw [a3 (h + 2) (by omega)]; exact hD.2.2 i hi⟩
      refine ⟨m1, ?_, fun h => (by cases h), fun _ => b4 rfl, fun c h1 h2 h3 h4 => by rw [b5 c h1 h4, a3 c h1]⟩
      rw [a1]
      unfold fX1_readsWord_38 fX1_readsLetters
      rw [b1, zBd_s]
      rfl
    · obtain ⟨m0, a1, a2, a3, a4⟩ := k2 F μ hT
      obtain ⟨m1, b1, b2, b3, b4, b5, b6⟩ := g7 F F w p L m0 (by omega) a2 ⟨by rw [a3 33 (by decide)]; exact hD.1, fun i hi => by rw [a4 66 (by decide)]; exact hD.2.1 i hi, fun i hi => by rw [a4 67 (by decide)]; exact hD.2.2 i hi⟩
      obtain ⟨c1, c2⟩ := b6 rfl
      refine ⟨m1, ?_, fun h => (by cases h), fun _ => c2, fun j h1 h2 h3 => by rw [b3 j h1 h2, a3 j h1], fun c h1 h2 h3 => by rw [b4 c h1 h3, a4 c h1]⟩
      rw [a1, c1]
      rfl
  | true =>
    have hl1 := g4 rfl
    by_cases hwt : w + t ≤ 60
    · refine ⟨true, first + len, w + t, yLx L w len, U', 0, fun _ => ⟨by omega, g3, by omega, hwt, fun i hi => if_pos hi, fun i h1 h2 => by unfold yLx; rw [if_neg (by omega)]; omega, by rw [yLx_sm, g5]; omega⟩, fun F h μ hF hh hT hD => ?_, fun F μ hF hT hD => ?_⟩
      · obtain ⟨m0, a1, a2, a3⟩ := k1 F h μ hh hT
        obtain ⟨m1, b1, b2, b3, b4, b5⟩ := g6 F h F w L m0 (by omega) hh a2 ⟨by rw [a3 h (by omega)]; exact hD.1, fun i hi => by rw [a3 (h + 1) (by omega)]; exact hD.2.1 i hi, fun i hi => by rw [a3 (h + 2) (by omega)]; exact hD.2.2 i hi⟩
        obtain ⟨m2, c1, c2, c3⟩ := add_C (F := F) (L := L) (len := len) (t := t) hh hwt t 0 F m1 (by omega) (by omega) ⟨b3.1, fun i hi => by rw [b3.2.1 i hi]; unfold yLx; rw [if_pos (by omega)], b3.2.2⟩
        refine ⟨m2, ?_, fun _ => ⟨b2.of (by rw [c3 1 (by omega) (by omega)]) (by rw [c3 1 (by omega) (by omega)]) (c3 2 (by omega) (by omega)), c2⟩, fun h => (by cases h), fun c h1 h2 h3 h4 => by rw [c3 c h2 h3, b5 c h1 h4, a3 c h1]⟩
        rw [a1]
        unfold fX1_readsWord_38 fX1_readsLetters
        rw [b1, zBd_s, if_pos rfl, if_neg hm1, b3.1, nI_add, if_pos ((nI_leI (by omega) (by decide)).mpr hwt)]
        exact c1
      · obtain ⟨m0, a1, a2, a3, a4⟩ := k2 F μ hT
        obtain ⟨m1, b1, b2, b3, b4, b5, b6⟩ := g7 F F w p L m0 (by omega) a2 ⟨by rw [a3 33 (by decide)]; exact hD.1, fun i hi => by rw [a4 66 (by decide)]; exact hD.2.1 i hi, fun i hi => by rw [a4 67 (by decide)]; exact hD.2.2 i hi⟩
        obtain ⟨m2, c1, c2, c3, c4⟩ := add_M (F := F) (L := L) (U := U') hN g3 hwt t 0 F m1 (by omega) (by omega) b1 b2.1 (fun i hi => by rw [b2.2.1 i hi]; unfold yLx; rw [if_pos (by omega)]) b2.2.2
        refine ⟨m2, ?_, fun _ => ⟨b1.of (c3 11 (by decide)) (c3 10 (by decide)) (c4 68 (by decide) (by decide)), c2⟩, fun h => (by cases h), fun j h1 h2 h3 => by rw [c3 j h3, b3 j h1 h2, a3 j h1], fun c h1 h2 h3 => by rw [c4 c h1 h2, b4 c h1 h3, a4 c h1]⟩
        rw [a1, b5 rfl, b2.1, nI_add, if_pos ((nI_leI (by omega) (by decide)).mpr hwt)]
        exact c1
    · refine ⟨false, 0, 0, L, U, yFt 4 p, fun h => (by cases h), fun F h μ hF hh hT hD => ?_, fun F μ hF hT hD => ?_⟩
      · obtain ⟨m0, a1, a2, a3⟩ := k1 F h μ hh hT
        obtain ⟨m1, b1, b2, b3, b4, b5⟩ := g6 F h F w L m0 (by omega) hh a2 ⟨by rw [a3 h (by omega)]; exact hD.1, fun i hi => by rw [a3 (h + 1) (by omega)]; exact hD.2.1 i hi, fun i hi => by rw [a3 (h + 2) (by omega)]; exact hD.2.2 i hi⟩
        refine ⟨zUp (zUp m1 1 2 (nI p)) 1 3 (yFt 4 p), ?_, fun h => (by cases h), fun _ => zUp_s _ _ _ _, fun c h1 h2 h3 h4 => by rw [zUp_ne h1, zUp_ne h1, b5 c h1 h4, a3 c h1]⟩
        rw [a1]
        unfold fX1_readsWord_38 fX1_readsLetters fX9_failsAt
        rw [b1, zBd_s, if_pos rfl, if_neg hm1, b3.1, nI_add, if_neg (fun z => hwt ((nI_leI (by omega) (by decide)).mp z))]
        dsimp only [zLt]
        rw [e_fails (N := N) (b := b) (p := p) (b2.to (zUp_o (by decide)) (zUp_s _ _ _ _) (zUp_ne (by decide))), zBd_s, zGb0, zBd_s, zGb0]
        rfl
      · obtain ⟨m0, a1, a2, a3, a4⟩ := k2 F μ hT
        obtain ⟨m1, b1, b2, b3, b4, b5, b6⟩ := g7 F F w p L m0 (by omega) a2 ⟨by rw [a3 33 (by decide)]; exact hD.1, fun i hi => by rw [a4 66 (by decide)]; exact hD.2.1 i hi, fun i hi => by rw [a4 67 (by decide)]; exact hD.2.2 i hi⟩
        refine ⟨zUp m1 60 12 (yFt 4 p), ?_, fun h => (by cases h), fun _ => zUp_s _ _ _ _, fun j h1 h2 h3 => by rw [zUp_o h2, b3 j h1 h2, a3 j h1], fun c h1 h2 h3 => by rw [zUp_ne h1, b4 c h1 h3, a4 c h1]⟩
        rw [a1, b5 rfl, b2.1, nI_add, if_neg (fun z => hwt ((nI_leI (by omega) (by decide)).mp z))]
        rfl
