theorem b2_small {n : Nat} (h : n < 128) : ((nI n).toInt8.toInt32).toInt8.toInt32 = nI n := by rw [fa_byte_small h, fa_byte_small h]
def yBM (s : zPS) (j : Nat) : Nat := yMs s ((pw s - (j + 1)) % 20)
theorem nAn_in {S X m : Nat} (hS : S < 65536) (h : ∀ t, S.testBit t = true → X.testBit t = true) : nAn S (m &&& X) = nAn S m := eq_of_bits fun t => by
  rw [nAn_bit hS, nAn_bit hS, Nat.testBit_and]
  cases hs : S.testBit t
  · simp
  · rw [h t hs]; simp
def yFw (X : Nat) (M : Nat → Nat) (i : Nat) (m : zMem) : Prop := ∀ S, S ≤ X → nAn S X = 0 → m 83 S = nI (yD M i S)
theorem e_lays {F X : Nat} {s : zPS} {μ : zMem} (hF : 66000 ≤ F) (hr0 : zRepN 61 s μ) (hw : zWFS s) (hX : X < 65536) : zTo (fX12_laysBlackmail F (nI X) μ) (fun _ m => m 60 38 = nI (yD (yBM s) (min (pw s) 20) X) ∧ m 60 39 = yO (yBM s) X (min (pw s) 20) ∧ (∀ c, c ≠ 60 → c ≠ 83 → m c = μ c) ∧ ∀ j, j ≠ 38 → j ≠ 39 → m 60 j = μ 60 j) := by
  have h20 : min (pw s) 20 ≤ 20 := Nat.min_le_right _ _
  have hXX : nAn X X = 0 := (nAn_0 hX).mpr fun _ h => h
  have hR : ∀ m, (∀ c, c ≠ 60 → c ≠ 83 → m c = μ c) → zRepN 61 s m := fun m h => hr0.of (h 61 (by decide) (by decide))
  have k77 : ∀ (K : Int32 → Int32 → zMem → Option zR) (Q : Int32 → zMem → Prop) (i : Nat), i + 1 ≤ min (pw s) 20 → (∀ m, (∀ c, c ≠ 60 → c ≠ 83 → m c = μ c) → (∀ j, j ≠ 38 → j ≠ 39 → m 60 j = μ 60 j) → yFw X (yBM s) (i + 1) m → m 60 38 = nI (yD (yBM s) (i + 1) X) → m 60 39 = yO (yBM s) X (i + 1) → zTo (K (nI X) (nI (i + 1 + 1)) m) Q) → ∀ S f m, S < f → S ≤ X → (∀ c, c ≠ 60 → c ≠ 83 → m c = μ c) → (∀ j, j ≠ 38 → j ≠ 39 → m 60 j = μ 60 j) → (∀ S2, S2 ≤ X → nAn S2 X = 0 → m 83 S2 = if S2 ≤ S then nI (yD (yBM s) i S2) else nI (yD (yBM s) (i + 1) S2)) → m 60 38 = nI (yD (yBM s) i X) → m 60 39 = yO (yBM s) X i → zTo (fX12_laysBlackmail_77 F K f (nI X) (nI (i + 1)) (nI (yBM s i &&& X)) (nI S) m) Q := by
    intro K Q i hi hK S
    induction S with
    | zero =>
      intro f m hf hS hfr hfr60 h83 h38 h39
      obtain ⟨f, rfl⟩ := z_s hf
      have hall : yFw X (yBM s) (i + 1) m := fun S2 g1 g2 => by
        rw [h83 S2 g1 g2]
        by_cases e : S2 ≤ 0
        · have : S2 = 0 := by omega
          subst this
          rw [if_pos e]
          have z : ∀ k, yD (yBM s) k 0 = 0 := by
            intro k
            induction k with
            | zero => rfl
            | succ k ihk =>
              show min (yD (yBM s) k 0) _ = 0
              rw [ihk, Nat.zero_min]
          rw [z, z]
        · rw [if_neg e]
      have d1 := yD_le (yBM s) (i + 1) X
      have d2 := yD_le (yBM s) i X
      have d3 : yD (yBM s) (i + 1) X ≤ yD (yBM s) i X := Nat.min_le_left _ _
      rw [fX12_laysBlackmail_77, if_pos (show nI 0 ≤ 0 by decide), zG_in rfl (by omega) (by decide), nI_clamp (by omega), hall X (Nat.le_refl _) hXX, h38, nI_add]
      by_cases c : yD (yBM s) (i + 1) X < yD (yBM s) i X
      · rw [if_pos ((nI_ltI (by omega) (by omega)).mpr c), zG_in rfl (by omega) (by decide)]
        refine zTo_let fun m4 h4 => ?_
        refine zTo_let fun m5 h5 => ?_
        refine hK m5 (fun c c1 c2 => by rw [h5, zUp_ne c1, h4, zUp_ne c1, hfr c c1 c2]) (fun j j1 j2 => by rw [h5, zUp_o j2, h4, zUp_o j1, hfr60 j j1 j2]) (fun S2 g1 g2 => by rw [h5, zUp_ne (by decide), h4, zUp_ne (by decide)]; exact hall S2 g1 g2) (by rw [h5, zUp_o (by decide), h4, zUp_s]) ?_
        rw [h5, zUp_s]
        unfold yO
        rw [if_pos c]
      · rw [if_neg (fun z => c ((nI_ltI (by omega) (by omega)).mp z))]
        refine hK m hfr hfr60 hall (by rw [h38]; congr 1; omega) ?_
        rw [h39]
        show _ = (if yD (yBM s) (i + 1) X < yD (yBM s) i X then nI (i + 1) else yO (yBM s) X i)
        rw [if_neg c]
    | succ S ih =>
      intro f m hf hS hfr hfr60 h83 h38 h39
      obtain ⟨f, rfl⟩ := z_s hf
      have hS6 : S + 1 < 65536 := by omega
      have hnl := nAn_lt (b := X) hS6
      rw [fX12_laysBlackmail_77, if_neg (nI_nle (by omega) (by omega)), zq_andn hS6, zq_andn hS6, nI_sub1]
      by_cases c : nAn (S + 1) X = 0
      · have hsub := (nAn_0 hS6).mp c
        have e1 : nAn (S + 1) (yBM s i &&& X) = nAn (S + 1) (yBM s i) := nAn_in hS6 hsub
        have hle := nAn_le (a := S + 1) (b := yBM s i)
        have hsub2 : nAn (nAn (S + 1) (yBM s i)) X = 0 := (nAn_0 (by omega)).mpr fun t ht => hsub t (by rw [nAn_bit hS6, Bool.and_eq_true] at ht; exact ht.1)
        have d1 := yD_le (yBM s) i (nAn (S + 1) (yBM s i))
        have d2 := yD_le (yBM s) i (S + 1)
        rw [if_pos ((nI_z (by omega)).mpr c), e1, zG_in rfl (by omega) (by decide), zG_in rfl (by omega) (by decide), nI_clamp (by omega), nI_clamp (by omega), h83 _ (by omega) hsub2, if_pos hle, h83 (S + 1) hS c, if_pos (Nat.le_refl (S + 1)), nI_add, zG_in rfl (by omega) (by decide), zG_in rfl (by omega) (by decide)]
        by_cases c2 : yD (yBM s) i (nAn (S + 1) (yBM s i)) + 1 < yD (yBM s) i (S + 1)
        · rw [if_pos ((nI_ltI (by omega) (by omega)).mpr c2), b2_small (by omega)]
          refine zTo_let fun m10 h10 => ?_
          refine ih f m10 (by omega) (by omega) (fun c c1 c2 => by rw [h10, zUp_ne c2, hfr c c1 c2]) (fun j j1 j2 => by rw [h10, zUp_ne (by decide), hfr60 j j1 j2]) (fun S2 g1 g2 => ?_) (by rw [h10, zUp_ne (by decide), h38]) (by rw [h10, zUp_ne (by decide), h39])
          rw [h10]
          by_cases e : S2 = S + 1
          · rw [e, zUp_s, if_neg (by omega)]
            show _ = nI (min (yD (yBM s) i (S + 1)) (yD (yBM s) i (nAn (S + 1) (yBM s i)) + 1))
            rw [Nat.min_eq_right (by omega)]
          · rw [zUp_o e, h83 S2 g1 g2]
            by_cases e2 : S2 ≤ S
            · rw [if_pos (by omega), if_pos e2]
            · rw [if_neg (by omega), if_neg e2]
        · rw [if_neg (fun z => c2 ((nI_ltI (by omega) (by omega)).mp z))]
          refine ih f m (by omega) (by omega) hfr hfr60 (fun S2 g1 g2 => ?_) h38 h39
          rw [h83 S2 g1 g2]
          by_cases e : S2 = S + 1
          · rw [e, if_pos (Nat.le_refl _), if_neg (by omega)]
            show _ = nI (min (yD (yBM s) i (S + 1)) (yD (yBM s) i (nAn (S + 1) (yBM s i)) + 1))
            rw [Nat.min_eq_left (by omega)]
          · by_cases e2 : S2 ≤ S
            · rw [if_pos (by omega), if_pos e2]
            · rw [if_neg (by omega), if_neg e2]
      · rw [if_neg (fun z => c ((nI_z (by omega)).mp z))]
        refine ih f m (by omega) (by omega) hfr hfr60 (fun S2 g1 g2 => ?_) h38 h39
        rw [h83 S2 g1 g2]
        have e : S2 ≠ S + 1 := fun e => c (e ▸ g2)
        by_cases e2 : S2 ≤ S
        · rw [if_pos (by omega), if_pos e2]
        · rw [if_neg (by omega), if_neg e2]
  have k58 : ∀ d i f m, i + d = min (pw s) 20 → d < f → (∀ c, c ≠ 60 → c ≠ 83 → m c = μ c) → (∀ j, j ≠ 38 → j ≠ 39 → m 60 j = μ 60 j) → yFw X (yBM s) i m → m 60 38 = nI (yD (yBM s) i X) → m 60 39 = yO (yBM s) X i → zTo (fX12_laysBlackmail_58 F f (nI X) (nI (i + 1)) m) (fun _ m => m 60 38 = nI (yD (yBM s) (min (pw s) 20) X) ∧ m 60 39 = yO (yBM s) X (min (pw s) 20) ∧ (∀ c, c ≠ 60 → c ≠ 83 → m c = μ c) ∧ ∀ j, j ≠ 38 → j ≠ 39 → m 60 j = μ 60 j) := by
    intro d
    induction d with
    | zero =>
      intro i f m hi hf hfr hfr60 h83 h38 h39
      obtain ⟨f, rfl⟩ := z_s hf
      have hi : i = min (pw s) 20 := by omega
      subst hi
      rw [fX12_laysBlackmail_58, e_backMany (hR m hfr) hw, zBd_s, if_pos ((nI_ltI (by omega) (by omega)).mpr (by omega))]
      exact zTo_ret ⟨h38, h39, hfr, hfr60⟩
    | succ d ih =>
      intro i f m hi hf hfr hfr60 h83 h38 h39
      obtain ⟨f, rfl⟩ := z_s hf
      rw [fX12_laysBlackmail_58, e_backMany (hR m hfr) hw, zBd_s, if_neg (fun z => by have := (nI_ltI (by omega) (by omega)).mp z; omega), e_mSecretsOf (by omega) (hR m hfr) hw (by omega), zBd_s, fa_and]
      exact k77 _ _ i (by omega) (fun m2 a1 a2 a3 a4 a5 => ih (i + 1) f m2 (by omega) (by omega) a1 a2 a3 a4 a5) X F m (by omega) (Nat.le_refl _) hfr hfr60 (fun S2 g1 g2 => by rw [if_pos g1]; exact h83 S2 g1 g2) h38 h39
  have k14 : ∀ d k f m, k + d = X + 1 → d < f → (∀ c, c ≠ 60 → c ≠ 83 → m c = μ c) → (∀ j, j ≠ 38 → j ≠ 39 → m 60 j = μ 60 j) → (∀ S, S < k → m 83 S = nI (yD (yBM s) 0 S)) → m 60 38 = nI 99 → m 60 39 = -2 → zTo (fX12_laysBlackmail_14 F f (nI X) (nI k) m) (fun _ m => m 60 38 = nI (yD (yBM s) (min (pw s) 20) X) ∧ m 60 39 = yO (yBM s) X (min (pw s) 20) ∧ (∀ c, c ≠ 60 → c ≠ 83 → m c = μ c) ∧ ∀ j, j ≠ 38 → j ≠ 39 → m 60 j = μ 60 j) := by
    intro d
    induction d with
    | zero =>
      intro k f m hk hf hfr hfr60 h83 h38 h39
      obtain ⟨f, rfl⟩ := z_s hf
      rw [fX12_laysBlackmail_14, if_pos ((nI_ltI (by omega) (by omega)).mpr (by omega))]
      have hrow : yFw X (yBM s) 0 m := fun S g1 _ => h83 S (by omega)
      by_cases h0 : X = 0
      · rw [if_pos ((nI_z (by omega)).mpr h0)]
        refine zTo_let fun m1 h1 => ?_
        refine zTo_let fun m2 h2 => ?_
        refine k58 (min (pw s) 20) 0 F m2 (by omega) (by omega) (fun c c1 c2 => by rw [h2, zUp_ne c1, h1, zUp_ne c1, hfr c c1 c2]) (fun j j1 j2 => by rw [h2, zUp_o j2, h1, zUp_o j1, hfr60 j j1 j2]) (fun S g1 g2 => by rw [h2, zUp_ne (by decide), h1, zUp_ne (by decide)]; exact hrow S g1 g2) ?_ ?_
        · rw [h2, zUp_o (by decide), h1, zUp_s]
          unfold yD
          rw [if_pos h0]
        · rw [h2, zUp_s]
          unfold yO
          rw [if_pos h0]
      · rw [if_neg (fun z => h0 ((nI_z (by omega)).mp z))]
        refine k58 (min (pw s) 20) 0 F m (by omega) (by omega) hfr hfr60 hrow ?_ ?_
        · rw [h38]
          unfold yD
          rw [if_neg h0]
        · rw [h39]
          unfold yO
          rw [if_neg h0]
    | succ d ih =>
      intro k f m hk hf hfr hfr60 h83 h38 h39
      obtain ⟨f, rfl⟩ := z_s hf
      rw [fX12_laysBlackmail_14, if_neg (fun z => by have := (nI_ltI (by omega) (by omega)).mp z; omega), zG_in rfl (by omega) (by decide), zG_in rfl (by omega) (by decide), nI_clamp (by omega), b2_small (by decide), b2_small (by decide), nI_add]
      have hgo : ∀ v, v = yD (yBM s) 0 k → zTo (zLt (zUp m 83 k (nI v)) (fun m4 => fX12_laysBlackmail_14 F f (nI X) (nI (k + 1)) m4)) (fun _ m => m 60 38 = nI (yD (yBM s) (min (pw s) 20) X) ∧ m 60 39 = yO (yBM s) X (min (pw s) 20) ∧ (∀ c, c ≠ 60 → c ≠ 83 → m c = μ c) ∧ ∀ j, j ≠ 38 → j ≠ 39 → m 60 j = μ 60 j) := by
        intro v hv
        refine zTo_let fun m4 h4 => ?_
        refine ih (k + 1) f m4 (by omega) (by omega) (fun c c1 c2 => by rw [h4, zUp_ne c2, hfr c c1 c2]) (fun j j1 j2 => by rw [h4, zUp_ne (by decide), hfr60 j j1 j2]) (fun S hS => ?_) (by rw [h4, zUp_ne (by decide), h38]) (by rw [h4, zUp_ne (by decide), h39])
        rw [h4]
        by_cases e : S = k
        · rw [e, zUp_s, hv]
        · rw [zUp_o e]; exact h83 S (by omega)
      by_cases h0 : k = 0
      · rw [if_pos ((nI_z (by omega)).mpr h0)]
        exact hgo 0 (by unfold yD; rw [if_pos h0])
      · rw [if_neg (fun z => h0 ((nI_z (by omega)).mp z))]
        exact hgo 99 (by unfold yD; rw [if_neg h0])
  unfold fX12_laysBlackmail
  refine zTo_let fun m1 h1 => ?_
  refine zTo_let fun m2 h2 => ?_
  exact k14 (X + 1) 0 F m2 (by omega) (by omega) (fun c c1 c2 => by rw [h2, zUp_ne c1, h1, zUp_ne c1]) (fun j j1 j2 => by rw [h2, zUp_o j2, h1, zUp_o j1]) (fun S hS => by omega) (by rw [h2, zUp_o (by decide), h1, zUp_s]) (by rw [h2, zUp_s])
theorem pr_blackmail {F : Nat} (hF : 66000 ≤ F) (x y : Int32) : zPair (fX11_blackmail F x y) (fX12_blackmail F x y) := by
  refine zPair.mk fun A μ hW hC => ?_
  cases hz : zIn x 0 65535
  · refine ⟨-1, A, μ, ?_, hW, hC, fun _ _ => rfl, fun μ' hM => ⟨μ', ?_, hM, fun _ _ => rfl⟩⟩
    · unfold fX11_blackmail
      rw [e_isWithin, zBd_s, hz, z_bf]
    · unfold fX12_blackmail
      rw [e_in, zBd_s, hz, z_bf]
  · cases hz2 : zIn y 0 1
    · refine ⟨-1, A, μ, ?_, hW, hC, fun _ _ => rfl, fun μ' hM => ⟨μ', ?_, hM, fun _ _ => rfl⟩⟩
      · unfold fX11_blackmail
        rw [e_isWithin, zBd_s, hz, z_bt, e_isWithin, zBd_s, hz2, z_bf]
      · unfold fX12_blackmail
        rw [e_in, zBd_s, hz, z_bt, e_in, zBd_s, hz2, z_bf]
    · obtain ⟨X, -, hX, rfl⟩ := zIn_t (by decide) (by decide) hz
      obtain ⟨w0, -, hw0, rfl⟩ := zIn_t (by decide) (by decide) hz2
      have hws := hW.2.1
      have h20 : min (pw (aN A)) 20 ≤ 20 := Nat.min_le_right _ _
      have hpw : 2 ^ min (pw (aN A)) 20 ≤ 2 ^ 20 := Nat.pow_le_pow_right (by decide) h20
      have hML : ∀ j, j < min (pw (aN A)) 20 → yBM (aN A) j < 65536 := fun j _ => yMs_lt hws (Nat.mod_lt _ (by decide))
      have hdl := yD_le (yBM (aN A)) (min (pw (aN A)) 20) X
      -- what it answers
      have k32 : ∀ d i f m, i + d = min (pw (aN A)) 20 → d < f → (∀ c, c ≠ 51 → m c = μ c) → (∀ j, j < i → m 51 j = nI (yBM (aN A) j)) → zTo (fX11_blackmail_32 F f (nI X) (nI w0) (nI (min (pw (aN A)) 20)) (nI (i + 1)) m) (fun r m1 => (r = if yD (yBM (aN A)) (min (pw (aN A)) 20) X = 99 then -2 else if w0 = 0 then nI (yD (yBM (aN A)) (min (pw (aN A)) 20) X) else yO (yBM (aN A)) X (min (pw (aN A)) 20)) ∧ ∀ c, c ≠ 50 → c ≠ 51 → c ≠ 52 → c ≠ 53 → m1 c = μ c) := by
        intro d
        induction d with
        | zero =>
          intro i f m hi hf hfr h51
          obtain ⟨f, rfl⟩ := z_s hf
          have hi : i = min (pw (aN A)) 20 := by omega
          rw [fX11_blackmail_32, if_pos ((nI_ltI (by omega) (by omega)).mpr (by omega))]
          refine zTo_bd (e_finds (by omega) h20 (by omega) hML (fun j hj => h51 j (by omega))) ?_
          rintro r m1 ⟨hfr1, ⟨rfl, T, hT, e50⟩ | ⟨rfl, hno⟩⟩
          · have hlt : T < 2 ^ min (pw (aN A)) 20 := hT.1
            have hlt2 : T < 1048576 := by omega
            obtain ⟨h, -, hh⟩ := yHb_ex _ T hlt
            obtain ⟨e1, e2⟩ := best_D h20 (by omega) hT hh
            obtain ⟨n1, n2⟩ := e_nlz (F := F) (μ := m1) hlt2 hh
            have hc : yC 20 T ≤ 20 := fb_ct_le _ _
            have e24 : zBc T = yC 20 T := by rw [zBc_N (by omega), show (24 : Nat) = 20 + 4 from rfl, zPopN_big (show T < 2 ^ 20 from hlt2), zPopN_yC]
            have hfr2 : ∀ c, c ≠ 50 → c ≠ 51 → c ≠ 52 → c ≠ 53 → m1 c = μ c := fun c c1 c2 c3 c4 => by rw [hfr1 c c1 c3 c4, hfr c c2]
            rw [if_neg (show ¬ zB true = 0 by decide), e50, e_bitCountN (by omega), zBd_s, n1, zBd_s, pk_sub (by omega), show 32 - (32 - h) = h by omega, if_neg (show ¬ yD (yBM (aN A)) (min (pw (aN A)) 20) X = 99 by omega), e24, e1, e2]
            by_cases h : w0 = 0
            · rw [if_pos ((nI_z (by omega)).mpr h), if_pos h]
              exact zTo_ret ⟨rfl, hfr2⟩
            · rw [if_neg (fun z => h ((nI_z (by omega)).mp z)), if_neg h]
              exact zTo_ret ⟨rfl, hfr2⟩
          · have h99 : yD (yBM (aN A)) (min (pw (aN A)) 20) X = 99 := by
              rcases Nat.lt_or_ge (yD (yBM (aN A)) (min (pw (aN A)) 20) X) 99 with z | z
              · obtain ⟨T, a1, a2, _⟩ := (yD_iff _ h20 X _ (by omega) z).mp (Nat.le_refl _)
                exact absurd a2 (hno T a1)
              · omega
            rw [if_pos (show zB false = 0 by decide), if_pos h99]
            exact zTo_ret ⟨rfl, fun c c1 c2 c3 c4 => by rw [hfr1 c c1 c3 c4, hfr c c2]⟩
        | succ d ih =>
          intro i f m hi hf hfr h51
          obtain ⟨f, rfl⟩ := z_s hf
          have hR : zRepS 3 (aN A) m := hC.2.1.of (fun k h1 h2 => hfr k (by omega))
          rw [fX11_blackmail_32, if_neg (fun z => by have := (nI_ltI (by omega) (by omega)).mp z; omega), e_slotOf hR hws (by omega), zBd_s, e_secretsIn (by omega) hR hws (Nat.mod_lt _ (by decide)), zBd_s, pk_sub (by omega), show i + 1 - 1 = i by omega, zG_in rfl (by omega) (by decide), nI_clamp (by omega), nI_add]
          refine zTo_let fun m2 h2 => ?_
          refine ih (i + 1) f m2 (by omega) (by omega) (fun c hc => by rw [h2, zUp_ne hc, hfr c hc]) (fun j hj => ?_)
          rw [h2]
          by_cases e : j = i
          · rw [e, zUp_s]; rfl
          · rw [zUp_o e]; exact h51 j (by omega)
      obtain ⟨r, m, e1, rfl, hfr⟩ := k32 (min (pw (aN A)) 20) 0 F μ (by omega) (by omega) (fun _ _ => rfl) (fun j hj => by omega)
      refine ⟨if yD (yBM (aN A)) (min (pw (aN A)) 20) X = 99 then -2 else if w0 = 0 then nI (yD (yBM (aN A)) (min (pw (aN A)) 20) X) else yO (yBM (aN A)) X (min (pw (aN A)) 20), A, m, ?_, hW, rc_scr hC (fun c _ hc => hfr c (by omega) (by omega) (by omega) (by omega)), fun c hc => hfr c (by omega) (by omega) (by omega) (by omega), fun μ' hM => ?_⟩
      · unfold fX11_blackmail
        rw [e_isWithin, zBd_s, hz, z_bt, e_isWithin, zBd_s, hz2, z_bt, e_issues hC.2.1 hws, zBd_s]
        exact e1
      · obtain ⟨r, m2, e2, a1, a2, hfr2, hfr60⟩ := e_lays hF hM.2.1 hws (show X < 65536 by omega)
        refine ⟨m2, ?_, rm_scr hM (fun j hj => hfr60 j (by omega) (by omega)) (fun c hc => hfr2 c (by omega) (by omega)), fun c hc => hfr2 c (by omega) (by omega)⟩
        unfold fX12_blackmail
        rw [e_in, zBd_s, hz, z_bt, e_in, zBd_s, hz2, z_bt, e2, zBd_s, a1, a2, nI_eqn (by omega) (by decide)]
        by_cases h9 : yD (yBM (aN A)) (min (pw (aN A)) 20) X = 99
        · rw [if_pos h9, if_pos h9]
        · rw [if_neg h9, if_neg h9]
          by_cases h : w0 = 0
          · rw [if_pos ((nI_z (by omega)).mpr h), if_pos h]
          · rw [if_neg (fun z => h ((nI_z (by omega)).mp z)), if_neg h]
