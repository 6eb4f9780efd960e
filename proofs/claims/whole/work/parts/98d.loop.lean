/-! ===== the law's loop over all calls ===== -/
def yGood (o : Option zR) : Prop := ∃ out, o = some out ∧ out.1 = 1
theorem zp_step {f g : zMem → Option zR} (hp : zPair f g) {A : zAS} {μ : zMem} (hW : zWF A) (hC : zRepC A μ) (hM : zRepM A μ) {K : zMem → Option zR} (hK : ∀ (A' : zAS) (m : zMem), zWF A' → zRepC A' m → zRepM A' m → yGood (K m)) : yGood (zBd (f μ) (fun r1 m1 => zBd (g m1) (fun r2 m2 => if r1 = r2 then K m2 else some (nI 0, m2)))) := by
  obtain ⟨r, m1, m2, A', h1, h2, h3, h4, h5⟩ := hp A μ hW hC hM
  rw [h1, zBd_s, h2, zBd_s, if_pos rfl]
  exact hK A' m2 h3 h4 h5
theorem loop_k {F L : Nat} {xs : Nat → Int32} (hF : 66000 ≤ F) (hL : L ≤ 3072) : ∀ (n i : Nat) (A : zAS) (μ : zMem), L ≤ i + 6 * n → i ≤ 4000 → zWF A → zRepC A μ → zRepM A μ → yGood (fL_law_18 F L xs (n + 1) (nI i) μ) := by
  have stop : ∀ (n i : Nat) (μ : zMem), L < i + 6 → i ≤ 4000 → yGood (fL_law_18 F L xs (n + 1) (nI i) μ) := by
    intro n i μ hi hi2
    have hlt : (Int32.ofNat L) - (nI 6) < nI i := by
      show nI L - nI 6 < nI i
      by_cases h6 : 6 ≤ L
      · rw [pk_sub h6]; exact (nI_ltI (by omega) (by omega)).mpr (by omega)
      · have hneg := pk_sneg (a := L) (b := 6) (by decide) (by omega)
        have h0 : (0 : Int32) ≤ nI i := nI_ge0 (by omega)
        rw [fa_lt] at hneg ⊢
        rw [fa_le] at h0
        omega
    rw [fL_law_18, if_pos hlt]
    exact ⟨_, rfl, rfl⟩
  intro n
  induction n with
  | zero => intro i A μ hi hi2 hW hC hM; exact stop 0 i μ (by omega) hi2
  | succ n ih =>
    intro i A μ hi hi2 hW hC hM
    by_cases hend : L < i + 6
    · exact stop (n + 1) i μ hend hi2
    · have hnlt : ¬ (Int32.ofNat L) - (nI 6) < nI i := by
        show ¬ nI L - nI 6 < nI i
        rw [pk_sub (by omega)]
        exact fun z => by have := (nI_ltI (by omega) (by omega)).mp z; omega
      have z0 : ∀ B : Option zR, zG (nI i) L B = B := fun B => zG_in rfl (by omega) (by omega)
      have z1 : ∀ B : Option zR, zG (nI i + nI 1) L B = B := fun B => zG_in (nI_add i 1) (by omega) (by omega)
      have z2 : ∀ B : Option zR, zG (nI i + nI 2) L B = B := fun B => zG_in (nI_add i 2) (by omega) (by omega)
      have z3 : ∀ B : Option zR, zG (nI i + nI 3) L B = B := fun B => zG_in (nI_add i 3) (by omega) (by omega)
      have z4 : ∀ B : Option zR, zG (nI i + nI 4) L B = B := fun B => zG_in (nI_add i 4) (by omega) (by omega)
      have z5 : ∀ B : Option zR, zG (nI i + nI 5) L B = B := fun B => zG_in (nI_add i 5) (by omega) (by omega)
      have hK : ∀ (A' : zAS) (m : zMem), zWF A' → zRepC A' m → zRepM A' m → yGood (fL_law_18 F L xs (n + 1) (nI i + nI 6) m) := fun A' m h1 h2 h3 => by
        rw [nI_add]
        exact ih (i + 6) A' m (by omega) (by omega) h1 h2 h3
      have hW0 := hW
      rw [fL_law_18, if_neg hnlt]
      unfold fL_law_208
      simp only [z0, z1, z2, z3, z4, z5]
      generalize fL_law_18 F L xs (n + 1) = KK at hK ⊢
      generalize (xs (nI i).toNatClampNeg &&& nI 63) = c
      generalize xs (nI i + nI 1).toNatClampNeg = x1
      generalize xs (nI i + nI 2).toNatClampNeg = x2
      generalize xs (nI i + nI 3).toNatClampNeg = x3
      generalize xs (nI i + nI 4).toNatClampNeg = x4
      generalize xs (nI i + nI 5).toNatClampNeg = x5
      by_cases h0 : c = nI 0
      · rw [if_pos h0]
        by_cases hx : x3 = 0
        · simp only [if_pos hx]
          exact zp_step (pr_person x1 x2 (nI 0)) hW hC hM hK
        · simp only [if_neg hx]
          exact zp_step (pr_person x1 x2 (nI 1)) hW hC hM hK
      rw [if_neg h0]
      by_cases h1 : c = nI 1
      · rw [if_pos h1]
        exact zp_step (pr_feed (by omega) x1 x2 x3 x4 x5) hW hC hM hK
      rw [if_neg h1]
      by_cases h2 : c = nI 2
      · rw [if_pos h2]
        exact zp_step (pr_law (by omega) x1) hW hC hM hK
      rw [if_neg h2]
      by_cases h3 : c = nI 3
      · rw [if_pos h3]
        exact zp_step (pr_gossip (by omega) x1) hW hC hM hK
      rw [if_neg h3]
      by_cases h4 : c = nI 4
      · rw [if_pos h4]
        exact zp_step (pr_copy (by omega) x1) hW hC hM hK
      rw [if_neg h4]
      by_cases h5 : c = nI 5
      · rw [if_pos h5]
        exact zp_step (pr_weeks (by omega) x1) hW hC hM hK
      rw [if_neg h5]
      by_cases h6 : c = nI 6
      · rw [if_pos h6]
        exact zp_step (pr_tried (by omega) x1 x2) hW hC hM hK
      rw [if_neg h6]
      by_cases h7 : c = nI 7
      · rw [if_pos h7]
        exact zp_step (pr_personIs (by omega) x1 x2) hW hC hM hK
      rw [if_neg h7]
      by_cases h8 : c = nI 8
      · rw [if_pos h8]
        exact zp_step (pr_allKnow (by omega) x1 x2) hW hC hM hK
      rw [if_neg h8]
      by_cases h9 : c = nI 9
      · rw [if_pos h9]
        exact zp_step (pr_whose (by omega) x1) hW hC hM hK
      rw [if_neg h9]
      by_cases h10 : c = nI 10
      · rw [if_pos h10]
        exact zp_step (pr_alone (by omega) ) hW hC hM hK
      rw [if_neg h10]
      by_cases h11 : c = nI 11
      · rw [if_pos h11]
        exact zp_step (pr_enough (by omega) x1) hW hC hM hK
      rw [if_neg h11]
      by_cases h12 : c = nI 12
      · rw [if_pos h12]
        exact zp_step (pr_backNumber  x1 x2) hW hC hM hK
      rw [if_neg h12]
      by_cases h13 : c = nI 13
      · rw [if_pos h13]
        exact zp_step (pr_blackmail (by omega) x1 x2) hW hC hM hK
      rw [if_neg h13]
      by_cases h14 : c = nI 14
      · rw [if_pos h14]
        exact zp_step (pr_mostPrinted (by omega) x1) hW hC hM hK
      rw [if_neg h14]
      by_cases h15 : c = nI 15
      · rw [if_pos h15]
        exact zp_step (pr_silent (by omega) x1) hW hC hM hK
      rw [if_neg h15]
      by_cases h16 : c = nI 16
      · rw [if_pos h16]
        exact zp_step (pr_pair (by omega) x1) hW hC hM hK
      rw [if_neg h16]
      by_cases h17 : c = nI 17
      · rw [if_pos h17]
        exact zp_step (pr_reached (by omega) x1) hW hC hM hK
      rw [if_neg h17]
      by_cases h18 : c = nI 18
      · rw [if_pos h18]
        exact zp_step (pr_lineOf (by omega) x1 x2) hW hC hM hK
      rw [if_neg h18]
      by_cases h19 : c = nI 19
      · rw [if_pos h19]
        exact zp_step (pr_copyIs (by omega) x1) hW hC hM hK
      rw [if_neg h19]
      by_cases h20 : c = nI 20
      · rw [if_pos h20]
        exact zp_step (pr_set (by omega) x1 x2) hW hC hM hK
      rw [if_neg h20]
      by_cases h21 : c = nI 21
      · rw [if_pos h21]
        exact zp_step (pr_type  x1) hW hC hM hK
      rw [if_neg h21]
      by_cases h22 : c = nI 22
      · rw [if_pos h22]
        exact zp_step (pr_bought (by omega) x1) hW hC hM hK
      rw [if_neg h22]
      by_cases h23 : c = nI 23
      · rw [if_pos h23]
        exact zp_step (pr_nuns (by omega) x1 x2) hW hC hM hK
      rw [if_neg h23]
      by_cases h24 : c = nI 24
      · rw [if_pos h24]
        exact zp_step (pr_space (by omega) x1 x2 x3) hW hC hM hK
      rw [if_neg h24]
      by_cases h25 : c = nI 25
      · rw [if_pos h25]
        exact zp_step (pr_style (by omega) x1 x2) hW hC hM hK
      rw [if_neg h25]
      by_cases h26 : c = nI 26
      · rw [if_pos h26]
        exact zp_step (pr_names (by omega) x1 x2) hW hC hM hK
      rw [if_neg h26]
      by_cases h27 : c = nI 27
      · rw [if_pos h27]
        exact zp_step (pr_duty (by omega) x1 x2) hW hC hM hK
      rw [if_neg h27]
      by_cases h28 : c = nI 28
      · rw [if_pos h28]
        exact zp_step (pr_hands (by omega) x1 x2) hW hC hM hK
      rw [if_neg h28]
      by_cases h29 : c = nI 29
      · rw [if_pos h29]
        exact zp_step (pr_seed  x1) hW hC hM hK
      rw [if_neg h29]
      by_cases h30 : c = nI 30
      · rw [if_pos h30]
        exact zp_step (pr_keep (by omega) ) hW hC hM hK
      rw [if_neg h30]
      by_cases h31 : c = nI 31
      · rw [if_pos h31]
        exact zp_step (pr_undo (by omega) ) hW hC hM hK
      rw [if_neg h31]
      by_cases h32 : c = nI 32
      · rw [if_pos h32]
        exact zp_step (pr_check (by omega) x1) hW hC hM hK
      rw [if_neg h32]
      by_cases h33 : c = nI 33
      · rw [if_pos h33]
        exact zp_step (pr_count (by omega) x1) hW hC hM hK
      rw [if_neg h33]
      exact hK A μ hW hC hM
/-! the start -/
def yS0 : zPS := (0, 0, fun _ => 0, fun _ => 0, fun _ => 0, fun _ _ => 0, 0, 1)
def yA0 : zAS := (0, fun _ => 0, yS0, none, (0, fun _ => 0, fun _ => 0, fun _ => 0, fun _ => 0, fun _ => 0, fun _ => 0, 0), (0, fun _ => 0, fun _ => 0))
theorem yS0_wf : zWFS yS0 := by
  refine ⟨by decide, by decide, fun p hp => ?_, fun p hp => by show 0 < 65536; decide, fun p hp => Nat.zero_le _, fun p hp ht => rfl, fun q hq => Nat.zero_le _, fun q j hq hj => by show 0 < 4096; decide, by decide, by decide⟩
  have hp : (0 : Nat).testBit p = true := hp
  simp at hp
theorem yA0_wf : zWF yA0 := by
  refine ⟨⟨by decide, fun j => by show 0 < 256; decide⟩, yS0_wf, fun s hs => (by cases hs), ⟨by decide, by decide, fun r hr => absurd hr (Nat.not_lt_zero r)⟩, ⟨by decide, fun i hi => absurd hi (Nat.not_lt_zero i), fun i hi => by show 0 ≤ 720; decide, by decide⟩⟩
theorem yA0_C : zRepC yA0 z0 := by
  refine ⟨⟨rfl, fun j hj => absurd hj (Nat.not_lt_zero j)⟩, ⟨rfl, rfl, rfl, rfl, fun p hp => rfl, fun p hp => rfl, fun q hq => rfl, fun q j hq hj => absurd hj (Nat.not_lt_zero j)⟩, rfl, ⟨19, rfl, rfl, rfl, rfl, fun r hr => absurd hr (Nat.not_lt_zero r), fun i hi => absurd hi (Nat.not_lt_zero i)⟩, ⟨40, rfl, rfl, rfl, rfl, fun i hi => absurd hi (Nat.not_lt_zero i), fun i hi => rfl⟩⟩
theorem yA0_M : zRepM yA0 z0 := by
  have e : ∀ j, j ≠ 1046 → z0 61 j = nI 0 := fun j hj => by
    show upd (fun _ => 0) 1046 (nI 1) j = nI 0
    rw [pk_un hj]; rfl
  have t0 : ∀ p, nI ((0 : Nat).testBit p).toNat = nI 0 := fun p => by simp
  refine ⟨⟨rfl, fun j hj => absurd hj (Nat.not_lt_zero j)⟩, ⟨fun p hp => ?_, fun p hp => e _ (by omega), fun p hp => ?_, fun p hp => e _ (by omega), fun q hq => e _ (by omega), fun q j hq hj => absurd hj (Nat.not_lt_zero j), e _ (by decide), e _ (by decide), ?_⟩, rfl, ⟨rfl, fun r hr => absurd hr (Nat.not_lt_zero r), fun i hi => absurd hi (Nat.not_lt_zero i)⟩, ⟨rfl, fun i hi => absurd hi (Nat.not_lt_zero i), fun i hi => rfl⟩⟩
  · rw [e p (by omega)]; exact (t0 p).symm
  · rw [e _ (by omega)]; exact (t0 p).symm
  · show upd (fun _ => 0) 1046 (nI 1) 1046 = nI 1
    rw [pk_us]
theorem alike : zAlike := by
  intro L xs hL
  obtain ⟨out, h1, h2⟩ := loop_k (F := 66000) (L := L) (xs := xs) (Nat.le_refl _) hL 600 0 yA0 z0 (by omega) (by omega) yA0_wf yA0_C yA0_M
  exact ⟨66000, 601, out, h1, h2⟩
