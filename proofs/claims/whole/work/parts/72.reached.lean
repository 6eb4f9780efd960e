/-! ===== reached ===== -/
theorem zFold_bit {st : Nat → Nat → Nat} {t : Nat} {B : Nat → Prop} (h : ∀ k a, (st k a).testBit t = true ↔ (a.testBit t = true ∨ B k)) : ∀ m k a, (zFold st m k a).testBit t = true ↔ (a.testBit t = true ∨ ∃ i, k ≤ i ∧ i < k + m ∧ B i)
  | 0, k, a => by
    show a.testBit t = true ↔ _
    exact ⟨Or.inl, fun z => z.elim id (fun ⟨i, h1, h2, _⟩ => by omega)⟩
  | m + 1, k, a => by
    show (zFold st m (k + 1) (st k a)).testBit t = true ↔ _
    rw [zFold_bit h m (k + 1), h]
    constructor
    · rintro ((h1 | h1) | ⟨i, h1, h2, h3⟩)
      · exact Or.inl h1
      · exact Or.inr ⟨k, by omega, by omega, h1⟩
      · exact Or.inr ⟨i, by omega, by omega, h3⟩
    · rintro (h1 | ⟨i, h1, h2, h3⟩)
      · exact Or.inl (Or.inl h1)
      · by_cases e : i = k
        · exact Or.inl (Or.inr (e ▸ h3))
        · exact Or.inr ⟨i, by omega, by omega, h3⟩
theorem or_if_bit {c : Bool} {a x t : Nat} : (if c = true then a ||| x else a).testBit t = true ↔ (a.testBit t = true ∨ (c = true ∧ x.testBit t = true)) := by
  cases c
  · rw [if_neg (by decide)]; simp
  · rw [if_pos rfl, Nat.testBit_or]; simp
theorem lt16_of_bits {a : Nat} (h : ∀ t, a.testBit t = true → t < 16) : a < 65536 := Nat.lt_pow_two_of_testBit (n := 16) a (fun i hi => by
  cases e : a.testBit i
  · rfl
  · exact absurd (h i e) (by omega))
theorem bit_lt16 {a t : Nat} (h : a < 65536) (ht : a.testBit t = true) : t < 16 := by
  rcases Nat.lt_or_ge t 16 with h1 | h1
  · exact h1
  · have : a.testBit t = false := Nat.testBit_lt_two_pow (Nat.lt_of_lt_of_le h (by
      have : 2 ^ 16 ≤ 2 ^ t := Nat.pow_le_pow_right (by decide) h1
      simpa using this))
    rw [this] at ht
    cases ht
theorem eq_of_bits {a b : Nat} (h : ∀ t, a.testBit t = true ↔ b.testBit t = true) : a = b := Nat.eq_of_testBit_eq (fun t => Bool.eq_iff_iff.mpr (h t))
theorem fb_sm_pos {f : Nat → Nat} {n : Nat} : 0 < fb_sm f n ↔ ∃ k, k < n ∧ 0 < f k := by
  constructor
  · induction n with
    | zero => intro h; exact absurd h (Nat.lt_irrefl 0)
    | succ n ih =>
      intro h
      rw [fb_sm_succ] at h
      by_cases h0 : 0 < f n
      · exact ⟨n, by omega, h0⟩
      · obtain ⟨k, h1, h2⟩ := ih (by omega)
        exact ⟨k, by omega, h2⟩
  · rintro ⟨k, h1, h2⟩
    have := fb_sm_part f h1
    omega
/-- whether from q to t is printed -/
def yArr (s : zPS) (q t : Nat) : Prop := ∃ l j, l < min (pw s) 20 ∧ j < pP s l ∧ pW s l j % 16 = q ∧ pW s l j / 16 % 16 = t
theorem zN_pos {s : zPS} {q t : Nat} (ht : t < 16) : 0 < zN s (zPx (16 * q + t)) ↔ yArr s q t := by
  unfold zN
  rw [fb_sm_pos]
  constructor
  · rintro ⟨l, h1, h2⟩
    obtain ⟨j, h3, h4⟩ := fb_ct_pos.mp h2
    have := of_decide_eq_true h4
    exact ⟨l, j, h1, h3, by omega, by omega⟩
  · rintro ⟨l, j, h1, h2, h3, h4⟩
    exact ⟨l, h1, fb_ct_pos.mpr ⟨j, h2, decide_eq_true (by omega)⟩⟩
def yRm (s : zPS) (q : Nat) : Nat := zMask (fun t => decide (0 < zN s (zPx (16 * q + t))))
theorem yRm_bit {s : zPS} {q t : Nat} : (yRm s q).testBit t = true ↔ (t < 16 ∧ yArr s q t) := by
  unfold yRm
  rw [zMask_bit, Bool.and_eq_true, decide_eq_true_eq, decide_eq_true_eq]
  exact ⟨fun z => ⟨z.1, (zN_pos z.1).mp z.2⟩, fun z => ⟨z.1, (zN_pos z.1).mpr z.2⟩⟩
def yGo (s : zPS) (S : Nat) : Nat := zFold (fun q a => if S.testBit q then a ||| yRm s q else a) 16 0 S
theorem yGo_bit {s : zPS} {S t : Nat} : (yGo s S).testBit t = true ↔ (S.testBit t = true ∨ (t < 16 ∧ ∃ q, q < 16 ∧ S.testBit q = true ∧ yArr s q t)) := by
  unfold yGo
  rw [zFold_bit (B := fun q => S.testBit q = true ∧ (yRm s q).testBit t = true) (fun k a => or_if_bit)]
  constructor
  · rintro (h | ⟨i, h1, h2, h3, h4⟩)
    · exact Or.inl h
    · exact Or.inr ⟨(yRm_bit.mp h4).1, i, by omega, h3, (yRm_bit.mp h4).2⟩
  · rintro (h | ⟨h1, q, h2, h3, h4⟩)
    · exact Or.inl h
    · exact Or.inr ⟨q, by omega, by omega, h3, yRm_bit.mpr ⟨h1, h4⟩⟩
theorem yGo_lt {s : zPS} {S : Nat} (h : S < 65536) : yGo s S < 65536 := lt16_of_bits fun t ht => by
  rcases yGo_bit.mp ht with h1 | h1
  · exact bit_lt16 h h1
  · exact h1.1
/-- the reference's round -/
def yHi (s : zPS) (S q m j a : Nat) : Nat := zFold (fun j a => if S.testBit (pW s q j % 16) then a ||| 2 ^ (pW s q j / 16 % 16) else a) m j a
def yHo (s : zPS) (S m i a : Nat) : Nat := zFold (fun i a => yHi s S ((pw s - (i + 1)) % 20) (pP s ((pw s - (i + 1)) % 20)) 0 a) m i a
theorem yHo_bit {s : zPS} {S a t : Nat} : (yHo s S (min (pw s) 20) 0 a).testBit t = true ↔ (a.testBit t = true ∨ ∃ q, S.testBit q = true ∧ yArr s q t) := by
  unfold yHo
  rw [zFold_bit (B := fun i => ∃ j, j < pP s ((pw s - (i + 1)) % 20) ∧ S.testBit (pW s ((pw s - (i + 1)) % 20) j % 16) = true ∧ pW s ((pw s - (i + 1)) % 20) j / 16 % 16 = t) (fun k a => ?_)]
  · constructor
    · rintro (h | ⟨i, h1, h2, j, h3, h4, h5⟩)
      · exact Or.inl h
      · refine Or.inr ⟨_, h4, (pw s - (i + 1)) % 20, j, ?_, h3, rfl, h5⟩
        omega
    · rintro (h | ⟨q, h1, l, j, h2, h3, h4, h5⟩)
      · exact Or.inl h
      · refine Or.inr ⟨((pw s - (l + 1)) % 20), by omega, by omega, ?_⟩
        rw [show (pw s - ((pw s - (l + 1)) % 20 + 1)) % 20 = l by omega]
        exact ⟨j, h3, by rw [h4]; exact h1, h5⟩
  · unfold yHi
    rw [zFold_bit (B := fun j => S.testBit (pW s ((pw s - (k + 1)) % 20) j % 16) = true ∧ (2 ^ (pW s ((pw s - (k + 1)) % 20) j / 16 % 16)).testBit t = true) (fun k a => or_if_bit)]
    constructor
    · rintro (h | ⟨i, h1, h2, h3, h4⟩)
      · exact Or.inl h
      · rw [Nat.testBit_two_pow] at h4
        exact Or.inr ⟨i, by omega, h3, of_decide_eq_true h4⟩
    · rintro (h | ⟨i, h1, h2, h3⟩)
      · exact Or.inl h
      · exact Or.inr ⟨i, by omega, by omega, h2, by rw [Nat.testBit_two_pow]; exact decide_eq_true h3⟩
theorem yArr_lt {s : zPS} {q t : Nat} (h : yArr s q t) : q < 16 ∧ t < 16 := by
  obtain ⟨l, j, h1, h2, h3, h4⟩ := h
  omega
theorem yHo_lt {s : zPS} {S a : Nat} (h : a < 65536) : yHo s S (min (pw s) 20) 0 a < 65536 := lt16_of_bits fun t ht => by
  rcases yHo_bit.mp ht with h1 | ⟨q, _, h2⟩
  · exact bit_lt16 h h1
  · exact (yArr_lt h2).2
theorem yHo_first {s : zPS} {p : Nat} : yHo s (0 ||| 2 ^ p) (min (pw s) 20) 0 0 = yRm s p := eq_of_bits fun t => by
  rw [yHo_bit, yRm_bit]
  constructor
  · rintro (h | ⟨q, h1, h2⟩)
    · rw [Nat.zero_testBit] at h; cases h
    · rw [Nat.zero_or, Nat.testBit_two_pow] at h1
      have h1 := of_decide_eq_true h1
      subst h1
      exact ⟨(yArr_lt h2).2, h2⟩
  · rintro ⟨h1, h2⟩
    exact Or.inr ⟨p, by rw [Nat.zero_or, Nat.testBit_two_pow]; exact decide_eq_true rfl, h2⟩
theorem yHo_go {s : zPS} {p S : Nat} (hS : ∀ t, (yRm s p).testBit t = true → S.testBit t = true) : yHo s (S ||| 2 ^ p) (min (pw s) 20) 0 S = yGo s S := eq_of_bits fun t => by
  rw [yHo_bit, yGo_bit]
  constructor
  · rintro (h | ⟨q, h1, h2⟩)
    · exact Or.inl h
    · rw [Nat.testBit_or, Nat.testBit_two_pow, Bool.or_eq_true, decide_eq_true_eq] at h1
      rcases h1 with h1 | h1
      · exact Or.inr ⟨(yArr_lt h2).2, q, (yArr_lt h2).1, h1, h2⟩
      · subst h1
        exact Or.inl (hS t (yRm_bit.mpr ⟨(yArr_lt h2).2, h2⟩))
  · rintro (h | ⟨h1, q, h2, h3, h4⟩)
    · exact Or.inl h
    · exact Or.inr ⟨q, by rw [Nat.testBit_or, h3, Bool.true_or], h4⟩
def yPc (S : Nat) : Nat := fb_ct (fun i => S.testBit i) 16
theorem yPc_grow {S T : Nat} (hT : T < 65536) (h : ∀ t, S.testBit t = true → T.testBit t = true) (hne : T ≠ S) : yPc S < yPc T := by
  have : ∃ i, i < 16 ∧ S.testBit i = false ∧ T.testBit i = true := by
    apply Classical.byContradiction
    intro hno
    apply hne
    refine eq_of_bits fun t => ⟨fun ht => ?_, h t⟩
    cases hs : S.testBit t
    · exact absurd ⟨t, bit_lt16 hT ht, hs, ht⟩ hno
    · rfl
  obtain ⟨i, h1, h2, h3⟩ := this
  have e1 := fb_ct_upd (fun i => S.testBit i) true h1
  have e2 : fb_ct (fun k => if k = i then true else S.testBit k) 16 ≤ fb_ct (fun i => T.testBit i) 16 := fb_ct_sub (fun k _ hk => by
    by_cases e : k = i
    · rw [e]; exact h3
    · exact h k (by simpa [e] using hk))
  rw [if_neg (by rw [h2]; decide), if_pos rfl] at e1
  unfold yPc
  omega
def yFix (g : Nat → Nat) : Nat → Nat → Nat
  | 0, S => S
  | n + 1, S => if g S = S then S else yFix g n (g S)
theorem yFix_lt {g : Nat → Nat} (hg : ∀ S, S < 65536 → g S < 65536) : ∀ n S, S < 65536 → yFix g n S < 65536
  | 0, _, h => h
  | n + 1, S, h => by
    unfold yFix
    split
    · exact h
    · exact yFix_lt hg n _ (hg S h)
theorem pr_reached {F : Nat} (hF : 300 ≤ F) (x : Int32) : zPair (fX11_reached F x) (fX12_reached F x) := by
  refine zPair.mk fun A μ hW hC => ?_
  cases hz : zIn x 0 15
  · refine ⟨-1, A, μ, ?_, hW, hC, fun _ _ => rfl, fun μ' hM => ⟨μ', ?_, hM, fun _ _ => rfl⟩⟩
    · unfold fX11_reached
      rw [e_isPerson, zBd_s, hz, z_bf]
    · unfold fX12_reached
      rw [e_in, zBd_s, hz, z_bf]
  · obtain ⟨p, -, hp, rfl⟩ := zIn_t (by decide) (by decide) hz
    have hws := hW.2.1
    have hle : ∀ x, zN (aN A) (zPx x) ≤ 320 := fun t => zN_le _ _ hws
    obtain ⟨r, m, e1, h55, hfr⟩ := e_tallies hF hC.2.1 hws
    have kwb : ∀ q, q < 16 → fX0_whisperedToBy F (nI q) m = some (nI (yRm (aN A) q), m) := by
      intro q hq
      have key : ∀ d t a f, t + d = 16 → d < f → fX0_whisperedToBy_4 F f (nI q) (nI a) (nI t) m = some (nI (zFold (fun t a => if decide (0 < zN (aN A) (zPx (16 * q + t))) then a ||| 2 ^ t else a) d t a), m) := by
        intro d
        induction d with
        | zero =>
          intro t a f ht hf
          obtain ⟨f, rfl⟩ := z_s hf
          rw [fX0_whisperedToBy_4, z_done (by omega) (by omega)]
          rfl
        | succ d ih =>
          intro t a f ht hf
          obtain ⟨f, rfl⟩ := z_s hf
          have l1 := hle (16 * q + t)
          rw [fX0_whisperedToBy_4, z_more (by omega) (by decide), pk_mul, nI_add, Nat.mul_comm q 16, zG_in rfl (by omega) (by decide), nI_clamp (by omega), h55 _ (by omega), nI_add, zq_1shl (by omega), fa_or]
          have hx : zFold (fun t a => if decide (0 < zN (aN A) (zPx (16 * q + t))) then a ||| 2 ^ t else a) (d + 1) t a = zFold (fun t a => if decide (0 < zN (aN A) (zPx (16 * q + t))) then a ||| 2 ^ t else a) d (t + 1) (if decide (0 < zN (aN A) (zPx (16 * q + t))) then a ||| 2 ^ t else a) := rfl
          rw [hx]
          by_cases h0 : 0 < zN (aN A) (zPx (16 * q + t))
          · rw [if_neg (nI_nle (by omega) (by omega)), decide_eq_true h0, if_pos rfl]
            exact ih (t + 1) _ f (by omega) (by omega)
          · rw [if_pos (show nI (zN (aN A) (zPx (16 * q + t))) ≤ 0 by rw [show zN (aN A) (zPx (16 * q + t)) = 0 by omega]; decide), decide_eq_false h0, if_neg (by decide)]
            exact ih (t + 1) _ f (by omega) (by omega)
      exact key 16 0 0 F rfl (by omega)
    have k20 : ∀ (K : Int32 → Int32 → zMem → Option zR) (S r : Nat), S < 65536 → ∀ d q a f, q + d = 16 → d < f → fX0_reachedFrom_20 F K f (nI S) (nI r) (nI a) (nI q) m = if nI (zFold (fun q a => if S.testBit q then a ||| yRm (aN A) q else a) d q a) = nI S then some (nI S, m) else K (nI (zFold (fun q a => if S.testBit q then a ||| yRm (aN A) q else a) d q a)) (nI (r + 1)) m := by
      intro K S r hS d
      induction d with
      | zero =>
        intro q a f hq hf
        obtain ⟨f, rfl⟩ := z_s hf
        rw [fX0_reachedFrom_20, z_done (by omega) (by omega), nI_add]
        rfl
      | succ d ih =>
        intro q a f hq hf
        obtain ⟨f, rfl⟩ := z_s hf
        rw [fX0_reachedFrom_20, z_more (by omega) (by decide), e_hasBit (by omega) (by omega), zBd_s, kwb q (by omega), zBd_s, nI_add, fa_or]
        have hx : zFold (fun q a => if S.testBit q then a ||| yRm (aN A) q else a) (d + 1) q a = zFold (fun q a => if S.testBit q then a ||| yRm (aN A) q else a) d (q + 1) (if S.testBit q then a ||| yRm (aN A) q else a) := rfl
        rw [hx]
        cases S.testBit q
        · rw [z_bf, if_neg (show ¬ false = true by decide)]
          exact ih (q + 1) _ f (by omega) (by omega)
        · rw [z_bt, if_pos (show true = true from rfl)]
          exact ih (q + 1) _ f (by omega) (by omega)
    have k8 : ∀ d S r f, r + d = 16 → S < 65536 → d < f → fX0_reachedFrom_8 F f (nI S) (nI r) m = some (nI (yFix (yGo (aN A)) d S), m) := by
      intro d
      induction d with
      | zero =>
        intro S r f hr hS hf
        obtain ⟨f, rfl⟩ := z_s hf
        rw [fX0_reachedFrom_8, z_done (by omega) (by omega)]
        rfl
      | succ d ih =>
        intro S r f hr hS hf
        obtain ⟨f, rfl⟩ := z_s hf
        have hG := yGo_lt (s := aN A) hS
        rw [fX0_reachedFrom_8, z_more (by omega) (by decide), k20 _ S r hS 16 0 S F rfl (by omega)]
        show (if nI (yGo (aN A) S) = nI S then some (nI S, m) else fX0_reachedFrom_8 F f (nI (yGo (aN A) S)) (nI (r + 1)) m) = some (nI (if yGo (aN A) S = S then S else yFix (yGo (aN A)) d (yGo (aN A) S)), m)
        rw [nI_eqn (by omega) (by omega)]
        by_cases h : yGo (aN A) S = S
        · rw [if_pos h, if_pos h]
        · rw [if_neg h, if_neg h]
          exact ih _ (r + 1) f (by omega) hG (by omega)
    have hRl : yRm (aN A) p < 65536 := zMask_lt _
    refine ⟨nI (yFix (yGo (aN A)) 15 (yRm (aN A) p)), A, m, ?_, hW, rc_scr hC (fun c _ hc => hfr c (by omega)), fun c hc => hfr c (by omega), fun μ' hM => ?_⟩
    · unfold fX11_reached fX0_reachedFrom
      rw [e_isPerson, zBd_s, hz, z_bt, e1, zBd_s, kwb p (by omega), zBd_s, k8 15 _ 1 F rfl hRl (by omega), zBd_s]
    · have hN := hM.2.1
      have h20 : min (pw (aN A)) 20 ≤ 20 := Nat.min_le_right _ _
      have m38 : ∀ (K16 : Int32 → Int32 → Int32 → zMem → Option zR) (K : Int32 → Int32 → Int32 → Int32 → zMem → Option zR) (S i : Nat), S < 65536 → i + 1 ≤ min (pw (aN A)) 20 → ∀ d j a f, j + d = pP (aN A) ((pw (aN A) - (i + 1)) % 20) → d < f → fX12_reached_38 F K16 K f (nI p) (nI a) (nI S) (nI (i + 1)) (nI j) μ' = K (nI p) (nI (yHi (aN A) (S ||| 2 ^ p) ((pw (aN A) - (i + 1)) % 20) d j a)) (nI S) (nI (i + 1 + 1)) μ' := by
        intro K16 K S i hS hi d
        have hq : (pw (aN A) - (i + 1)) % 20 < 20 := Nat.mod_lt _ (by decide)
        have h16 := hws.2.2.2.2.2.2.1 _ hq
        have hP := hN.2.2.2.2.1 _ hq
        have hSp : S ||| 2 ^ p < 65536 := or2_lt hS (by omega)
        induction d with
        | zero =>
          intro j a f hj hf
          obtain ⟨f, rfl⟩ := z_s hf
          rw [fX12_reached_38, e_issueOf hN hws (by omega), zBd_s, nI_add, zG_in rfl (by omega) (by decide), nI_clamp (by omega), hP, z_done (by omega) (by omega), nI_add]
          rfl
        | succ d ih =>
          intro j a f hj hf
          obtain ⟨f, rfl⟩ := z_s hf
          have hW := hws.2.2.2.2.2.2.2.1 _ j hq (by omega)
          rw [fX12_reached_38, e_issueOf hN hws (by omega), zBd_s, nI_add, zG_in rfl (by omega) (by decide), nI_clamp (by omega), hP, z_more (by omega) (by omega), e_printedOf hN hws (by omega) (by omega) (by decide), zBd_s, if_pos rfl, zq_1shl (by omega), fa_or, e_has (by omega) (by omega), zBd_s, e_printedOf hN hws (by omega) (by omega) (by decide), zBd_s, if_neg (show ¬ 1 = 0 by decide), if_pos rfl, zq_1shl (by omega), fa_or, nI_add]
          have hx : yHi (aN A) (S ||| 2 ^ p) ((pw (aN A) - (i + 1)) % 20) (d + 1) j a = yHi (aN A) (S ||| 2 ^ p) ((pw (aN A) - (i + 1)) % 20) d (j + 1) (if (S ||| 2 ^ p).testBit (pW (aN A) ((pw (aN A) - (i + 1)) % 20) j % 16) then a ||| 2 ^ (pW (aN A) ((pw (aN A) - (i + 1)) % 20) j / 16 % 16) else a) := rfl
          rw [hx]
          cases (S ||| 2 ^ p).testBit (pW (aN A) ((pw (aN A) - (i + 1)) % 20) j % 16)
          · rw [z_bf, if_neg (by decide)]
            exact ih (j + 1) _ f (by omega) (by omega)
          · rw [z_bt, if_pos rfl]
            exact ih (j + 1) _ f (by omega) (by omega)
      have m26 : ∀ (K16 : Int32 → Int32 → Int32 → zMem → Option zR) (S : Nat), S < 65536 → ∀ d i a f, i + d = min (pw (aN A)) 20 → d < f → fX12_reached_26 F K16 f (nI p) (nI a) (nI S) (nI (i + 1)) μ' = K16 (nI p) (nI (yHo (aN A) (S ||| 2 ^ p) d i a)) (nI S) μ' := by
        intro K16 S hS d
        induction d with
        | zero =>
          intro i a f hi hf
          obtain ⟨f, rfl⟩ := z_s hf
          rw [fX12_reached_26, e_backMany hN hws, zBd_s, if_pos ((nI_ltI (by omega) (by omega)).mpr (by omega))]
          rfl
        | succ d ih =>
          intro i a f hi hf
          obtain ⟨f, rfl⟩ := z_s hf
          have hq : (pw (aN A) - (i + 1)) % 20 < 20 := Nat.mod_lt _ (by decide)
          have h16 := hws.2.2.2.2.2.2.1 _ hq
          rw [fX12_reached_26, e_backMany hN hws, zBd_s, if_neg (fun z => by have := (nI_ltI (by omega) (by omega)).mp z; omega), m38 _ _ S i hS (by omega) (pP (aN A) ((pw (aN A) - (i + 1)) % 20)) 0 a F (by omega) (by omega)]
          exact ih (i + 1) _ f (by omega) (by omega)
      have m16 : ∀ d S B f, 16 - yPc S ≤ d → S < 65536 → B < 65536 → S ≠ B → (∀ t, (yRm (aN A) p).testBit t = true → S.testBit t = true) → d + 2 ≤ f → ∀ d2, d ≤ d2 → fX12_reached_16 F f (nI p) (nI S) (nI B) μ' = some (nI (yFix (yGo (aN A)) d2 S), μ') := by
        intro d
        induction d with
        | zero =>
          intro S B f hd hS hB hne hR hf d2 hd2
          obtain ⟨f, rfl⟩ : ∃ g, f = g + 1 + 1 := ⟨f - 2, by omega⟩
          have hG := yGo_lt (s := aN A) hS
          rw [fX12_reached_16, nI_eqn (by omega) (by omega), if_neg hne, m26 _ S hS (min (pw (aN A)) 20) 0 S F (by omega) (by omega), yHo_go hR]
          have hsame : yGo (aN A) S = S := by
            apply Classical.byContradiction
            intro h
            have h1 := yPc_grow hG (fun t ht => yGo_bit.mpr (Or.inl ht)) h
            have h2 : yPc (yGo (aN A) S) ≤ 16 := fb_ct_le _ _
            omega
          rw [hsame, fX12_reached_16, if_pos rfl]
          cases d2 with
          | zero => rfl
          | succ d2 => unfold yFix; rw [if_pos hsame]
        | succ d ih =>
          intro S B f hd hS hB hne hR hf d2 hd2
          obtain ⟨f, rfl⟩ : ∃ g, f = g + 1 := ⟨f - 1, by omega⟩
          obtain ⟨d2, rfl⟩ : ∃ g, d2 = g + 1 := ⟨d2 - 1, by omega⟩
          have hG := yGo_lt (s := aN A) hS
          rw [fX12_reached_16, nI_eqn (by omega) (by omega), if_neg hne, m26 _ S hS (min (pw (aN A)) 20) 0 S F (by omega) (by omega), yHo_go hR]
          unfold yFix
          by_cases h : yGo (aN A) S = S
          · obtain ⟨f, rfl⟩ : ∃ g, f = g + 1 := ⟨f - 1, by omega⟩
            rw [h, fX12_reached_16, if_pos rfl, if_pos rfl]
          · rw [if_neg h]
            have h1 := yPc_grow hG (fun t ht => yGo_bit.mpr (Or.inl ht)) h
            exact ih (yGo (aN A) S) S f (by omega) hG hS h (fun t ht => yGo_bit.mpr (Or.inl (hR t ht))) (by omega) d2 (by omega)
      refine ⟨μ', ?_, hM, fun _ _ => rfl⟩
      unfold fX12_reached
      rw [e_in, zBd_s, hz, z_bt]
      obtain ⟨f, hf⟩ : ∃ f, F = f + 1 := ⟨F - 1, by omega⟩
      have e0 : fX12_reached_16 F F (nI p) (nI 0) (-1 : Int32) μ' = fX12_reached_16 F (f + 1) (nI p) (nI 0) (-1 : Int32) μ' := by rw [← hf]
      rw [e0, fX12_reached_16, if_neg (show ¬ nI 0 = (-1 : Int32) by decide), m26 _ 0 (by decide) (min (pw (aN A)) 20) 0 0 F (by omega) (by omega), yHo_first]
      by_cases h0 : yRm (aN A) p = 0
      · obtain ⟨f, rfl⟩ : ∃ g, f = g + 1 := ⟨f - 1, by omega⟩
        rw [h0, fX12_reached_16, if_pos rfl]
        unfold yFix
        have hg0 : yGo (aN A) 0 = 0 := eq_of_bits fun t => by
          rw [yGo_bit]
          constructor
          · rintro (h | ⟨_, q, _, h, _⟩)
            · exact h
            · rw [Nat.zero_testBit] at h; cases h
          · exact Or.inl
        rw [if_pos hg0]
      · refine m16 15 _ 0 f ?_ hRl (by decide) h0 (fun t ht => ht) (by omega) 15 (Nat.le_refl _)
        have h1 := yPc_grow (S := 0) hRl (fun t ht => by rw [Nat.zero_testBit] at ht; cases ht) h0
        omega
