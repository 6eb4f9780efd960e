def yP (s : zPS) (T : Nat) : Prop := nAn T (pT s) = 0 ∧ yUn s T = yAny s
def yLe (B T : Nat) : Prop := zPop B < zPop T ∨ (zPop B = zPop T ∧ B ≤ T)
def yInv (s : zPS) (k B : Nat) : Prop := yP s B ∧ B < 65536 ∧ ∀ T, T < k → yP s T → yLe B T
theorem yLe_trans {a b c : Nat} (h1 : yLe a b) (h2 : yLe b c) : yLe a c := by unfold yLe at *; omega
theorem yUn_0 (s : zPS) : yUn s 0 = 0 := eq_of_bits fun t => by
  rw [yUn_bit, Nat.zero_testBit]
  constructor
  · rintro ⟨q, _, h, _⟩; rw [Nat.zero_testBit] at h; cases h
  · intro h; cases h
theorem yUn_told (s : zPS) : yUn s (pT s) = yAny s := eq_of_bits fun t => by
  rw [yUn_bit, yAny_bit]
  unfold zSec
  constructor
  · rintro ⟨q, h1, h2, h3⟩; exact ⟨q, h1, by rw [if_pos h2]; exact h3⟩
  · rintro ⟨q, h1, h3⟩
    cases h2 : (pT s).testBit q
    · rw [h2, if_neg (by decide), Nat.zero_testBit] at h3; cases h3
    · rw [h2, if_pos rfl] at h3; exact ⟨q, h1, h2, h3⟩
theorem e_mEnough {F w0 : Nat} {s : zPS} {μ : zMem} (hF : 66000 ≤ F) (hr0 : zRepN 61 s μ) (hw : zWFS s) (hw0 : w0 ≤ 1) : zTo (fX12_enough_27 F F (nI w0) (nI (pT s)) (nI (yAny s)) (nI (pT s)) (nI 0) μ) (fun r m => (∃ B, yInv s (pT s + 1) B ∧ r = if w0 = 0 then nI (zPop B) else nI B) ∧ ∀ c, c ≠ 82 → m c = μ c) := by
  have hT := hw.1
  have hA := yAny_lt hw
  have hR : ∀ m, (∀ c, c ≠ 82 → m c = μ c) → zRepN 61 s m := fun m h => hr0.of (h 61 (by decide))
  have k27 : ∀ d k B f m, k + d = pT s + 1 → d < f → yInv s k B → (∀ c, c ≠ 82 → m c = μ c) → (∀ T, T < k → m 82 T = nI (yUn s T)) → zTo (fX12_enough_27 F f (nI w0) (nI (pT s)) (nI (yAny s)) (nI B) (nI k) m) (fun r m => (∃ B, yInv s (pT s + 1) B ∧ r = if w0 = 0 then nI (zPop B) else nI B) ∧ ∀ c, c ≠ 82 → m c = μ c) := by
    intro d
    induction d with
    | zero =>
      intro k B f m hk hf hI hfr h82
      obtain ⟨f, rfl⟩ := z_s hf
      have hk : k = pT s + 1 := by omega
      subst hk
      have hB := hI.2.1
      rw [fX12_enough_27, if_pos ((nI_ltI (by omega) (by omega)).mpr (by omega)), e_bits (by omega) (by omega), zBd_s]
      by_cases h : w0 = 0
      · rw [if_pos ((nI_z (by omega)).mpr h)]
        exact zTo_ret ⟨⟨B, hI, by rw [if_pos h]⟩, hfr⟩
      · rw [if_neg (fun z => h ((nI_z (by omega)).mp z))]
        exact zTo_ret ⟨⟨B, hI, by rw [if_neg h]⟩, hfr⟩
    | succ d ih =>
      intro k B f m hk hf hI hfr h82
      obtain ⟨f, rfl⟩ := z_s hf
      have hB := hI.2.1
      have hUk := yUn_lt hw k
      rw [fX12_enough_27, if_neg (fun z => by have := (nI_ltI (by omega) (by omega)).mp z; omega)]
      have k100 : ∀ v, v = nI (yUn s k) → zTo (fX12_enough_100 F (fX12_enough_27 F f) (nI w0) (nI (pT s)) (nI (yAny s)) (nI B) (nI k) v (nI k) m) (fun r m => (∃ B, yInv s (pT s + 1) B ∧ r = if w0 = 0 then nI (zPop B) else nI B) ∧ ∀ c, c ≠ 82 → m c = μ c) := by
        intro v hv
        subst hv
        unfold fX12_enough_100
        rw [zG_in rfl (by omega) (by decide), nI_clamp (by omega)]
        refine zTo_let fun m1 h1 => ?_
        have hfr1 : ∀ c, c ≠ 82 → m1 c = μ c := fun c hc => by rw [h1, zUp_ne hc, hfr c hc]
        have hrow : ∀ T, T < k + 1 → m1 82 T = nI (yUn s T) := fun T hTk => by
          by_cases e : T = k
          · rw [e, h1, zUp_s]
          · rw [h1, zUp_o e]; exact h82 T (by omega)
        have hgo : ∀ B2, yInv s (k + 1) B2 → zTo (fX12_enough_27 F f (nI w0) (nI (pT s)) (nI (yAny s)) (nI B2) (nI (k + 1)) m1) (fun r m => (∃ B, yInv s (pT s + 1) B ∧ r = if w0 = 0 then nI (zPop B) else nI B) ∧ ∀ c, c ≠ 82 → m c = μ c) := fun B2 hB2 => ih (k + 1) B2 f m1 (by omega) (by omega) hB2 hfr1 hrow
        have hkeep : (yP s k → yLe B k) → yInv s (k + 1) B := fun h => ⟨hI.1, hB, fun T hT2 hP => by
          by_cases e : T = k
          · subst e; exact h hP
          · exact hI.2.2 T (by omega) hP⟩
        have hnew : yP s k → yLe k B → yInv s (k + 1) k := fun hP h => ⟨hP, by omega, fun T hT2 hP2 => by
          by_cases e : T = k
          · subst e; exact Or.inr ⟨rfl, Nat.le_refl _⟩
          · exact yLe_trans h (hI.2.2 T (by omega) hP2)⟩
        rw [zq_andn (show k < 65536 by omega), hrow k (by omega), zG_in rfl (by omega) (by decide), nI_add]
        have hn := nAn_lt (a := k) (b := pT s) (by omega)
        by_cases c1 : nAn k (pT s) = 0
        · rw [if_pos ((nI_z (by omega)).mpr c1), nI_eqn (by omega) (by omega)]
          by_cases c2 : yUn s k = yAny s
          · have p1 := zPop_le k
            have p2 := zPop_le B
            rw [if_pos c2, e_bits (by omega) (by omega), zBd_s, e_bits (by omega) (by omega), zBd_s, e_bits (by omega) (by omega), zBd_s, e_bits (by omega) (by omega), zBd_s, nI_eqn (by omega) (by omega)]
            by_cases c3 : zPop k < zPop B
            · rw [if_pos ((nI_ltI (by omega) (by omega)).mpr c3)]
              exact hgo k (hnew ⟨c1, c2⟩ (Or.inl c3))
            · rw [if_neg (fun z => c3 ((nI_ltI (by omega) (by omega)).mp z))]
              by_cases c4 : zPop k = zPop B
              · rw [if_pos c4]
                by_cases c5 : B ≤ k
                · rw [if_pos ((nI_leI (by omega) (by omega)).mpr c5)]
                  exact hgo B (hkeep fun _ => Or.inr ⟨c4.symm, c5⟩)
                · rw [if_neg (fun z => c5 ((nI_leI (by omega) (by omega)).mp z))]
                  exact hgo k (hnew ⟨c1, c2⟩ (Or.inr ⟨c4, by omega⟩))
              · rw [if_neg c4]
                exact hgo B (hkeep fun _ => Or.inl (by omega))
          · rw [if_neg c2]
            exact hgo B (hkeep fun hP => absurd hP.2 c2)
        · rw [if_neg (fun z => c1 ((nI_z (by omega)).mp z))]
          exact hgo B (hkeep fun hP => absurd hP.1 c1)
      have k62 : ∀ l, l < 16 → (∀ j, j < l → k.testBit j = false) → (k ≠ 0 → k.testBit l = true) → zTo (fX12_enough_62 F (fX12_enough_27 F f) (nI w0) (nI (pT s)) (nI (yAny s)) (nI B) (nI k) (nI l) m) (fun r m => (∃ B, yInv s (pT s + 1) B ∧ r = if w0 = 0 then nI (zPop B) else nI B) ∧ ∀ c, c ≠ 82 → m c = μ c) := by
        intro l hl h1 h2
        unfold fX12_enough_62
        by_cases h0 : k = 0
        · subst h0
          rw [if_pos (show nI 0 = 0 from rfl)]
          exact k100 _ (by rw [yUn_0])
        · have hand : k &&& (k - 1) ≤ k - 1 := Nat.and_le_right
          rw [if_neg (fun z => h0 ((nI_z (by omega)).mp z)), pk_sub (by omega), fa_and, zG_in rfl (by omega) (by decide), nI_add, zG_in rfl (by omega) (by decide), nI_clamp (by omega), nI_clamp (by omega), h82 _ (by omega), (hR m hfr).2.1 l hl, fa_or, yUn_low hl h1 (h2 h0)]
          exact k100 _ rfl
      have k36 : ∀ q l f2, l + q = 15 → q < f2 → (∀ j, j < l → k.testBit j = false) → zTo (fX12_enough_36 F (fX12_enough_27 F f) f2 (nI w0) (nI (pT s)) (nI (yAny s)) (nI B) (nI k) (nI l) m) (fun r m => (∃ B, yInv s (pT s + 1) B ∧ r = if w0 = 0 then nI (zPop B) else nI B) ∧ ∀ c, c ≠ 82 → m c = μ c) := by
        intro q
        induction q with
        | zero =>
          intro l f2 hl hf2 h1
          obtain ⟨f2, rfl⟩ := z_s hf2
          have hl : l = 15 := by omega
          subst hl
          rw [fX12_enough_36, z_done (by omega) (by omega)]
          refine k62 15 (by omega) h1 (fun h0 => ?_)
          cases hb : k.testBit 15
          · refine absurd (eq_of_bits fun t => ?_) h0
            rw [Nat.zero_testBit]
            constructor
            · intro ht
              have h16 := bit_lt16 (show k < 65536 by omega) ht
              by_cases e : t = 15
              · rw [e, hb] at ht; exact ht
              · rw [h1 t (by omega)] at ht; exact ht
            · intro h; cases h
          · rfl
        | succ q ihq =>
          intro l f2 hl hf2 h1
          obtain ⟨f2, rfl⟩ := z_s hf2
          rw [fX12_enough_36, z_more (by omega) (by decide), e_has (by omega) (by omega), zBd_s, nI_add]
          cases hb : k.testBit l
          · rw [z_bf]
            refine ihq (l + 1) f2 (by omega) (by omega) (fun j hj => ?_)
            by_cases e : j = l
            · rw [e]; exact hb
            · exact h1 j (by omega)
          · rw [z_bt]
            exact k62 l (by omega) h1 (fun _ => hb)
      exact k36 15 0 F (by omega) (by omega) (fun j hj => by omega)
  refine k27 (pT s + 1) 0 (pT s) F μ (by omega) (by omega) ⟨⟨(nAn_0 hT).mpr fun _ h => h, yUn_told s⟩, hT, fun T h => by omega⟩ (fun _ _ => rfl) (fun T h => by omega)
theorem le_of_bits {a b : Nat} (h : ∀ t, a.testBit t = true → b.testBit t = true) : a ≤ b := by
  have : a &&& b = a := eq_of_bits fun t => by
    rw [Nat.testBit_and, Bool.and_eq_true]
    exact ⟨fun z => z.1, fun z => ⟨z, h t z⟩⟩
  rw [← this]; exact Nat.and_le_right
theorem zPop_yC20 {T : Nat} (h : T < 65536) : zPop T = yC 20 T := by
  rw [← zPopN_yC, show (20 : Nat) = 16 + 4 from rfl, zPopN_big (show T < 2 ^ 16 from h)]
  rfl
theorem yP_cv {s : zPS} {T : Nat} (hT : T < 65536) (h : yP s T) : yCv (zSec s) (yAny s) T := fun t ht => by
  rw [← h.2] at ht
  obtain ⟨q, h1, h2, h3⟩ := yUn_bit.mp ht
  exact ⟨q, h2, by unfold zSec; rw [if_pos ((nAn_0 hT).mp h.1 q h2)]; exact h3⟩
theorem best_eq {s : zPS} {T B : Nat} (hw : zWFS s) (hT : yBest (zSec s) 16 (yAny s) T) (hB : yInv s (pT s + 1) B) : T = B := by
  obtain ⟨t1, t2, t3⟩ := hT
  obtain ⟨b1, b2, b3⟩ := hB
  have t1 : T < 65536 := t1
  -- it has none but told ones
  have hTt : T &&& pT s = T := by
    have h1 : yCv (zSec s) (yAny s) (T &&& pT s) := fun t ht => by
      obtain ⟨j, j1, j2⟩ := t2 t ht
      refine ⟨j, ?_, j2⟩
      rw [Nat.testBit_and, j1, Bool.true_and]
      cases hj : (pT s).testBit j
      · unfold zSec at j2; rw [hj, if_neg (by decide), Nat.zero_testBit] at j2; cases j2
      · rfl
    have h2 : T &&& pT s ≤ T := Nat.and_le_left
    have h3 : yC 20 (T &&& pT s) ≤ yC 20 T := yC_mono (fun t ht => by rw [Nat.testBit_and, Bool.and_eq_true] at ht; exact ht.1)
    rcases t3 (T &&& pT s) (by show _ < 65536; omega) h1 with h | ⟨_, h⟩ <;> omega
  have hsub : ∀ t, T.testBit t = true → (pT s).testBit t = true := fun t ht => by
    rw [← hTt, Nat.testBit_and, Bool.and_eq_true] at ht; exact ht.2
  have hPT : yP s T := by
    refine ⟨(nAn_0 t1).mpr hsub, eq_of_bits fun t => ?_⟩
    constructor
    · intro ht
      obtain ⟨q, q1, q2, q3⟩ := yUn_bit.mp ht
      exact yAny_bit.mpr ⟨q, q1, by unfold zSec; rw [if_pos (hsub q q2)]; exact q3⟩
    · intro ht
      obtain ⟨j, j1, j2⟩ := t2 t ht
      refine yUn_bit.mpr ⟨j, bit_lt16 t1 j1, j1, ?_⟩
      unfold zSec at j2
      rw [if_pos (hsub j j1)] at j2
      exact j2
  have h1 := b3 T (by have := le_of_bits hsub; omega) hPT
  have h2 := t3 B b2 (yP_cv b2 b1)
  unfold yLe at h1
  rw [zPop_yC20 b2, zPop_yC20 t1] at h1
  omega
theorem pr_enough {F : Nat} (hF : 66000 ≤ F) (x : Int32) : zPair (fX11_enough F x) (fX12_enough F x) := by
  refine zPair.mk fun A μ hW hC => ?_
  cases hz : zIn x 0 1
  · refine ⟨-1, A, μ, ?_, hW, hC, fun _ _ => rfl, fun μ' hM => ⟨μ', ?_, hM, fun _ _ => rfl⟩⟩
    · unfold fX11_enough
      rw [e_isWithin, zBd_s, hz, z_bf]
    · unfold fX12_enough
      rw [e_in, zBd_s, hz, z_bf]
  · obtain ⟨w0, -, hw0, rfl⟩ := zIn_t (by decide) (by decide) hz
    have hws := hW.2.1
    have k13 : ∀ d p f m, p + d = 16 → d < f → (∀ c, c ≠ 51 → m c = μ c) → (∀ j, j < p → m 51 j = nI (zSec (aN A) j)) → zTo (fX11_enough_13 F f (nI w0) (nI p) m) (fun r m1 => (∃ T, yBest (zSec (aN A)) 16 (yAny (aN A)) T ∧ r = if w0 = 0 then nI (zPop T) else nI T) ∧ ∀ c, c ≠ 50 → c ≠ 51 → c ≠ 52 → c ≠ 53 → m1 c = μ c) := by
      intro d
      induction d with
      | zero =>
        intro p f m hp hf hfr h51
        obtain ⟨f, rfl⟩ := z_s hf
        have hR : zRepS 3 (aN A) m := hC.2.1.of (fun k h1 h2 => hfr k (by omega))
        rw [fX11_enough_13, z_done (by omega) (by omega), e_knownToAny (by omega) hR hws, zBd_s]
        refine zTo_bd (e_finds (by omega) (by omega) (yAny_lt hws) (fun j hj => zSec_lt hws hj) (fun j hj => h51 j (by omega))) ?_
        rintro r m1 ⟨hfr1, ⟨rfl, T, hT, e50⟩ | ⟨rfl, hno⟩⟩
        · have hlt : T < 65536 := hT.1
          rw [e50, e_bitCount hlt, zBd_s]
          have hfr2 : ∀ c, c ≠ 50 → c ≠ 51 → c ≠ 52 → c ≠ 53 → m1 c = μ c := fun c c1 c2 c3 c4 => by rw [hfr1 c c1 c3 c4, hfr c c2]
          by_cases h : w0 = 0
          · rw [if_pos ((nI_z (by omega)).mpr h)]
            exact zTo_ret ⟨⟨T, hT, by rw [if_pos h]⟩, hfr2⟩
          · rw [if_neg (fun z => h ((nI_z (by omega)).mp z))]
            exact zTo_ret ⟨⟨T, hT, by rw [if_neg h]⟩, hfr2⟩
        · exact absurd (yP_cv hws.1 ⟨(nAn_0 hws.1).mpr fun _ h => h, yUn_told (aN A)⟩) (hno (pT (aN A)) hws.1)
      | succ d ih =>
        intro p f m hp hf hfr h51
        obtain ⟨f, rfl⟩ := z_s hf
        have hR : zRepS 3 (aN A) m := hC.2.1.of (fun k h1 h2 => hfr k (by omega))
        rw [fX11_enough_13, z_more (by omega) (by decide), e_secretsOf hR hws (by omega), zBd_s, zG_in rfl (by omega) (by decide), nI_clamp (by omega), nI_add]
        refine zTo_let fun m2 h2 => ?_
        refine ih (p + 1) f m2 (by omega) (by omega) (fun c hc => by rw [h2, zUp_ne hc, hfr c hc]) (fun j hj => ?_)
        rw [h2]
        by_cases e : j = p
        · rw [e, zUp_s]
        · rw [zUp_o e]; exact h51 j (by omega)
    obtain ⟨r, m, e1, ⟨T, hT, rfl⟩, hfr⟩ := k13 16 0 F μ rfl (by omega) (fun _ _ => rfl) (fun j hj => by omega)
    refine ⟨if w0 = 0 then nI (zPop T) else nI T, A, m, ?_, hW, rc_scr hC (fun c _ hc => hfr c (by omega) (by omega) (by omega) (by omega)), fun c hc => hfr c (by omega) (by omega) (by omega) (by omega), fun μ' hM => ?_⟩
    · unfold fX11_enough
      rw [e_isWithin, zBd_s, hz, z_bt]
      exact e1
    · obtain ⟨r, m2, e2, ⟨B, hB, rfl⟩, hfr2⟩ := e_mEnough hF hM.2.1 hws hw0
      refine ⟨m2, ?_, rm_scr hM (fun j hj => by rw [hfr2 60 (by decide)]) (fun c hc => hfr2 c (by omega)), fun c hc => hfr2 c (by omega)⟩
      unfold fX12_enough
      rw [e_in, zBd_s, hz, z_bt, e_toldSet (by omega) hM.2.1 hws, zBd_s, e_knownByAny (by omega) hM.2.1 hws, zBd_s, e2, best_eq hws hT hB]
