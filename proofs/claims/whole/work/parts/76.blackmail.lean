/-! ===== blackmail ===== -/
def yMs (s : zPS) (q : Nat) : Nat := zFold (fun j a => a ||| 2 ^ (pW s q j / 256)) (pP s q) 0 0
theorem yMs_lt {s : zPS} (hw : zWFS s) {q : Nat} (hq : q < 20) : yMs s q < 65536 := by
  have key : ∀ m j a, j + m = pP s q → a < 65536 → zFold (fun j a => a ||| 2 ^ (pW s q j / 256)) m j a < 65536 := by
    intro m
    induction m with
    | zero => intro j a _ h; exact h
    | succ m ih =>
      intro j a hj h
      have := hw.2.2.2.2.2.2.2.1 q j hq (by omega)
      exact ih (j + 1) _ (by omega) (or2_lt h (by omega))
  exact key (pP s q) 0 0 (by omega) (by decide)
theorem e_secretsIn {F h q : Nat} {s : zPS} {μ : zMem} (hF : 20 ≤ F) (hr : zRepS h s μ) (hw : zWFS s) (hq : q < 20) : fX8_secretsIn F h (nI q) μ = some (nI (yMs s q), μ) := by
  have h16 := hw.2.2.2.2.2.2.1 q hq
  have key : ∀ m j a f, j + m = pP s q → m < f → fX8_secretsIn_4 F h f (nI q) (nI a) (nI j) μ = some (nI (zFold (fun j a => a ||| 2 ^ (pW s q j / 256)) m j a), μ) := by
    intro m
    induction m with
    | zero =>
      intro j a f hj hf
      obtain ⟨f, rfl⟩ := z_s hf
      rw [fX8_secretsIn_4, zG_in rfl hq (by decide), nI_clamp (by omega), hr.2.2.2.2.2.2.1 q hq, z_done (by omega) (by omega)]
      rfl
    | succ m ih =>
      intro j a f hj hf
      obtain ⟨f, rfl⟩ := z_s hf
      have hW := hw.2.2.2.2.2.2.2.1 q j hq (by omega)
      rw [fX8_secretsIn_4, zG_in rfl hq (by decide), nI_clamp (by omega), hr.2.2.2.2.2.2.1 q hq, z_more (by omega) (by omega), e_whisperOf hr hw hq (by omega), zBd_s, e_secretOf hW, zBd_s, zq_1shl (by omega), fa_or, nI_add]
      exact ih (j + 1) _ f (by omega) (by omega)
  exact key (pP s q) 0 0 F (by omega) (by omega)
theorem e_mSecretsOf {F i : Nat} {s : zPS} {μ : zMem} (hF : 20 ≤ F) (hr : zRepN 61 s μ) (hw : zWFS s) (hi : i ≤ pw s) : fX12_secretsOf F (nI i) μ = some (nI (yMs s ((pw s - i) % 20)), μ) := by
  have hq : (pw s - i) % 20 < 20 := Nat.mod_lt _ (by decide)
  have h16 := hw.2.2.2.2.2.2.1 _ hq
  have key : ∀ m j a f, j + m = pP s ((pw s - i) % 20) → m < f → fX12_secretsOf_4 F f (nI i) (nI a) (nI j) μ = some (nI (zFold (fun j a => a ||| 2 ^ (pW s ((pw s - i) % 20) j / 256)) m j a), μ) := by
    intro m
    induction m with
    | zero =>
      intro j a f hj hf
      obtain ⟨f, rfl⟩ := z_s hf
      rw [fX12_secretsOf_4, e_issueOf hr hw hi, zBd_s, nI_add, zG_in rfl (by omega) (by decide), nI_clamp (by omega), hr.2.2.2.2.1 _ hq, z_done (by omega) (by omega)]
      rfl
    | succ m ih =>
      intro j a f hj hf
      obtain ⟨f, rfl⟩ := z_s hf
      have hW := hw.2.2.2.2.2.2.2.1 _ j hq (by omega)
      rw [fX12_secretsOf_4, e_issueOf hr hw hi, zBd_s, nI_add, zG_in rfl (by omega) (by decide), nI_clamp (by omega), hr.2.2.2.2.1 _ hq, z_more (by omega) (by omega), e_printedOf hr hw hi (by omega) (by decide), zBd_s, if_neg (show ¬ 2 = 0 by decide), if_neg (show ¬ 2 = 1 by decide), zq_1shl (by omega), fa_or, nI_add]
      exact ih (j + 1) _ f (by omega) (by omega)
  exact key _ 0 0 F (by omega) (by omega)
/-- the fewest that cover, 99: none do -/
def yD (M : Nat → Nat) : Nat → Nat → Nat
  | 0, S => if S = 0 then 0 else 99
  | i + 1, S => min (yD M i S) (yD M i (nAn S (M i)) + 1)
theorem yD_le (M : Nat → Nat) : ∀ i S, yD M i S ≤ 99
  | 0, S => by unfold yD; split <;> omega
  | i + 1, S => Nat.le_trans (Nat.min_le_left _ _) (yD_le M i S)
theorem yD_iff {M : Nat → Nat} : ∀ i, i ≤ 20 → ∀ S k, S < 65536 → k < 99 → (yD M i S ≤ k ↔ ∃ T, T < 2 ^ i ∧ yCv M S T ∧ yC 20 T ≤ k)
  | 0, _, S, k, hS, hk => by
    unfold yD
    constructor
    · intro h
      by_cases h0 : S = 0
      · subst h0; exact ⟨0, by decide, cv_z 0, by rw [yC_0]; omega⟩
      · rw [if_neg h0] at h; omega
    · rintro ⟨T, h1, h2, h3⟩
      have : T = 0 := by simpa using h1
      subst this
      rw [if_pos (cv_0 h2)]; omega
  | i + 1, hi, S, k, hS, hk => by
    have hp : 2 ^ i < 2 ^ (i + 1) := Nat.pow_lt_pow_right (by decide) (by omega)
    show min (yD M i S) (yD M i (nAn S (M i)) + 1) ≤ k ↔ _
    constructor
    · intro h
      by_cases h1 : yD M i S ≤ k
      · obtain ⟨T, a1, a2, a3⟩ := (yD_iff i (by omega) S k hS hk).mp h1
        exact ⟨T, by omega, a2, a3⟩
      · obtain ⟨T, a1, a2, a3⟩ := (yD_iff (M := M) i (by omega) (nAn S (M i)) (k - 1) (nAn_lt hS) (by omega)).mp (by omega)
        exact ⟨T ||| 2 ^ i, by rw [or_add a1, Nat.pow_succ]; omega, (cv_or hS).mpr a2, by rw [yC_or a1 (by omega)]; omega⟩
    · rintro ⟨T, h1, h2, h3⟩
      cases hb : T.testBit i
      · have := (yD_iff i (by omega) S k hS hk).mpr ⟨T, lt_of_nbit h1 hb, h2, h3⟩
        omega
      · obtain ⟨T0, h0, rfl⟩ := split_bit h1 hb
        rw [yC_or h0 (by omega)] at h3
        have := (yD_iff i (by omega) (nAn S (M i)) (k - 1) (nAn_lt hS) (by omega)).mpr ⟨T0, h0, (cv_or hS).mp h2, by omega⟩
        omega
theorem yD_mono (M : Nat → Nat) (S i : Nat) : ∀ d, yD M (i + d) S ≤ yD M i S
  | 0 => Nat.le_refl _
  | d + 1 => Nat.le_trans (Nat.min_le_left _ _) (yD_mono M S i d)
def yO (M : Nat → Nat) (X : Nat) : Nat → Int32
  | 0 => if X = 0 then nI 0 else -2
  | i + 1 => if yD M (i + 1) X < yD M i X then nI (i + 1) else yO M X i
theorem yO_eq {M : Nat → Nat} {X h : Nat} (h0 : h = 0 → X = 0) (h1 : ∀ g, h = g + 1 → yD M h X < yD M g X) : ∀ d, yD M (h + d) X = yD M h X → yO M X (h + d) = nI h
  | 0, _ => by
    rw [Nat.add_zero]
    cases h with
    | zero => unfold yO; rw [if_pos (h0 rfl)]
    | succ g => unfold yO; rw [if_pos (h1 g rfl)]
  | d + 1, e => by
    have m1 := yD_mono M X h d
    have m2 : yD M (h + d + 1) X ≤ yD M (h + d) X := Nat.min_le_left _ _
    have e2 : yD M (h + d + 1) X = yD M h X := e
    show (if yD M (h + d + 1) X < yD M (h + d) X then nI (h + d + 1) else yO M X (h + d)) = nI h
    rw [if_neg (by omega)]
    exact yO_eq h0 h1 d (by omega)
/-- how many binary digits -/
def yHb (T h : Nat) : Prop := T < 2 ^ h ∧ (0 < h → 2 ^ (h - 1) ≤ T)
theorem yHb_ex : ∀ n T, T < 2 ^ n → ∃ h, h ≤ n ∧ yHb T h
  | 0, T, hT => ⟨0, Nat.le_refl _, hT, fun h => by omega⟩
  | n + 1, T, hT => by
    by_cases h : T < 2 ^ n
    · obtain ⟨g, g1, g2⟩ := yHb_ex n T h
      exact ⟨g, by omega, g2⟩
    · exact ⟨n + 1, Nat.le_refl _, hT, fun _ => by show 2 ^ n ≤ T; omega⟩
theorem best_D {M : Nat → Nat} {K X T h : Nat} (hK : K ≤ 20) (hX : X < 65536) (hT : yBest M K X T) (hh : yHb T h) : yD M K X = yC 20 T ∧ yO M X K = nI h := by
  obtain ⟨t1, t2, t3⟩ := hT
  have hc : yC 20 T ≤ 20 := fb_ct_le _ _
  have hhK : h ≤ K := by
    rcases Nat.lt_or_ge K h with z | z
    · have h1 := hh.2 (by omega)
      have : 2 ^ K ≤ 2 ^ (h - 1) := Nat.pow_le_pow_right (by decide) (by omega)
      omega
    · exact z
  have e1 : yD M K X = yC 20 T := by
    have h1 := (yD_iff K hK X (yC 20 T) hX (by omega)).mpr ⟨T, t1, t2, Nat.le_refl _⟩
    rcases Nat.lt_or_ge (yD M K X) (yC 20 T) with z | z
    · obtain ⟨T1, a1, a2, a3⟩ := (yD_iff K hK X (yD M K X) hX (by omega)).mp (Nat.le_refl _)
      rcases t3 T1 a1 a2 with q | q <;> omega
    · omega
  have e2 : yD M h X = yC 20 T := by
    have h1 := (yD_iff h (by omega) X (yC 20 T) hX (by omega)).mpr ⟨T, hh.1, t2, Nat.le_refl _⟩
    have h2 := yD_mono M X h (K - h)
    rw [show h + (K - h) = K by omega] at h2
    omega
  refine ⟨e1, ?_⟩
  have := yO_eq (M := M) (X := X) (h := h) (fun z => by
    subst z
    have : T = 0 := by simpa using hh.1
    subst this
    exact cv_0 t2) (fun g hg => by
    subst hg
    rcases Nat.lt_or_ge (yD M (g + 1) X) (yD M g X) with z | z
    · exact z
    · obtain ⟨T1, a1, a2, a3⟩ := (yD_iff (M := M) g (by omega) X (yC 20 T) hX (by omega)).mp (by omega)
      have hp : 2 ^ g ≤ 2 ^ K := Nat.pow_le_pow_right (by decide) (by omega)
      have h1 := hh.2 (by omega)
      rw [show g + 1 - 1 = g by omega] at h1
      rcases t3 T1 (by omega) a2 with q | q <;> omega) (K - h) (by rw [show h + (K - h) = K by omega]; omega)
  rw [show h + (K - h) = K by omega] at this
  exact this
/-! leading zeros -/
theorem nI_mk {a k : Nat} {x : Int32} (hx : nI k + x = 0) (h : k ≤ a) : nI a + x = nI (a - k) := by
  have : nI a = nI (a - k) + nI k := by rw [nI_add, Nat.sub_add_cancel h]
  rw [this, Int32.add_assoc, hx, Int32.add_zero]
theorem e_nlz61 {F n a h : Nat} {μ : zMem} (hn : n < 16) (ha : 3 ≤ a) (h0 : 0 < n) (hh : 2 ^ h ≤ n ∧ n < 2 ^ (h + 1)) : fJ6_numberOfLeadingZeros_0f7a4_61 F (nI n) (nI a) μ = some (nI (a - h), μ) := by
  have h4 : h < 4 := by
    rcases Nat.lt_or_ge h 4 with z | z
    · exact z
    · have : 2 ^ 4 ≤ 2 ^ h := Nat.pow_le_pow_right (by decide) z
      omega
  unfold fJ6_numberOfLeadingZeros_0f7a4_61
  have e1 : zUsh (nI n) (nI 1) = nI (n / 2) := zq_ush (by omega) (by decide)
  have e2 : zUsh (nI n) (nI 2) = nI (n / 4) := zq_ush (by omega) (by decide)
  have e3 : zUsh (nI (n / 4)) (nI 1) = nI (n / 4 / 2) := zq_ush (by omega) (by decide)
  rw [e1, e2, e3, nI_mk (k := 2) (by decide) (by omega)]
  have : h = 0 ∨ h = 1 ∨ h = 2 ∨ h = 3 := by omega
  by_cases hb : n < 4
  · rw [if_pos ((nI_ltI (by omega) (by decide)).mpr hb), pk_sub (by omega)]
    refine congrArg (fun z => some (nI z, μ)) ?_
    rcases this with rfl | rfl | rfl | rfl <;> omega
  · rw [if_neg (fun z => hb ((nI_ltI (by omega) (by decide)).mp z)), pk_sub (by omega)]
    refine congrArg (fun z => some (nI z, μ)) ?_
    rcases this with rfl | rfl | rfl | rfl <;> omega
theorem e_nlz48 {F n a h : Nat} {μ : zMem} (hn : n < 256) (ha : 7 ≤ a) (h0 : 0 < n) (hh : 2 ^ h ≤ n ∧ n < 2 ^ (h + 1)) : fJ6_numberOfLeadingZeros_0f7a4_48 F (nI n) (nI a) μ = some (nI (a - h), μ) := by
  unfold fJ6_numberOfLeadingZeros_0f7a4_48
  by_cases hb : n < 16
  · rw [if_pos ((nI_ltI (by omega) (by decide)).mpr hb), e_nlz61 hb (by omega) h0 hh]
  · have h8 : h < 8 := by
      rcases Nat.lt_or_ge h 8 with z | z
      · exact z
      · have : 2 ^ 8 ≤ 2 ^ h := Nat.pow_le_pow_right (by decide) z
        omega
    have h4 : 4 ≤ h := by
      rcases Nat.lt_or_ge h 4 with z | z
      · have : 2 ^ (h + 1) ≤ 2 ^ 4 := Nat.pow_le_pow_right (by decide) z
        omega
      · exact z
    have e2 : zUsh (nI n) (nI 4) = nI (n / 16) := zq_ush (by omega) (by decide)
    rw [if_neg (fun z => hb ((nI_ltI (by omega) (by decide)).mp z)), e2, nI_mk (k := 4) (by decide) (by omega), e_nlz61 (h := h - 4) (by omega) (by omega) (by omega)]
    · rw [show a - 4 - (h - 4) = a - h by omega]
    · have : h = 4 ∨ h = 5 ∨ h = 6 ∨ h = 7 := by omega
      rcases this with rfl | rfl | rfl | rfl <;> omega
theorem e_nlz33 {F n a h : Nat} {μ : zMem} (hn : n < 65536) (ha : 15 ≤ a) (h0 : 0 < n) (hh : 2 ^ h ≤ n ∧ n < 2 ^ (h + 1)) : fJ6_numberOfLeadingZeros_0f7a4_33 F (nI n) (nI a) μ = some (nI (a - h), μ) := by
  unfold fJ6_numberOfLeadingZeros_0f7a4_33
  by_cases hb : n < 256
  · rw [if_pos ((nI_ltI (by omega) (by decide)).mpr hb), e_nlz48 hb (by omega) h0 hh]
  · have h8 : h < 16 := by
      rcases Nat.lt_or_ge h 16 with z | z
      · exact z
      · have : 2 ^ 16 ≤ 2 ^ h := Nat.pow_le_pow_right (by decide) z
        omega
    have h4 : 8 ≤ h := by
      rcases Nat.lt_or_ge h 8 with z | z
      · have : 2 ^ (h + 1) ≤ 2 ^ 8 := Nat.pow_le_pow_right (by decide) z
        omega
      · exact z
    have e2 : zUsh (nI n) (nI 8) = nI (n / 256) := zq_ush (by omega) (by decide)
    rw [if_neg (fun z => hb ((nI_ltI (by omega) (by decide)).mp z)), e2, nI_mk (k := 8) (by decide) (by omega), e_nlz48 (h := h - 8) (by omega) (by omega) (by omega)]
    · rw [show a - 8 - (h - 8) = a - h by omega]
    · have : h = 8 ∨ h = 9 ∨ h = 10 ∨ h = 11 ∨ h = 12 ∨ h = 13 ∨ h = 14 ∨ h = 15 := by omega
      rcases this with rfl | rfl | rfl | rfl | rfl | rfl | rfl | rfl <;> omega
theorem e_nlz {F T h : Nat} {μ : zMem} (hT : T < 1048576) (hh : yHb T h) : fJ6_numberOfLeadingZeros_0f7a4 F (nI T) μ = some (nI (32 - h), μ) ∧ h ≤ 20 := by
  have h20 : h ≤ 20 := by
    rcases Nat.lt_or_ge 20 h with z | z
    · have h1 := hh.2 (by omega)
      have : 2 ^ 20 ≤ 2 ^ (h - 1) := Nat.pow_le_pow_right (by decide) (by omega)
      omega
    · exact z
  refine ⟨?_, h20⟩
  unfold fJ6_numberOfLeadingZeros_0f7a4
  by_cases h0 : T = 0
  · subst h0
    rw [if_neg (show ¬ (0 : Int32) < nI 0 by decide), if_pos (show nI 0 = 0 from rfl)]
    have : h = 0 := by
      rcases Nat.lt_or_ge 0 h with z | z
      · have h1 := hh.2 z
        have := Nat.two_pow_pos (h - 1)
        omega
      · omega
    rw [this]
  · have hpos : (0 : Int32) < nI T := (nI_ltI (a := 0) (by decide) (by omega)).mpr (by omega)
    have hh1 : 1 ≤ h := by
      rcases Nat.lt_or_ge 0 h with z | z
      · exact z
      · have : h = 0 := by omega
        subst this
        have := hh.1
        omega
    have hb : 2 ^ (h - 1) ≤ T ∧ T < 2 ^ (h - 1 + 1) := ⟨hh.2 (by omega), by rw [show h - 1 + 1 = h by omega]; exact hh.1⟩
    rw [if_pos hpos]
    by_cases hc : T < 65536
    · rw [if_pos ((nI_ltI (by omega) (by decide)).mpr hc), e_nlz33 hc (by omega) (by omega) hb, show 31 - (h - 1) = 32 - h by omega]
    · have h4 : 16 ≤ h - 1 := by
        rcases Nat.lt_or_ge (h - 1) 16 with z | z
        · have : 2 ^ (h - 1 + 1) ≤ 2 ^ 16 := Nat.pow_le_pow_right (by decide) z
          omega
        · exact z
      have e2 : zUsh (nI T) (nI 16) = nI (T / 65536) := zq_ush (by omega) (by decide)
      rw [if_neg (fun z => hc ((nI_ltI (by omega) (by decide)).mp z)), e2, nI_mk (k := 16) (by decide) (by omega), e_nlz33 (h := h - 1 - 16) (by omega) (by omega) (by omega)]
      · rw [show 31 - 16 - (h - 1 - 16) = 32 - h by omega]
      · have : h = 17 ∨ h = 18 ∨ h = 19 ∨ h = 20 := by omega
        rcases this with rfl | rfl | rfl | rfl <;> omega
