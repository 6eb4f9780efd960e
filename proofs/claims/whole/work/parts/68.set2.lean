theorem zTbC.new {c : zCS} {T : Nat → zTr} {i : Nat} {q : zTr} {μ : zMem} (h : zTbC c T (i + 1) μ) : zTbC c (uT T i q) i (zUp (zUp (zUp μ 47 i (nI q.1)) 48 i (nI q.2.1)) 49 i (nI q.2.2)) := by
  intro j h1 h2
  by_cases e : j = i
  · subst e
    rw [uT_s, zUp_ne (show 47 ≠ 49 by decide), zUp_ne (show 47 ≠ 48 by decide), zUp_s, zUp_ne (show 48 ≠ 49 by decide), zUp_s, zUp_s]
    exact ⟨rfl, rfl, rfl⟩
  · have := h j (by omega) h2
    rw [uT_o e]
    rw [zUp_ne (show 47 ≠ 49 by decide), zUp_ne (show 47 ≠ 48 by decide), zUp_o e, zUp_ne (show 48 ≠ 49 by decide), zUp_o e, zUp_ne (show 48 ≠ 47 by decide), zUp_o e, zUp_ne (show 49 ≠ 48 by decide), zUp_ne (show 49 ≠ 47 by decide)]
    exact this
theorem e_sFrom {F W h i : Nat} {c : zCS} {μ : zMem} (hF : 70 ≤ F) (hw : zWFC c) (hW1 : 12 ≤ W) (hW : W ≤ 60) (hh : h = 40 ∨ h = 43) (hi : i < cW c) (T : Nat → zTr) (hT : ∀ j, i < j → j ≤ cW c → (T j).1 ≤ 216000 ∧ (T j).2.1 ≤ 60) (hS : zShC c h μ) (hB : zTbC c T (i + 1) μ) : zTo (fX7_setsFrom F h (nI W) (nI i) μ) (fun _ μ1 => zTbC c (uT T i (zRw c W T i)) i μ1 ∧ ∀ d, d ≠ 47 → d ≠ 48 → d ≠ 49 → μ1 d = μ d) := by
  have v1 := hw.1
  have hl := hw.2.1 i hi
  obtain ⟨f, hf⟩ : ∃ f, F = f + 1 := ⟨F - 1, by omega⟩
  unfold fX7_setsFrom
  have e0 : fX7_setsFrom_8 F h F (nI W) (nI i) (-1 : Int32) (nI i + nI 1) μ = fX7_setsFrom_8 F h (f + 1) (nI W) (nI i) (nI 0 + (-1 : Int32)) (nI (i + 1)) μ := by rw [nI_add, ← hf]; rfl
  rw [e0, fX7_setsFrom_8, hS.1, if_neg (fun z => by have := (nI_ltI (by omega) (by omega)).mp z; omega), pk_sub (by omega), show i + 1 - 1 = i by omega, zG_in rfl (by omega) (by decide), nI_clamp (by omega), hS.2 i hi, nI_wd, Nat.zero_add, if_pos ((nI_leI (by omega) (by omega)).mpr (by omega)), nI_eqn (by omega) (by omega), pk_sub (by omega)]
  have e57 : ∀ s, s = zFre c W (i + 1) (cL c i) → zTo (fX7_setsFrom_57 F h (fX7_setsFrom_8 F h f) (nI W) (nI i) (nI (cL c i)) (nI (i + 1)) (nI s) μ) (fun _ μ1 => zTbC c (uT T i (zRw c W T i)) i μ1 ∧ ∀ d, d ≠ 47 → d ≠ 48 → d ≠ 49 → μ1 d = μ d) := by
    intro s hs
    subst hs
    obtain ⟨t1, t2, t3⟩ := hB (i + 1) (by omega) (by omega)
    unfold fX7_setsFrom_57 fX7_setsFrom_98 fX7_setsFrom_138
    rw [zG_in rfl (by omega) (by decide), zG_in rfl (by omega) (by decide), nI_add, if_pos rfl, if_neg (show ¬ nI 1 = 0 by decide)]
    simp only [zG_in (n := 61) (show nI i = nI i from rfl) (by omega) (by decide), nI_clamp (show i < 2 ^ 31 by omega), nI_clamp (show i + 1 < 2 ^ 31 by omega), t1, t2, pk_mul, nI_add]
    have hgo := e_sF8 (F := F) hw hW hh hi T hT (cW c - (i + 1)) (i + 2) (cL c i + 1) (zCan c W T (i + 1) (cL c i)) f (zUp (zUp (zUp μ 47 i (nI (zCan c W T (i + 1) (cL c i)).1)) 48 i (nI (zCan c W T (i + 1) (cL c i)).2.1)) 49 i (nI (zCan c W T (i + 1) (cL c i)).2.2)) (by omega) (by omega) (by omega) (by omega) (zCan_gd hW (by omega) (by omega)) ⟨by rw [zUp_ne (by omega), zUp_ne (by omega), zUp_ne (by omega)]; exact hS.1, fun j hj => by rw [zUp_ne (by omega), zUp_ne (by omega), zUp_ne (by omega)]; exact hS.2 j hj⟩ (hB.new (q := zCan c W T (i + 1) (cL c i)))
    rw [nI_sub1] at hgo
    exact hgo.mono fun r m' z => ⟨z.1, fun d d1 d2 d3 => by rw [z.2 d d1 d2 d3, zUp_ne d3, zUp_ne d2, zUp_ne d1]⟩
  by_cases hend : i + 1 = cW c
  · rw [if_pos hend]
    exact e57 0 (by unfold zFre; rw [if_pos hend])
  · rw [if_neg hend]
    exact e57 _ (by unfold zFre; rw [if_neg hend])
theorem zTT_b {c : zCS} {W : Nat} (hw : zWFC c) (hW : W ≤ 60) : ∀ j, j ≤ cW c → (zTT c W j).1 ≤ 216000 ∧ (zTT c W j).2.1 ≤ 60 := fun j hj => by
  have := zTT_le (c := c) hW (cW c - j) j (by omega)
  have := hw.1
  omega
theorem uT_id {c : zCS} {W i : Nat} (hi : i < cW c) : uT (zTT c W) i (zRw c W (zTT c W) i) = zTT c W := by
  funext j
  unfold uT
  split
  · rename_i e; rw [e, zTT_row hi]
  · rfl
theorem e_sets {F W h : Nat} {c : zCS} {μ : zMem} (hF : 70 ≤ F) (hw : zWFC c) (hW1 : 12 ≤ W) (hW : W ≤ 60) (hh : h = 40 ∨ h = 43) (hS0 : zShC c h μ) : zTo (fX7_sets F h (nI W) μ) (fun _ μ1 => zTbC c (zTT c W) 0 μ1 ∧ ∀ d, d ≠ 47 → d ≠ 48 → d ≠ 49 → μ1 d = μ d) := by
  have v1 := hw.1
  have k40 : ∀ i f m, i < f → i ≤ cW c → zShC c h m → zTbC c (zTT c W) i m → (∀ d, d ≠ 47 → d ≠ 48 → d ≠ 49 → m d = μ d) → zTo (fX7_sets_40 F h f (nI W) (nI i + (-1 : Int32)) m) (fun _ μ1 => zTbC c (zTT c W) 0 μ1 ∧ ∀ d, d ≠ 47 → d ≠ 48 → d ≠ 49 → μ1 d = μ d) := by
    intro i
    induction i with
    | zero =>
      intro f m hf hi hS hB hfr
      obtain ⟨f, rfl⟩ := z_s hf
      rw [fX7_sets_40, if_pos (show nI 0 + (-1 : Int32) < 0 by decide)]
      exact zTo_ret ⟨hB, hfr⟩
    | succ i ih =>
      intro f m hf hi hS hB hfr
      obtain ⟨f, rfl⟩ := z_s hf
      rw [nI_sub1, fX7_sets_40, if_neg (nI_nlt0 (by omega))]
      refine zTo_bd (e_sFrom hF hw hW1 hW hh hi (zTT c W) (fun j _ hj => zTT_b hw hW j hj) hS hB) ?_
      rintro r m2 ⟨a1, a2⟩
      rw [uT_id hi] at a1
      exact ih f m2 (by omega) (by omega) ⟨by rw [a2 h (by omega) (by omega) (by omega)]; exact hS.1, fun j hj => by rw [a2 (h + 1) (by omega) (by omega) (by omega)]; exact hS.2 j hj⟩ a1 (fun d d1 d2 d3 => by rw [a2 d d1 d2 d3, hfr d d1 d2 d3])
  unfold fX7_sets
  rw [hS0.1, zG_in rfl (by omega) (by decide), nI_clamp (by omega)]
  refine zTo_let fun m3 h3 => ?_
  have e3 : m3 h 2 = nI (cW c) := by rw [h3, zUp_ne (by omega)]; exact hS0.1
  rw [e3, zG_in rfl (by omega) (by decide), nI_clamp (by omega)]
  refine zTo_let fun m6 h6 => ?_
  have e6 : m6 h 2 = nI (cW c) := by rw [h6, zUp_ne (by omega)]; exact e3
  rw [e6, zG_in rfl (by omega) (by decide), nI_clamp (by omega)]
  refine zTo_let fun m10 h10 => ?_
  have e10 : m10 h 2 = nI (cW c) := by rw [h10, zUp_ne (by omega)]; exact e6
  have hfr : ∀ d, d ≠ 47 → d ≠ 48 → d ≠ 49 → m10 d = μ d := fun d d1 d2 d3 => by rw [h10, zUp_ne d3, h6, zUp_ne d2, h3, zUp_ne d1]
  have es : nI (cW c) - nI 1 = nI (cW c) + (-1 : Int32) := by rw [Int32.sub_eq_add_neg]; rfl
  rw [e10, es]
  refine k40 (cW c) F m10 (by omega) (Nat.le_refl _) ⟨e10, fun j hj => by rw [hfr (h + 1) (by omega) (by omega) (by omega)]; exact hS0.2 j hj⟩ ?_ hfr
  intro j j1 j2
  have : j = cW c := by omega
  subst this
  rw [zTT_end, h10, zUp_ne (show 47 ≠ 49 by decide), zUp_ne (show 48 ≠ 49 by decide), zUp_s, h6, zUp_ne (show 47 ≠ 48 by decide), zUp_s, h3, zUp_s]
  exact ⟨rfl, rfl, rfl⟩
/-! the reference -/
def zTbM (c : zCS) (U : Nat → zTr) (i : Nat) (μ : zMem) : Prop := ∀ j, i ≤ j → j ≤ cW c → μ 84 j = nI (U j).1 ∧ μ 85 j = nI (U j).2.1 ∧ (j < cW c → μ 86 j = nI ((U j).2.2 - j))
theorem zTbM.put {c : zCS} {T : Nat → zTr} {i : Nat} {q : zTr} {μ : zMem} (hi : i < cW c) (h : ∀ j, i < j → j ≤ cW c → μ 84 j = nI (T j).1 ∧ μ 85 j = nI (T j).2.1 ∧ (j < cW c → μ 86 j = nI ((T j).2.2 - j))) : zTbM c (uT T i q) i (zUp (zUp (zUp μ 84 i (nI q.1)) 85 i (nI q.2.1)) 86 i (nI (q.2.2 - i))) := by
  intro j h1 h2
  by_cases e : j = i
  · subst e
    rw [uT_s, zUp_ne (show 84 ≠ 86 by decide), zUp_ne (show 84 ≠ 85 by decide), zUp_s, zUp_ne (show 85 ≠ 86 by decide), zUp_s, zUp_s]
    exact ⟨rfl, rfl, fun _ => rfl⟩
  · have := h j (by omega) h2
    rw [uT_o e]
    rw [zUp_ne (show 84 ≠ 86 by decide), zUp_ne (show 84 ≠ 85 by decide), zUp_o e, zUp_ne (show 85 ≠ 86 by decide), zUp_o e, zUp_ne (show 85 ≠ 84 by decide), zUp_o e, zUp_ne (show 86 ≠ 85 by decide), zUp_ne (show 86 ≠ 84 by decide)]
    exact this
theorem zTbM.rows {c : zCS} {T : Nat → zTr} {i : Nat} {p : zTr} {μ : zMem} (h : zTbM c (uT T i p) i μ) : ∀ j, i < j → j ≤ cW c → μ 84 j = nI (T j).1 ∧ μ 85 j = nI (T j).2.1 ∧ (j < cW c → μ 86 j = nI ((T j).2.2 - j)) := fun j h1 h2 => by
  have := h j (by omega) h2
  rw [uT_o (by omega)] at this
  exact this
theorem zBet_if2 {q p : zTr} {α : Type} {x y : α} (h1 : q.1 < 2 ^ 31) (h2 : p.1 < 2 ^ 31) (h3 : q.2.1 < 2 ^ 31) (h4 : p.2.1 < 2 ^ 31) : (if nI p.1 < nI q.1 then y else if nI q.1 = nI p.1 then (if nI q.2.1 ≤ nI p.2.1 then x else y) else x) = if zBet q p = true then x else y := by
  unfold zBet
  by_cases a : p.1 < q.1
  · rw [if_pos ((nI_ltI h2 h1).mpr a), decide_eq_false (by omega), decide_eq_false (by omega), if_neg (by simp)]
  · rw [if_neg (fun z => a ((nI_ltI h2 h1).mp z)), nI_eqn h1 h2]
    by_cases b : q.1 = p.1
    · rw [if_pos b, decide_eq_false (by omega), decide_eq_true b]
      by_cases d : q.2.1 ≤ p.2.1
      · rw [if_pos ((nI_leI h3 h4).mpr d), decide_eq_true d, if_pos (by simp)]
      · rw [if_neg (fun z => d ((nI_leI h3 h4).mp z)), decide_eq_false d, if_neg (by simp)]
    · rw [if_neg b, decide_eq_true (by omega), if_pos (by simp)]
theorem e_mS45 {F W i : Nat} {c : zCS} (hw : zWFC c) (hW : W ≤ 60) (hi : i < cW c) (T : Nat → zTr) (hT : ∀ j, i < j → j ≤ cW c → (T j).1 ≤ 216000 ∧ (T j).2.1 ≤ 60) (K : Int32 → Int32 → zMem → Option zR) (Q : Int32 → zMem → Prop) (μ0 : zMem) (U : zTr) (hK : ∀ m, zTbM c (uT T i U) i m → zCopyM c m → (∀ d, d ≠ 84 → d ≠ 85 → d ≠ 86 → m d = μ0 d) → zTo (K (nI W) (nI i + (-1 : Int32)) m) Q) : ∀ m k wd p f μ, i + k + m = cW c + 1 → 2 ≤ k → m < f → wd ≤ 800 → zGd c T i p → zSF c W T m (i + k) wd p = U → zCopyM c μ → zTbM c (uT T i p) i μ → (∀ d, d ≠ 84 → d ≠ 85 → d ≠ 86 → μ d = μ0 d) → zTo (fX12_setsCopy_45 F K f (nI W) (nI i) (nI wd + (-1 : Int32)) (nI k) μ) Q := by
  obtain ⟨v1, v2, -⟩ := hw
  intro m
  induction m with
  | zero =>
    intro k wd p f μ hm hk hf hwd hp hU hS hB hfr
    obtain ⟨f, rfl⟩ := z_s hf
    rw [fX12_setsCopy_45, hS.1, nI_add, if_pos ((nI_ltI (by omega) (by omega)).mpr (by omega))]
    subst hU
    exact hK μ hB hS hfr
  | succ m ih =>
    intro k wd p f μ hm hk hf hwd hp hU hS hB hfr
    obtain ⟨f, rfl⟩ := z_s hf
    have hl := v2 (i + k - 1) (by omega)
    have hTn := hT (i + k) (by omega) (by omega)
    have hTp := hT p.2.2 hp.1 hp.2.1
    obtain ⟨p1, p2, p3, p4⟩ := hp
    rw [fX12_setsCopy_45, hS.1, nI_add, if_neg (fun z => by have := (nI_ltI (by omega) (by omega)).mp z; omega), pk_sub (by omega), zG_in rfl (by omega) (by decide), nI_clamp (by omega), hS.2.1 (i + k - 1) (by omega), nI_wd2]
    by_cases hfit : wd + cL c (i + k - 1) ≤ W
    · rw [zSF, if_pos hfit] at hU
      rw [if_pos ((nI_leI (by omega) (by omega)).mpr hfit), nI_eqn (by omega) (by omega), pk_sub hfit]
      have hsq := zFre_sq (c := c) (nx := i + k) (wd := wd + cL c (i + k - 1)) hW
      have e98 : ∀ s, s = zFre c W (i + k) (wd + cL c (i + k - 1)) → zTo (fX12_setsCopy_98 F K (fX12_setsCopy_45 F K f) (nI W) (nI i) (nI (wd + cL c (i + k - 1))) (nI k) (nI s) μ) Q := by
        intro s hs
        subst hs
        obtain ⟨t1, t2, -⟩ := hB.rows (i + k) (by omega) (by omega)
        obtain ⟨u1, u2, -⟩ := hB i (by omega) (by omega)
        rw [uT_s] at u1 u2
        have hgo : ∀ q μ2, zGd c T i q → zSF c W T m (i + k + 1) (wd + cL c (i + k - 1) + 1) q = U → zCopyM c μ2 → zTbM c (uT T i q) i μ2 → (∀ d, d ≠ 84 → d ≠ 85 → d ≠ 86 → μ2 d = μ0 d) → zTo (fX12_setsCopy_45 F K f (nI W) (nI i) (nI (wd + cL c (i + k - 1))) (nI (k + 1)) μ2) Q := by
          intro q μ2 hq hU2 hS2 hB2 hfr2
          have := ih (k + 1) (wd + cL c (i + k - 1) + 1) q f μ2 (by omega) (by omega) (by omega) (by omega) hq hU2 hS2 hB2 hfr2
          rw [nI_sub1] at this
          exact this
        unfold fX12_setsCopy_98 fX12_setsCopy_166
        simp only [nI_add]
        simp only [zG_in (n := 61) (show nI i = nI i from rfl) (by omega) (by decide), zG_in (n := 61) (show nI (i + k) = nI (i + k) from rfl) (by omega) (by decide), nI_clamp (show i < 2 ^ 31 by omega), nI_clamp (show i + k < 2 ^ 31 by omega), u1, u2, t1, t2, pk_mul, nI_add]
        rw [show zFre c W (i + k) (wd + cL c (i + k - 1)) * zFre c W (i + k) (wd + cL c (i + k - 1)) + (T (i + k)).1 = (zCan c W T (i + k) (wd + cL c (i + k - 1))).1 from rfl, show 1 + (T (i + k)).2.1 = (zCan c W T (i + k) (wd + cL c (i + k - 1))).2.1 from rfl]
        have hq := zCan_gd (c := c) (T := T) (wd := wd + cL c (i + k - 1)) hW (show i < i + k by omega) (by omega)
        have hq1 : (zCan c W T (i + k) (wd + cL c (i + k - 1))).1 ≤ 219600 := by have := hq.2.2.2; exact Nat.le_trans this (by show 3600 + (T (i + k)).1 ≤ _; omega)
        have hq2 : (zCan c W T (i + k) (wd + cL c (i + k - 1))).2.1 ≤ 61 := by show 1 + (T (i + k)).2.1 ≤ _; omega
        rw [zBet_if2 (by omega) (by omega) (by omega) (by omega)]
        cases hbet : zBet (zCan c W T (i + k) (wd + cL c (i + k - 1))) p
        · rw [if_neg (by decide)]
          rw [hbet, if_neg (by decide)] at hU
          exact hgo p μ ⟨p1, p2, p3, p4⟩ hU hS hB hfr
        · rw [if_pos rfl]
          rw [hbet, if_pos rfl] at hU
          have hput := zTbM.put (q := zCan c W T (i + k) (wd + cL c (i + k - 1))) hi hB.rows
          rw [show (zCan c W T (i + k) (wd + cL c (i + k - 1))).2.2 - i = k by show i + k - i = k; omega] at hput
          refine hgo (zCan c W T (i + k) (wd + cL c (i + k - 1))) _ hq hU ?_ hput (fun d d1 d2 d3 => by rw [zUp_ne d3, zUp_ne d2, zUp_ne d1]; exact hfr d d1 d2 d3)
          exact hS.of (by rw [zUp_ne (by omega), zUp_ne (by omega), zUp_ne (by omega)]) (by rw [zUp_ne (by omega), zUp_ne (by omega), zUp_ne (by omega)]) (by rw [zUp_ne (by omega), zUp_ne (by omega), zUp_ne (by omega)])
      by_cases hend : i + k = cW c
      · rw [if_pos hend]
        exact e98 0 (by unfold zFre; rw [if_pos hend])
      · rw [if_neg hend]
        exact e98 _ (by unfold zFre; rw [if_neg hend])
    · rw [zSF, if_neg hfit] at hU
      rw [if_neg (fun z => hfit ((nI_leI (by omega) (by omega)).mp z))]
      subst hU
      exact hK μ hB hS hfr
