/-! ===== set, lineOf ===== -/
theorem rc_scr {A : zAS} {μ μ1 : zMem} (h : zRepC A μ) (e : ∀ c, c < 60 → (c < 33 ∨ (39 < c ∧ c < 46)) → μ1 c = μ c) : zRepC A μ1 :=
  h.tape (t := aT A) (b := aB A) (h.1.of (by rw [e 1 (by omega) (by omega)]) (e 2 (by omega) (by omega))) (fun k h1 _ _ h4 => e k h1 h4)
theorem rm_scr {A : zAS} {μ μ1 : zMem} (h : zRepM A μ) (e60 : ∀ j, (j = 7 ∨ j = 9 ∨ j = 18 ∨ j = 45) → μ1 60 j = μ 60 j) (e : ∀ k, (k = 61 ∨ k = 63 ∨ k = 64 ∨ k = 65 ∨ k = 68 ∨ (75 ≤ k ∧ k ≤ 79)) → μ1 k = μ k) : zRepM A μ1 :=
  h.tape (t := aT A) (b := aB A) (h.1.of (e60 9 (by omega)) (e 68 (by omega))) (fun j hj => e60 j (by omega)) (fun k hk => e k (by omega))
abbrev zTr : Type := Nat × Nat × Nat
def zFre (c : zCS) (W nx wd : Nat) : Nat := if nx = cW c then 0 else W - wd
def zCan (c : zCS) (W : Nat) (T : Nat → zTr) (nx wd : Nat) : zTr := (zFre c W nx wd * zFre c W nx wd + (T nx).1, 1 + (T nx).2.1, nx)
def zBet (q p : zTr) : Bool := decide (q.1 < p.1) || (decide (q.1 = p.1) && decide (q.2.1 ≤ p.2.1))
/-- from a word on, m words at the most, wd: one more than how wide the line is so far -/
def zSF (c : zCS) (W : Nat) (T : Nat → zTr) : Nat → Nat → Nat → zTr → zTr
  | 0, _, _, p => p
  | m + 1, nx, wd, p => if wd + cL c (nx - 1) ≤ W then zSF c W T m (nx + 1) (wd + cL c (nx - 1) + 1) (if zBet (zCan c W T nx (wd + cL c (nx - 1))) p then zCan c W T nx (wd + cL c (nx - 1)) else p) else p
def zRw (c : zCS) (W : Nat) (T : Nat → zTr) (i : Nat) : zTr := zSF c W T (cW c - (i + 1)) (i + 2) (cL c i + 1) (zCan c W T (i + 1) (cL c i))
theorem zCan_cong {c : zCS} {W : Nat} {T U : Nat → zTr} {nx wd : Nat} (h : T nx = U nx) : zCan c W T nx wd = zCan c W U nx wd := by unfold zCan; rw [h]
theorem zSF_cong {c : zCS} {W : Nat} {T U : Nat → zTr} : ∀ m nx wd p, (∀ j, nx ≤ j → j < nx + m → T j = U j) → zSF c W T m nx wd p = zSF c W U m nx wd p
  | 0, _, _, _, _ => rfl
  | m + 1, nx, wd, p, h => by
    unfold zSF
    rw [zCan_cong (h nx (by omega) (by omega)), zSF_cong m (nx + 1) _ _ (fun j h1 h2 => h j (by omega) (by omega))]
theorem zRw_cong {c : zCS} {W : Nat} {T U : Nat → zTr} {i : Nat} (hi : i < cW c) (h : ∀ j, i < j → j ≤ cW c → T j = U j) : zRw c W T i = zRw c W U i := by
  unfold zRw
  rw [zCan_cong (h (i + 1) (by omega) (by omega)), zSF_cong _ _ _ _ (fun j h1 h2 => h j (by omega) (by omega))]
def zDP (c : zCS) (W : Nat) : Nat → Nat → zTr
  | 0 => fun _ => (0, 0, cW c)
  | r + 1 => fun j => if j = cW c - (r + 1) then zRw c W (zDP c W r) j else zDP c W r j
def zTT (c : zCS) (W : Nat) : Nat → zTr := zDP c W (cW c)
theorem zDP_fix {c : zCS} {W : Nat} : ∀ r, r ≤ cW c → zDP c W r (cW c) = (0, 0, cW c) ∧ ∀ i, cW c - r ≤ i → i < cW c → zDP c W r i = zRw c W (zDP c W r) i
  | 0, _ => ⟨rfl, fun i h1 h2 => by omega⟩
  | r + 1, hr => by
    obtain ⟨h1, h2⟩ := zDP_fix (c := c) (W := W) r (by omega)
    have e : ∀ j, j ≠ cW c - (r + 1) → zDP c W (r + 1) j = zDP c W r j := fun j hj => if_neg hj
    have e0 : zDP c W (r + 1) (cW c - (r + 1)) = zRw c W (zDP c W r) (cW c - (r + 1)) := if_pos rfl
    refine ⟨by rw [e _ (by omega)]; exact h1, fun i g1 g2 => ?_⟩
    by_cases hi : i = cW c - (r + 1)
    · rw [hi, e0]
      exact zRw_cong (by omega) (fun j x1 x2 => (e j (by omega)).symm)
    · rw [e i hi, h2 i (by omega) g2]
      exact zRw_cong g2 (fun j x1 x2 => (e j (by omega)).symm)
theorem zTT_end (c : zCS) (W : Nat) : zTT c W (cW c) = (0, 0, cW c) := (zDP_fix (cW c) (Nat.le_refl _)).1
theorem zTT_row {c : zCS} {W i : Nat} (hi : i < cW c) : zTT c W i = zRw c W (zTT c W) i := (zDP_fix (cW c) (Nat.le_refl _)).2 i (by omega) hi
/-- what a row holds -/
def zGd (c : zCS) (T : Nat → zTr) (i : Nat) (q : zTr) : Prop := i < q.2.2 ∧ q.2.2 ≤ cW c ∧ q.2.1 = 1 + (T q.2.2).2.1 ∧ q.1 ≤ 3600 + (T q.2.2).1
theorem zFre_le {c : zCS} {W nx wd : Nat} (hW : W ≤ 60) : zFre c W nx wd ≤ 60 := by unfold zFre; split <;> omega
theorem zFre_sq {c : zCS} {W nx wd : Nat} (hW : W ≤ 60) : zFre c W nx wd * zFre c W nx wd ≤ 3600 := Nat.mul_le_mul (zFre_le hW) (zFre_le hW)
theorem zCan_gd {c : zCS} {W : Nat} {T : Nat → zTr} {i nx wd : Nat} (hW : W ≤ 60) (h1 : i < nx) (h2 : nx ≤ cW c) : zGd c T i (zCan c W T nx wd) := by
  have := zFre_sq (c := c) (nx := nx) (wd := wd) hW
  exact ⟨h1, h2, rfl, by show zFre c W nx wd * zFre c W nx wd + (T nx).1 ≤ 3600 + (T nx).1; omega⟩
theorem zSF_gd {c : zCS} {W : Nat} {T : Nat → zTr} {i : Nat} (hW : W ≤ 60) : ∀ m nx wd p, i < nx → nx + m ≤ cW c + 1 → zGd c T i p → zGd c T i (zSF c W T m nx wd p)
  | 0, _, _, _, _, _, h => h
  | m + 1, nx, wd, p, h1, h2, h => by
    unfold zSF
    split
    · refine zSF_gd hW m (nx + 1) _ _ (by omega) (by omega) ?_
      split
      · exact zCan_gd hW h1 (by omega)
      · exact h
    · exact h
theorem zTT_gd {c : zCS} {W i : Nat} (hW : W ≤ 60) (hi : i < cW c) : zGd c (zTT c W) i (zTT c W i) := by
  have h : zGd c (zTT c W) i (zRw c W (zTT c W) i) := zSF_gd hW _ _ _ _ (by omega) (by omega) (zCan_gd hW (by omega) (by omega))
  rw [← zTT_row hi] at h
  exact h
theorem zTT_le {c : zCS} {W : Nat} (hW : W ≤ 60) : ∀ r i, i + r = cW c → (zTT c W i).1 ≤ 3600 * r ∧ (zTT c W i).2.1 ≤ r := by
  intro r
  induction r using Nat.strongRecOn with
  | ind r ih =>
    intro i hi
    by_cases h0 : r = 0
    · have : i = cW c := by omega
      subst this
      rw [zTT_end]
      exact ⟨Nat.zero_le _, Nat.zero_le _⟩
    · obtain ⟨g1, g2, g3, g4⟩ := zTT_gd (c := c) hW (i := i) (by omega)
      obtain ⟨k1, k2⟩ := ih (cW c - (zTT c W i).2.2) (by omega) (zTT c W i).2.2 (by omega)
      omega
def zTbC (c : zCS) (U : Nat → zTr) (i : Nat) (μ : zMem) : Prop := ∀ j, i ≤ j → j ≤ cW c → μ 47 j = nI (U j).1 ∧ μ 48 j = nI (U j).2.1 ∧ μ 49 j = nI (U j).2.2
def uT (T : Nat → zTr) (i : Nat) (p : zTr) : Nat → zTr := fun j => if j = i then p else T j
theorem uT_s {T : Nat → zTr} {i : Nat} {p : zTr} : uT T i p i = p := if_pos rfl
theorem uT_o {T : Nat → zTr} {i j : Nat} {p : zTr} (h : j ≠ i) : uT T i p j = T j := if_neg h
theorem zTbC.put {c : zCS} {T : Nat → zTr} {i : Nat} {p q : zTr} {μ : zMem} (h : zTbC c (uT T i p) i μ) : zTbC c (uT T i q) i (zUp (zUp (zUp μ 47 i (nI q.1)) 48 i (nI q.2.1)) 49 i (nI q.2.2)) := by
  intro j h1 h2
  by_cases e : j = i
  · subst e
    rw [uT_s, zUp_ne (show 47 ≠ 49 by decide), zUp_ne (show 47 ≠ 48 by decide), zUp_s, zUp_ne (show 48 ≠ 49 by decide), zUp_s, zUp_s]
    exact ⟨rfl, rfl, rfl⟩
  · have := h j h1 h2
    rw [uT_o e] at this ⊢
    rw [zUp_ne (show 47 ≠ 49 by decide), zUp_ne (show 47 ≠ 48 by decide), zUp_o e, zUp_ne (show 48 ≠ 49 by decide), zUp_o e, zUp_ne (show 48 ≠ 47 by decide), zUp_o e, zUp_ne (show 49 ≠ 48 by decide), zUp_ne (show 49 ≠ 47 by decide)]
    exact this
def zShC (c : zCS) (h : Nat) (μ : zMem) : Prop := μ h 2 = nI (cW c) ∧ ∀ i, i < cW c → μ (h + 1) i = nI (cL c i)
theorem nI_wd (a L : Nat) : nI a + (-1 : Int32) + (nI 1 + nI L) = nI (a + L) := by
  rw [← nI_add a L, Int32.add_assoc, ← Int32.add_assoc (-1) (nI 1)]
  show nI a + (0 + nI L) = _
  rw [Int32.zero_add]
theorem nI_wd2 (a L : Nat) : nI a + (-1 : Int32) + nI 1 + nI L = nI (a + L) := by rw [Int32.add_assoc, nI_wd]
theorem zBet_if {q p : zTr} {α : Type} {x y : α} (h1 : q.1 < 2 ^ 31) (h2 : p.1 < 2 ^ 31) (h3 : q.2.1 < 2 ^ 31) (h4 : p.2.1 < 2 ^ 31) : (if nI q.1 < nI p.1 then x else if nI q.1 = nI p.1 then (if nI p.2.1 < nI q.2.1 then y else x) else y) = if zBet q p = true then x else y := by
  unfold zBet
  by_cases a : q.1 < p.1
  · rw [if_pos ((nI_ltI h1 h2).mpr a), decide_eq_true a, if_pos (by simp)]
  · rw [if_neg (fun z => a ((nI_ltI h1 h2).mp z)), decide_eq_false a, nI_eqn h1 h2]
    by_cases b : q.1 = p.1
    · rw [if_pos b, decide_eq_true b]
      by_cases d : p.2.1 < q.2.1
      · rw [if_pos ((nI_ltI h4 h3).mpr d), decide_eq_false (by omega), if_neg (by simp)]
      · rw [if_neg (fun z => d ((nI_ltI h4 h3).mp z)), decide_eq_true (by omega), if_pos (by simp)]
    · rw [if_neg b, decide_eq_false b, if_neg (by simp)]
theorem e_sF8 {F W h i : Nat} {c : zCS} (hw : zWFC c) (hW : W ≤ 60) (hh : h = 40 ∨ h = 43) (hi : i < cW c) (T : Nat → zTr) (hT : ∀ j, i < j → j ≤ cW c → (T j).1 ≤ 216000 ∧ (T j).2.1 ≤ 60) : ∀ m nx wd p f μ, nx + m = cW c + 1 → i + 2 ≤ nx → m < f → wd ≤ 800 → zGd c T i p → zShC c h μ → zTbC c (uT T i p) i μ → zTo (fX7_setsFrom_8 F h f (nI W) (nI i) (nI wd + (-1 : Int32)) (nI nx) μ) (fun _ μ1 => zTbC c (uT T i (zSF c W T m nx wd p)) i μ1 ∧ ∀ d, d ≠ 47 → d ≠ 48 → d ≠ 49 → μ1 d = μ d) := by
  obtain ⟨v1, v2, -⟩ := hw
  intro m
  induction m with
  | zero =>
    intro nx wd p f μ hm hnx hf hwd hp hS hB
    obtain ⟨f, rfl⟩ := z_s hf
    rw [fX7_setsFrom_8, hS.1, if_pos ((nI_ltI (by omega) (by omega)).mpr (by omega))]
    exact zTo_ret ⟨hB, fun _ _ _ _ => rfl⟩
  | succ m ih =>
    intro nx wd p f μ hm hnx hf hwd hp hS hB
    obtain ⟨f, rfl⟩ := z_s hf
    have hl := v2 (nx - 1) (by omega)
    have hTn := hT nx (by omega) (by omega)
    have hTp := hT p.2.2 hp.1 hp.2.1
    obtain ⟨p1, p2, p3, p4⟩ := hp
    rw [fX7_setsFrom_8, hS.1, if_neg (fun z => by have := (nI_ltI (by omega) (by omega)).mp z; omega), pk_sub (by omega), zG_in rfl (by omega) (by decide), nI_clamp (by omega), hS.2 (nx - 1) (by omega), nI_wd]
    by_cases hfit : wd + cL c (nx - 1) ≤ W
    · have hun : zSF c W T (m + 1) nx wd p = zSF c W T m (nx + 1) (wd + cL c (nx - 1) + 1) (if zBet (zCan c W T nx (wd + cL c (nx - 1))) p then zCan c W T nx (wd + cL c (nx - 1)) else p) := by rw [zSF, if_pos hfit]
      rw [hun, if_pos ((nI_leI (by omega) (by omega)).mpr hfit), nI_eqn (by omega) (by omega), pk_sub hfit]
      have hsq := zFre_sq (c := c) (nx := nx) (wd := wd + cL c (nx - 1)) hW
      have e57 : ∀ s, s = zFre c W nx (wd + cL c (nx - 1)) → zTo (fX7_setsFrom_57 F h (fX7_setsFrom_8 F h f) (nI W) (nI i) (nI (wd + cL c (nx - 1))) (nI nx) (nI s) μ) (fun _ μ1 => zTbC c (uT T i (zSF c W T m (nx + 1) (wd + cL c (nx - 1) + 1) (if zBet (zCan c W T nx (wd + cL c (nx - 1))) p then zCan c W T nx (wd + cL c (nx - 1)) else p))) i μ1 ∧ ∀ d, d ≠ 47 → d ≠ 48 → d ≠ 49 → μ1 d = μ d) := by
        intro s hs
        subst hs
        obtain ⟨t1, t2, t3⟩ := hB nx (by omega) (by omega)
        rw [uT_o (by omega)] at t1 t2 t3
        obtain ⟨u1, u2, u3⟩ := hB i (by omega) (by omega)
        rw [uT_s] at u1 u2 u3
        have hgo : ∀ q μ2, zGd c T i q → zShC c h μ2 → zTbC c (uT T i q) i μ2 → (∀ d, d ≠ 47 → d ≠ 48 → d ≠ 49 → μ2 d = μ d) → zTo (fX7_setsFrom_8 F h f (nI W) (nI i) (nI (wd + cL c (nx - 1))) (nI (nx + 1)) μ2) (fun _ μ1 => zTbC c (uT T i (zSF c W T m (nx + 1) (wd + cL c (nx - 1) + 1) q)) i μ1 ∧ ∀ d, d ≠ 47 → d ≠ 48 → d ≠ 49 → μ1 d = μ d) := by
          intro q μ2 hq hS2 hB2 hfr
          have := ih (nx + 1) (wd + cL c (nx - 1) + 1) q f μ2 (by omega) (by omega) (by omega) (by omega) hq hS2 hB2
          rw [nI_sub1] at this
          exact this.mono fun r m' z => ⟨z.1, fun d d1 d2 d3 => by rw [z.2 d d1 d2 d3, hfr d d1 d2 d3]⟩
        unfold fX7_setsFrom_57 fX7_setsFrom_98 fX7_setsFrom_138
        rw [zG_in rfl (by omega) (by decide), zG_in rfl (by omega) (by decide), nI_add, if_neg (fun z => by have := (nI_eq (by omega) (by omega)).mp z; omega), if_pos (show nI 0 = 0 from rfl)]
        simp only [zG_in (n := 61) (show nI i = nI i from rfl) (by omega) (by decide), nI_clamp (show i < 2 ^ 31 by omega), nI_clamp (show nx < 2 ^ 31 by omega), u1, u2, t1, t2, pk_mul, nI_add]
        rw [show zFre c W nx (wd + cL c (nx - 1)) * zFre c W nx (wd + cL c (nx - 1)) + (T nx).1 = (zCan c W T nx (wd + cL c (nx - 1))).1 from rfl, show 1 + (T nx).2.1 = (zCan c W T nx (wd + cL c (nx - 1))).2.1 from rfl]
        have hq := zCan_gd (c := c) (T := T) (wd := wd + cL c (nx - 1)) hW (show i < nx by omega) (by omega)
        have hq1 : (zCan c W T nx (wd + cL c (nx - 1))).1 ≤ 219600 := by have := hq.2.2.2; show _ ≤ _; exact Nat.le_trans this (by show 3600 + (T nx).1 ≤ _; omega)
        have hq2 : (zCan c W T nx (wd + cL c (nx - 1))).2.1 ≤ 61 := by show 1 + (T nx).2.1 ≤ _; omega
        rw [zBet_if (by omega) (by omega) (by omega) (by omega)]
        cases hbet : zBet (zCan c W T nx (wd + cL c (nx - 1))) p
        · rw [if_neg (by decide), if_neg (by decide)]
          exact hgo p μ ⟨p1, p2, p3, p4⟩ hS hB (fun _ _ _ _ => rfl)
        · rw [if_pos rfl, if_pos rfl]
          refine hgo (zCan c W T nx (wd + cL c (nx - 1))) _ hq ?_ (hB.put (q := zCan c W T nx (wd + cL c (nx - 1)))) (fun d d1 d2 d3 => by rw [zUp_ne d3, zUp_ne d2, zUp_ne d1])
          refine ⟨?_, fun j hj => ?_⟩
          · rw [zUp_ne (by omega), zUp_ne (by omega), zUp_ne (by omega)]; exact hS.1
          · rw [zUp_ne (by omega), zUp_ne (by omega), zUp_ne (by omega)]; exact hS.2 j hj
      by_cases hend : nx = cW c
      · rw [if_pos hend]
        exact e57 0 (by unfold zFre; rw [if_pos hend])
      · rw [if_neg hend]
        exact e57 _ (by unfold zFre; rw [if_neg hend])
    · have hun : zSF c W T (m + 1) nx wd p = p := by rw [zSF, if_neg hfit]
      rw [hun, if_neg (fun z => hfit ((nI_leI (by omega) (by omega)).mp z))]
      exact zTo_ret ⟨hB, fun _ _ _ _ => rfl⟩
