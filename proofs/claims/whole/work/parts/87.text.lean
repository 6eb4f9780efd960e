/-! ===== a text is read ===== -/
def ySg (N : Nat) (b : Nat → Nat) (p : Nat) : Int32 := if p < N then nI (b p) else -1
def yIs (N : Nat) (b : Nat → Nat) (p lo hi : Nat) : Bool := decide (p < N) && (decide (lo ≤ b p) && decide (b p ≤ hi))
def yTC (N : Nat) (b : Nat → Nat) (p : Nat) (μ : zMem) : Prop := μ 1 1 = nI N ∧ μ 1 2 = nI p ∧ ∀ j, j < N → μ 2 j = nI (b j)
def yTM (N : Nat) (b : Nat → Nat) (p : Nat) (μ : zMem) : Prop := μ 60 11 = nI N ∧ μ 60 10 = nI p ∧ ∀ j, j < N → μ 68 j &&& nI 255 = nI (b j)
def yFt (k p : Nat) : Int32 := (-1000 : Int32) * nI k - nI p
theorem yTC.of {N p : Nat} {b : Nat → Nat} {μ μ1 : zMem} (h : yTC N b p μ) (e1 : μ1 1 1 = μ 1 1) (e2 : μ1 1 2 = μ 1 2) (e : μ1 2 = μ 2) : yTC N b p μ1 := ⟨e1.trans h.1, e2.trans h.2.1, fun j hj => by rw [e]; exact h.2.2 j hj⟩
theorem yTC.to {N p q : Nat} {b : Nat → Nat} {μ μ1 : zMem} (h : yTC N b p μ) (e1 : μ1 1 1 = μ 1 1) (e2 : μ1 1 2 = nI q) (e : μ1 2 = μ 2) : yTC N b q μ1 := ⟨e1.trans h.1, e2, fun j hj => by rw [e]; exact h.2.2 j hj⟩
theorem yTM.of {N p : Nat} {b : Nat → Nat} {μ μ1 : zMem} (h : yTM N b p μ) (e1 : μ1 60 11 = μ 60 11) (e2 : μ1 60 10 = μ 60 10) (e : μ1 68 = μ 68) : yTM N b p μ1 := ⟨e1.trans h.1, e2.trans h.2.1, fun j hj => by rw [e]; exact h.2.2 j hj⟩
theorem yTM.to {N p q : Nat} {b : Nat → Nat} {μ μ1 : zMem} (h : yTM N b p μ) (e1 : μ1 60 11 = μ 60 11) (e2 : μ1 60 10 = nI q) (e : μ1 68 = μ 68) : yTM N b q μ1 := ⟨e1.trans h.1, e2, fun j hj => by rw [e]; exact h.2.2 j hj⟩
theorem e_sign {F N p : Nat} {b : Nat → Nat} {μ : zMem} (h : yTC N b p μ) (hN : N ≤ 260) (hp : p ≤ 260) : fX9_sign F μ = some (ySg N b p, μ) := by
  unfold fX9_sign ySg
  rw [h.1, h.2.1]
  by_cases hpN : p < N
  · rw [z_more hpN (by omega), zG_in rfl (by omega) (by decide), cl9 (by omega), h.2.2 p hpN, if_pos hpN]
  · rw [z_done (by omega) (by omega), if_neg hpN]
theorem e_here {F N p : Nat} {b : Nat → Nat} {μ : zMem} (h : yTM N b p μ) (hN : N ≤ 260) (hp : p ≤ 260) : fX12_here F μ = some (ySg N b p, μ) := by
  unfold fX12_here ySg
  rw [h.1, h.2.1]
  by_cases hpN : p < N
  · rw [z_more hpN (by omega), zG_in rfl (by omega) (by decide), cl9 (by omega), h.2.2 p hpN, if_pos hpN]
  · rw [z_done (by omega) (by omega), if_neg hpN]
theorem ySg_in {N p : Nat} {b : Nat → Nat} (h : p < N) : ySg N b p = nI (b p) := if_pos h
theorem ySg_eq {N p c : Nat} {b : Nat → Nat} (hb : b p < 256) (hc : c < 256) : ySg N b p = nI c ↔ p < N ∧ b p = c := by
  unfold ySg
  by_cases h : p < N
  · rw [if_pos h, nI_eq (by omega) (by omega)]; exact ⟨fun e => ⟨h, e⟩, fun e => e.2⟩
  · rw [if_neg h]
    exact ⟨fun e => absurd e.symm (nI_m1 (by omega)), fun e => absurd e.1 h⟩
theorem zIn_neg {x : Int32} {lo hi : Nat} (h : x < 0) (hlo : lo < 2 ^ 31) : zIn x lo hi = false := by
  unfold zIn
  have : ¬ nI lo ≤ x := fun z => by
    have e1 := Int32.le_iff_toInt_le.mp z
    have e2 := Int32.lt_iff_toInt_lt.mp h
    rw [nI_toInt hlo] at e1
    simp at e2
    omega
  rw [decide_eq_false this]; rfl
theorem zIn_sg {N p lo hi : Nat} {b : Nat → Nat} (hb : b p < 256) (hlo : lo < 256) (hhi : hi < 256) : zIn (ySg N b p) lo hi = yIs N b p lo hi := by
  unfold yIs
  by_cases h : p < N
  · rw [ySg_in h, zIn_nI (by omega) (by omega) (by omega), decide_eq_true h, Bool.true_and]
  · unfold ySg
    rw [if_neg h, zIn_neg (by decide) (by omega), decide_eq_false h]; rfl
theorem m1_sub : ∀ a, a < 256 → (-1 : Int32) - nI a < 0 := by decide +kernel
theorem zIn_sgs {N p a lo hi : Nat} {b : Nat → Nat} (hb : b p < 256) (ha : a < 256) (hlo : lo < 256) (hhi : hi < 256) : zIn (ySg N b p - nI a) lo hi = yIs N b p (a + lo) (a + hi) := by
  unfold yIs
  by_cases h : p < N
  · rw [ySg_in h, decide_eq_true h, Bool.true_and]
    by_cases hab : a ≤ b p
    · rw [pk_sub hab, zIn_nI (by omega) (by omega) (by omega)]
      congr 1
      · exact decide_eq_decide.mpr (by omega)
      · exact decide_eq_decide.mpr (by omega)
    · rw [zIn_neg (pk_sneg (by omega) (by omega)) (by omega), decide_eq_false (show ¬ a + lo ≤ b p by omega)]; rfl
  · have hneg : (-1 : Int32) - nI a < 0 := m1_sub a ha
    unfold ySg
    rw [if_neg h, zIn_neg hneg (by omega), decide_eq_false h]; rfl
theorem yIs_t {N p lo hi : Nat} {b : Nat → Nat} (h : yIs N b p lo hi = true) : p < N ∧ lo ≤ b p ∧ b p ≤ hi := by
  unfold yIs at h
  rw [Bool.and_eq_true, Bool.and_eq_true, decide_eq_true_eq, decide_eq_true_eq, decide_eq_true_eq] at h
  exact ⟨h.1, h.2.1, h.2.2⟩
theorem yIs_f {N p lo hi : Nat} {b : Nat → Nat} (h : yIs N b p lo hi = false) : ¬ (p < N ∧ lo ≤ b p ∧ b p ≤ hi) := fun z => by
  have : yIs N b p lo hi = true := by unfold yIs; rw [decide_eq_true z.1, decide_eq_true z.2.1, decide_eq_true z.2.2]; rfl
  rw [this] at h; cases h
theorem e_fails {F k N p : Nat} {b : Nat → Nat} {μ : zMem} (h : yTC N b p μ) : fX9_fails F (nI k) μ = some (nI 0, zUp μ 1 3 (yFt k p)) := by
  unfold fX9_fails yFt
  rw [h.2.1]
  rfl
theorem e_wrongAt {F k p : Nat} {μ : zMem} : fX12_wrongAt F (nI k) (nI p) μ = some (nI 0, zUp μ 60 12 (yFt k p)) := rfl
theorem zGb0 {m : zMem} : zGb (decide ((nI 0 : Int32) = 0 ∨ (nI 0 : Int32) = 1)) (some (nI 0, m)) = some (nI 0, m) := zGb_t (by decide)
theorem zGb1 {m : zMem} : zGb (decide ((nI 1 : Int32) = 0 ∨ (nI 1 : Int32) = 1)) (some (nI 1, m)) = some (nI 1, m) := zGb_t (by decide)
theorem e_needs_t {F N p c : Nat} {b : Nat → Nat} {μ : zMem} (h : yTC N b p μ) (hN : N ≤ 260) (hp : p < N) (hc : b p = c) : fX9_needs F (nI c) μ = some (nI 1, zUp μ 1 2 (nI (p + 1))) := by
  unfold fX9_needs
  rw [e_sign h hN (by omega), zBd_s, ySg_in hp, if_pos (by rw [hc]), h.2.1, nI_add]
  rfl
theorem e_needs_f {F N p c : Nat} {b : Nat → Nat} {μ : zMem} (h : yTC N b p μ) (hN : N ≤ 260) (hp : p ≤ 260) (hb : b p < 256) (hc : c < 256) (hn : ¬ (p < N ∧ b p = c)) : fX9_needs F (nI c) μ = some (nI 0, zUp μ 1 3 (yFt 1 p)) := by
  unfold fX9_needs
  rw [e_sign h hN hp, zBd_s, if_neg (fun z => hn ((ySg_eq hb hc).mp z)), e_fails h, zBd_s, zGb0]
theorem e_takes_t {F N p c : Nat} {b : Nat → Nat} {μ : zMem} (h : yTM N b p μ) (hN : N ≤ 260) (hp : p < N) (hc : b p = c) : fX12_takes F (nI c) μ = some (nI 1, zUp μ 60 10 (nI (p + 1))) := by
  unfold fX12_takes
  rw [e_here h hN (by omega), zBd_s, ySg_in hp, if_pos (by rw [hc]), h.2.1, nI_add]
  rfl
theorem e_takes_f {F N p c : Nat} {b : Nat → Nat} {μ : zMem} (h : yTM N b p μ) (hN : N ≤ 260) (hp : p ≤ 260) (hb : b p < 256) (hc : c < 256) (hn : ¬ (p < N ∧ b p = c)) : fX12_takes F (nI c) μ = some (nI 0, zUp μ 60 12 (yFt 1 p)) := by
  unfold fX12_takes
  rw [e_here h hN hp, zBd_s, if_neg (fun z => hn ((ySg_eq hb hc).mp z)), h.2.1, e_wrongAt, zBd_s, zGb0]
theorem e_isOver {F N p : Nat} {b : Nat → Nat} {μ : zMem} (h : yTC N b p μ) (hN : N ≤ 260) (hp : p ≤ 260) : fX9_isOver F μ = some (zB (decide (N ≤ p)), μ) := by
  unfold fX9_isOver
  rw [h.1, h.2.1]
  by_cases hpN : N ≤ p
  · rw [if_neg (fun z => by have := (nI_ltI (by omega) (by omega)).mp z; omega), decide_eq_true hpN]; rfl
  · rw [if_pos ((nI_ltI (by omega) (by omega)).mpr (by omega)), decide_eq_false hpN]; rfl
theorem e_isDigit {F N p : Nat} {b : Nat → Nat} {μ : zMem} (h : yTM N b p μ) (hN : N ≤ 260) (hp : p ≤ 260) (hb : b p < 256) : fX12_isDigit F μ = some (zB (yIs N b p 48 57), μ) := by
  unfold fX12_isDigit
  rw [e_here h hN hp, zBd_s, e_here h hN hp, zBd_s]
  unfold ySg yIs
  by_cases hpN : p < N
  · rw [if_pos hpN, decide_eq_true hpN, Bool.true_and]
    by_cases h1 : b p < 48
    · rw [if_pos ((nI_ltI (by omega) (by decide)).mpr h1), decide_eq_false (show ¬ 48 ≤ b p by omega)]; rfl
    · rw [if_neg (fun z => h1 ((nI_ltI (by omega) (by decide)).mp z)), decide_eq_true (show 48 ≤ b p by omega), Bool.true_and]
      by_cases h2 : 57 < b p
      · rw [if_pos ((nI_ltI (by decide) (by omega)).mpr h2), decide_eq_false (show ¬ b p ≤ 57 by omega)]; rfl
      · rw [if_neg (fun z => h2 ((nI_ltI (by decide) (by omega)).mp z)), decide_eq_true (show b p ≤ 57 by omega)]; rfl
  · rw [if_neg hpN, if_pos (by decide), decide_eq_false hpN]; rfl
