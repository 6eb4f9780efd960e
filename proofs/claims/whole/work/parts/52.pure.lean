/-! ===== pure rows: numbers, guards, memory ===== -/
theorem zq_s_l : ∀ n, n < 32 → ((nI n &&& 31).toBitVec.smod 32).toNat = n := by decide +kernel
theorem zq_s_u : ∀ n, n < 32 → (((nI n).toUInt32 &&& Int32.toUInt32 31).toBitVec % 32).toNat = n := by decide +kernel
theorem zq_shr {n i : Nat} (hn : n < 2 ^ 31) (hi : i < 32) : nI n >>> (nI i &&& 31) = nI (n / 2 ^ i) := pk_shrN hn _ i (zq_s_l i hi)
theorem zq_shl {n i : Nat} (hi : i < 32) (h : n * 2 ^ i < 2 ^ 32) : nI n <<< (nI i &&& 31) = nI (n * 2 ^ i) := pk_shlN _ i (zq_s_l i hi) h
theorem zq_1shl {i : Nat} (hi : i < 32) : nI 1 <<< (nI i &&& 31) = nI (2 ^ i) := by
  have h := zq_shl (n := 1) hi (by rw [Nat.one_mul]; exact Nat.pow_lt_pow_right (by decide) hi)
  rw [Nat.one_mul] at h
  exact h
theorem zq_and1 (n : Nat) : nI n &&& nI 1 = nI (n % 2) := fa_mask n 1
theorem zq_bit {n i : Nat} (hn : n < 2 ^ 31) (hi : i < 32) : (nI n >>> (nI i &&& 31)) &&& nI 1 = nI (n.testBit i).toNat := by
  rw [zq_shr hn hi, zq_and1]
  congr 1
  rw [Nat.testBit_eq_decide_div_mod_eq]
  have := Nat.mod_two_eq_zero_or_one (n / 2 ^ i)
  rcases this with h | h <;> simp [h]
def nAn (a b : Nat) : Nat := a &&& (65535 ^^^ b)
theorem zq_andn {a b : Nat} (ha : a < 65536) : nI a &&& (nI b ^^^ (-1)) = nI (nAn a b) := by
  unfold nAn
  apply Int32.toBitVec_inj.1
  show BitVec.ofNat 32 a &&& (BitVec.ofNat 32 b ^^^ (-1 : Int32).toBitVec) = BitVec.ofNat 32 (a &&& (65535 ^^^ b))
  have h1 : (-1 : Int32).toBitVec = BitVec.allOnes 32 := by decide
  rw [h1]
  apply BitVec.eq_of_getLsbD_eq
  intro i hi
  simp only [BitVec.getLsbD_and, BitVec.getLsbD_xor, BitVec.getLsbD_ofNat, BitVec.getLsbD_allOnes, hi, decide_true, Bool.true_and, Nat.testBit_and, Nat.testBit_xor]
  have h65 : (65535 : Nat).testBit i = decide (i < 16) := Nat.testBit_two_pow_sub_one 16 i
  rw [h65]
  by_cases h16 : i < 16
  · simp [h16]
  · have : a.testBit i = false := Nat.testBit_lt_two_pow (Nat.lt_of_lt_of_le ha (by
      have : 2 ^ 16 ≤ 2 ^ i := Nat.pow_le_pow_right (by decide) (by omega)
      simpa using this))
    simp [this]
theorem nAn_bit {a b i : Nat} (ha : a < 65536) : (nAn a b).testBit i = (a.testBit i && !b.testBit i) := by
  unfold nAn
  rw [Nat.testBit_and, Nat.testBit_xor]
  have h65 : (65535 : Nat).testBit i = decide (i < 16) := Nat.testBit_two_pow_sub_one 16 i
  rw [h65]
  by_cases h16 : i < 16
  · simp [h16]
  · have : a.testBit i = false := Nat.testBit_lt_two_pow (Nat.lt_of_lt_of_le ha (by
      have : 2 ^ 16 ≤ 2 ^ i := Nat.pow_le_pow_right (by decide) (by omega)
      simpa using this))
    simp [this]
theorem nAn_le {a b : Nat} : nAn a b ≤ a := Nat.and_le_left
theorem nAn_lt {a b : Nat} (ha : a < 65536) : nAn a b < 65536 := Nat.lt_of_le_of_lt nAn_le ha
def zB (b : Bool) : Int32 := nI b.toNat
theorem zB_0 {b : Bool} : (zB b = 0) ↔ b = false := by cases b <;> decide
theorem nI_z {a : Nat} (ha : a < 2 ^ 31) : (nI a = 0) ↔ a = 0 := by
  rw [show (0 : Int32) = nI 0 from rfl]; exact nI_eq ha (by decide)
theorem nI_ge0 {a : Nat} (ha : a < 2 ^ 31) : (0 : Int32) ≤ nI a := nI_pos' ha
theorem nI_nlt0 {a : Nat} (ha : a < 2 ^ 31) : ¬ nI a < 0 := nI_pos ha
/-- whether an int is within bounds -/
def zIn (x : Int32) (a b : Nat) : Bool := decide (nI a ≤ x) && decide (x ≤ nI b)
theorem zIn_t {x : Int32} {a b : Nat} (hb : b < 2 ^ 31) (hab : a ≤ b) (h : zIn x a b = true) : ∃ j, a ≤ j ∧ j ≤ b ∧ x = nI j := by
  unfold zIn at h
  rw [Bool.and_eq_true, decide_eq_true_eq, decide_eq_true_eq] at h
  obtain ⟨h1, h2⟩ := h
  have ha : a < 2 ^ 31 := by omega
  have h0 : ¬ x < 0 := by
    intro h0
    have e1 := Int32.lt_iff_toInt_lt.mp h0
    have e2 := Int32.le_iff_toInt_le.mp h1
    rw [nI_toInt ha] at e2
    simp at e1
    omega
  obtain ⟨j, hj, rfl⟩ := nI_of h0
  exact ⟨j, (nI_leI ha hj).mp h1, (nI_leI hj hb).mp h2, rfl⟩
theorem zIn_nI {j a b : Nat} (hj : j < 2 ^ 31) (hb : b < 2 ^ 31) (ha : a < 2 ^ 31) : zIn (nI j) a b = (decide (a ≤ j) && decide (j ≤ b)) := by
  unfold zIn
  congr 1
  · exact decide_eq_decide.mpr (nI_leI ha hj)
  · exact decide_eq_decide.mpr (nI_leI hj hb)
theorem zG_in {x : Int32} {n k : Nat} {B : Option zR} (e : x = nI k) (h : k < n) (hn : n < 2 ^ 31) : zG x n B = B := by
  unfold zG; rw [if_pos]; rw [e]; exact nI_in h hn
theorem zGz_in {y : Int32} {B : Option zR} (h : ¬ y = 0) : zGz y B = B := by unfold zGz; rw [if_neg h]
theorem zGb_t {b : Bool} {B : Option zR} (h : b = true) : zGb b B = B := by unfold zGb; rw [if_pos h]
theorem zBd_e {x : Option zR} {r : Int32} {m : zMem} {K : Int32 → zMem → Option zR} (h : x = some (r, m)) : zBd x K = K r m := by rw [h]; rfl
theorem zBd_s {r : Int32} {m : zMem} {K : Int32 → zMem → Option zR} : zBd (some (r, m)) K = K r m := rfl
theorem zcl {k : Nat} (h : k < 2 ^ 31) : (nI k).toNatClampNeg = k := nI_clamp h
theorem zRow_at (μ : zMem) (k : Nat) (g : Nat → Int32) : zRow μ k g k = g := if_pos rfl
theorem zRow_ne {μ : zMem} {k a : Nat} {g : Nat → Int32} (h : a ≠ k) : zRow μ k g a = μ a := if_neg h
theorem zUp_at (μ : zMem) (k j : Nat) (x : Int32) : zUp μ k j x k = upd (μ k) j x := if_pos rfl
theorem zUp_ne {μ : zMem} {k j a : Nat} {x : Int32} (h : a ≠ k) : zUp μ k j x a = μ a := if_neg h
theorem zUp_s (μ : zMem) (k j : Nat) (x : Int32) : zUp μ k j x k j = x := by rw [zUp_at]; exact if_pos rfl
theorem zUp_o {μ : zMem} {k j i : Nat} {x : Int32} (h : i ≠ j) : zUp μ k j x k i = μ k i := by rw [zUp_at]; exact if_neg h
theorem zUp_e (μ : zMem) (k j : Nat) (x : Int32) (a b : Nat) : zUp μ k j x a b = if a = k ∧ b = j then x else μ a b := by
  by_cases h : a = k
  · subst h
    rw [zUp_at]
    by_cases hb : b = j
    · rw [if_pos ⟨rfl, hb⟩]; exact if_pos hb
    · rw [if_neg (fun z => hb z.2)]; exact if_neg hb
  · rw [zUp_ne h, if_neg (fun z => h z.1)]
/-! the small methods -/
theorem e_isWithin {F : Nat} {x : Int32} {a b : Nat} {μ : zMem} : fX11_isWithin F x (nI a) (nI b) μ = some (zB (zIn x a b), μ) := by
  unfold fX11_isWithin zIn
  by_cases h1 : x < nI a
  · rw [if_pos h1, decide_eq_false (Int32.not_le.mpr h1)]; rfl
  · rw [if_neg h1, decide_eq_true (Int32.not_lt.mp h1)]
    by_cases h2 : nI b < x
    · rw [if_pos h2, decide_eq_false (Int32.not_le.mpr h2)]; rfl
    · rw [if_neg h2, decide_eq_true (Int32.not_lt.mp h2)]; rfl
theorem e_in {F : Nat} {x : Int32} {a b : Nat} {μ : zMem} : fX12_in F x (nI a) (nI b) μ = some (zB (zIn x a b), μ) := by
  unfold fX12_in zIn
  by_cases h1 : x < nI a
  · rw [if_pos h1, decide_eq_false (Int32.not_le.mpr h1)]; rfl
  · rw [if_neg h1, decide_eq_true (Int32.not_lt.mp h1)]
    by_cases h2 : nI b < x
    · rw [if_pos h2, decide_eq_false (Int32.not_le.mpr h2)]; rfl
    · rw [if_neg h2, decide_eq_true (Int32.not_lt.mp h2)]; rfl
theorem zB_01 (b : Bool) : (zB b = 0 ∨ zB b = 1) := by cases b <;> decide
theorem e_gb01 {b : Bool} {μ : zMem} : zGb (decide (zB b = 0 ∨ zB b = 1)) (some (zB b, μ)) = some (zB b, μ) := zGb_t (decide_eq_true (zB_01 b))
theorem e_isPerson {F : Nat} {x : Int32} {μ : zMem} : fX11_isPerson F x μ = some (zB (zIn x 0 15), μ) := by
  unfold fX11_isPerson
  rw [e_isWithin, zBd_s, e_gb01]
theorem e_isSecret {F : Nat} {x : Int32} {μ : zMem} : fX11_isSecret F x μ = some (zB (zIn x 0 15), μ) := by
  unfold fX11_isSecret
  rw [e_isWithin, zBd_s, e_gb01]
theorem e_isLetter {F : Nat} {x : Int32} {μ : zMem} : fX11_isLetter F x μ = some (zB (zIn x 0 25), μ) := by
  unfold fX11_isLetter
  rw [e_isWithin, zBd_s, e_gb01]
theorem e_hasBit {F n i : Nat} {μ : zMem} (hn : n < 2 ^ 31) (hi : i < 32) : fX11_hasBit F (nI n) (nI i) μ = some (zB (n.testBit i), μ) := by
  unfold fX11_hasBit
  rw [zq_bit hn hi]
  cases n.testBit i
  · rw [if_pos (by decide)]; rfl
  · rw [if_neg (by decide)]; rfl
theorem e_has {F n i : Nat} {μ : zMem} (hn : n < 2 ^ 31) (hi : i < 32) : fX12_has F (nI n) (nI i) μ = some (zB (n.testBit i), μ) := by
  unfold fX12_has
  rw [zq_bit hn hi]
  cases n.testBit i
  · simp; first | rfl | decide
  · simp; first | rfl | decide
theorem e_min {F a b : Nat} {μ : zMem} (ha : a < 2 ^ 31) (hb : b < 2 ^ 31) : fJ9_min_7cf53 F (nI a) (nI b) μ = some (nI (min a b), μ) := by
  unfold fJ9_min_7cf53
  by_cases h : b < a
  · rw [if_pos ((nI_ltI hb ha).mpr h), Nat.min_eq_right (by omega)]
  · rw [if_neg (fun z => h ((nI_ltI hb ha).mp z)), Nat.min_eq_left (by omega)]
theorem e_max {F a b : Nat} {μ : zMem} (ha : a < 2 ^ 31) (hb : b < 2 ^ 31) : fJ9_max_7cf53 F (nI a) (nI b) μ = some (nI (max a b), μ) := by
  unfold fJ9_max_7cf53
  by_cases h : a < b
  · rw [if_pos ((nI_ltI ha hb).mpr h), Nat.max_eq_right (by omega)]
  · rw [if_neg (fun z => h ((nI_ltI ha hb).mp z)), Nat.max_eq_left (by omega)]
theorem e_mmin {F a b : Nat} {μ : zMem} (ha : a < 2 ^ 31) (hb : b < 2 ^ 31) : fX12_min F (nI a) (nI b) μ = some (nI (min a b), μ) := by
  unfold fX12_min
  by_cases h : a < b
  · first | rw [if_pos ((nI_ltI ha hb).mpr h), Nat.min_eq_left (by omega)] | rw [if_neg (fun z => by have := (nI_leI hb ha).mp z; omega), Nat.min_eq_left (by omega)]
  · first | rw [if_neg (fun z => h ((nI_ltI ha hb).mp z)), Nat.min_eq_right (by omega)] | rw [if_pos ((nI_leI hb ha).mpr (by omega)), Nat.min_eq_right (by omega)]
theorem e_mmax {F a b : Nat} {μ : zMem} (ha : a < 2 ^ 31) (hb : b < 2 ^ 31) : fX12_max F (nI a) (nI b) μ = some (nI (max a b), μ) := by
  unfold fX12_max
  by_cases h : b < a
  · first | rw [if_pos ((nI_ltI hb ha).mpr h), Nat.max_eq_left (by omega)] | rw [if_neg (fun z => by have := (nI_leI ha hb).mp z; omega), Nat.max_eq_left (by omega)]
  · first | rw [if_neg (fun z => h ((nI_ltI hb ha).mp z)), Nat.max_eq_right (by omega)] | rw [if_pos ((nI_leI ha hb).mpr (by omega)), Nat.max_eq_right (by omega)]
