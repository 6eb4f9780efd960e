/-! ===== loops that count up ===== -/
theorem z_done {α : Type} {a b : α} {k N : Nat} (h : N ≤ k) (hk : k < 2 ^ 31) : (if nI N ≤ nI k then a else b) = a := if_pos ((nI_leI (by omega) hk).mpr h)
theorem z_more {α : Type} {a b : α} {k N : Nat} (h : k < N) (hN : N < 2 ^ 31) : (if nI N ≤ nI k then a else b) = b := if_neg (fun z => by have := (nI_leI hN (by omega)).mp z; omega)
theorem z_bt {α : Type} {a b : α} : (if zB true = 0 then a else b) = b := if_neg (by decide)
theorem z_bf {α : Type} {a b : α} : (if zB false = 0 then a else b) = a := if_pos (by decide)
theorem z_s {n m : Nat} (h : m < n) : ∃ n', n = n' + 1 := ⟨n - 1, by omega⟩
def zFold (st : Nat → Nat → Nat) : Nat → Nat → Nat → Nat
  | 0, _, acc => acc
  | m + 1, k, acc => zFold st m (k + 1) (st k acc)
theorem zFold_cong {f g : Nat → Nat → Nat} : ∀ (m k a : Nat), (∀ i b, k ≤ i → i < k + m → f i b = g i b) → zFold f m k a = zFold g m k a
  | 0, _, _, _ => rfl
  | m + 1, k, a, h => by
    show zFold f m (k + 1) (f k a) = zFold g m (k + 1) (g k a)
    rw [h k a (by omega) (by omega)]
    exact zFold_cong m (k + 1) _ (fun i b h1 h2 => h i b (by omega) (by omega))
/-- the bits p below 16 of which something is true -/
def zMask (P : Nat → Bool) : Nat := zFold (fun p a => if P p then a ||| 2 ^ p else a) 16 0 0
theorem zMask_f (P : Nat → Bool) (i : Nat) : ∀ m k a, (zFold (fun p a => if P p then a ||| 2 ^ p else a) m k a).testBit i = (a.testBit i || (decide (k ≤ i ∧ i < k + m) && P i))
  | 0, k, a => by
    show a.testBit i = _
    have : ¬ (k ≤ i ∧ i < k + 0) := by omega
    rw [decide_eq_false this]
    simp
  | m + 1, k, a => by
    show (zFold _ m (k + 1) (if P k then a ||| 2 ^ k else a)).testBit i = _
    rw [zMask_f P i m (k + 1)]
    by_cases hik : i = k
    · subst hik
      have e1 : ¬ (i + 1 ≤ i ∧ i < i + 1 + m) := by omega
      have e2 : (i ≤ i ∧ i < i + (m + 1)) := by omega
      cases hP : P i
      · simp [e1]
      · simp [e1, e2, Nat.testBit_or, Nat.testBit_two_pow_self]
    · have e3 : (k + 1 ≤ i ∧ i < k + 1 + m) ↔ (k ≤ i ∧ i < k + (m + 1)) := by omega
      have e4 : (if P k then a ||| 2 ^ k else a).testBit i = a.testBit i := by
        cases P k
        · rfl
        · simp [Nat.testBit_or, Nat.testBit_two_pow, Ne.symm hik]
      rw [e4]
      simp only [e3]
theorem zMask_bit (P : Nat → Bool) (i : Nat) : (zMask P).testBit i = (decide (i < 16) && P i) := by
  unfold zMask
  rw [zMask_f]
  simp
theorem zMask_lt (P : Nat → Bool) : zMask P < 65536 := Nat.lt_pow_two_of_testBit (n := 16) _ (fun i hi => by
  rw [zMask_bit]
  have : ¬ i < 16 := by omega
  simp [this])
theorem zMask_eq {t : Nat} (ht : t < 65536) : zMask (fun p => t.testBit p) = t := by
  apply Nat.eq_of_testBit_eq
  intro i
  rw [zMask_bit]
  by_cases hi : i < 16
  · simp [hi]
  · simp [hi]
    exact (Nat.testBit_lt_two_pow (Nat.lt_of_lt_of_le ht (by
      have : 2 ^ 16 ≤ 2 ^ i := Nat.pow_le_pow_right (by decide) (by omega)
      simpa using this)))
theorem zMask_cong {P Q : Nat → Bool} (h : ∀ p, p < 16 → P p = Q p) : zMask P = zMask Q := zFold_cong _ _ _ (fun i b _ h2 => by simp only [h i (by omega)])
/-- how many bits below 16 -/
def zPop (b : Nat) : Nat := zFold (fun k a => a + (b.testBit k).toNat) 16 0 0
theorem zPop_f (b : Nat) : ∀ m k a, zFold (fun k a => a + (b.testBit k).toNat) m k a ≤ a + m
  | 0, _, a => Nat.le_refl a
  | m + 1, k, a => by
    have h := zPop_f b m (k + 1) (a + (b.testBit k).toNat)
    have h2 : (b.testBit k).toNat ≤ 1 := Bool.toNat_le _
    show zFold _ m (k + 1) (a + (b.testBit k).toNat) ≤ _
    omega
theorem zPop_le (b : Nat) : zPop b ≤ 16 := by have := zPop_f b 16 0 0; unfold zPop; omega
theorem e_bits_4 {F b : Nat} {μ : zMem} (hb : b < 2 ^ 31) : ∀ m k a n, k + m = 16 → m < n → fX12_bits_4 F n (nI b) (nI a) (nI k) μ = some (nI (zFold (fun k a => a + (b.testBit k).toNat) m k a), μ) := by
  intro m
  induction m with
  | zero =>
    intro k a n hk hn
    obtain ⟨n, rfl⟩ := z_s hn
    rw [fX12_bits_4, z_done (by omega) (by omega)]
    rfl
  | succ m ih =>
    intro k a n hk hn
    obtain ⟨n, rfl⟩ := z_s hn
    rw [fX12_bits_4, z_more (by omega) (by decide), zq_bit hb (by omega), nI_add, nI_add]
    exact ih (k + 1) _ n (by omega) (by omega)
theorem e_bits {F b : Nat} {μ : zMem} (hF : 17 ≤ F) (hb : b < 2 ^ 31) : fX12_bits F (nI b) μ = some (nI (zPop b), μ) := e_bits_4 hb 16 0 0 F rfl (by omega)
def zBc (n : Nat) : Nat :=
  let a := n - (n / 2 &&& 1431655765)
  let b := (a &&& 858993459) + (a / 4 &&& 858993459)
  let c := (b + b / 16) &&& 252645135
  let d := c + c / 256
  (d + d / 65536) &&& 63
theorem zand (a b c d : Nat) (ha : a < 256) (hc : c < 256) : (a + 256 * b) &&& (c + 256 * d) = (a &&& c) + 256 * (b &&& d) := by
  have h1 : (a &&& c) < 2 ^ 8 := Nat.lt_of_le_of_lt Nat.and_le_left ha
  rw [Nat.add_comm a, Nat.add_comm c, Nat.add_comm (a &&& c)]
  apply Nat.eq_of_testBit_eq
  intro i
  rw [Nat.testBit_and, show (256 : Nat) = 2 ^ 8 from rfl, Nat.testBit_two_pow_mul_add b (show a < 2 ^ 8 from ha), Nat.testBit_two_pow_mul_add d (show c < 2 ^ 8 from hc), Nat.testBit_two_pow_mul_add _ h1]
  by_cases hi : i < 8
  · simp [hi, Nat.testBit_and]
  · simp [hi, Nat.testBit_and]
/-- the bits of a byte -/
def zP8 (b : Nat) : Nat := zFold (fun k a => a + (b.testBit k).toNat) 8 0 0
def zA8 (b : Nat) : Nat := b - (b / 2 &&& 85)
def zB8 (b : Nat) : Nat := (zA8 b &&& 51) + (zA8 b / 4 &&& 51)
theorem z8_1 : ∀ b, b < 256 → (b / 2 &&& 85) ≤ b ∧ zA8 b < 256 ∧ zB8 b ≤ 68 ∧ zB8 b % 16 ≤ 4 ∧ zP8 b ≤ 8 ∧ zB8 b % 16 + zB8 b / 16 = zP8 b := by decide +kernel
theorem z8_2 : ∀ b, b < 256 → ∀ e, e < 2 → ((b / 2 + 128 * e) &&& 85) = b / 2 &&& 85 := by decide +kernel
theorem z8_3 : ∀ b, b < 256 → ∀ e, e < 4 → ((b / 4 + 64 * e) &&& 51) = b / 4 &&& 51 := by decide +kernel
theorem z8_4 : ∀ b, b < 69 → b % 16 ≤ 4 → ∀ e, e < 5 → ((b + b / 16 + 16 * e) &&& 15) = b % 16 + b / 16 := by decide +kernel
theorem zBc_3 {b0 b1 b2 : Nat} (h0 : b0 < 256) (h1 : b1 < 256) (h2 : b2 < 256) : zBc (b0 + 256 * (b1 + 256 * b2)) = zP8 b0 + zP8 b1 + zP8 b2 := by
  obtain ⟨p1, p2, p3, p4, p5, p6⟩ := z8_1 b0 h0
  obtain ⟨q1, q2, q3, q4, q5, q6⟩ := z8_1 b1 h1
  obtain ⟨r1, r2, r3, r4, r5, r6⟩ := z8_1 b2 h2
  have eA : (b0 + 256 * (b1 + 256 * b2)) - ((b0 + 256 * (b1 + 256 * b2)) / 2 &&& 1431655765) = zA8 b0 + 256 * (zA8 b1 + 256 * zA8 b2) := by
    have d1 : (b0 + 256 * (b1 + 256 * b2)) / 2 = (b0 / 2 + 128 * (b1 % 2)) + 256 * ((b1 / 2 + 128 * (b2 % 2)) + 256 * (b2 / 2 + 128 * 0)) := by omega
    rw [d1, show (1431655765 : Nat) = 85 + 256 * (85 + 256 * (85 + 256 * 85)) from rfl, zand _ _ _ _ (by omega) (by decide), zand _ _ _ _ (by omega) (by decide), show (b2 / 2 + 128 * 0) = (b2 / 2 + 128 * 0) + 256 * 0 from rfl, zand _ _ _ _ (by omega) (by decide), z8_2 b0 h0 _ (by omega), z8_2 b1 h1 _ (by omega), z8_2 b2 h2 0 (by omega), Nat.zero_and]
    unfold zA8
    omega
  have eB : ((zA8 b0 + 256 * (zA8 b1 + 256 * zA8 b2)) &&& 858993459) + ((zA8 b0 + 256 * (zA8 b1 + 256 * zA8 b2)) / 4 &&& 858993459) = zB8 b0 + 256 * (zB8 b1 + 256 * zB8 b2) := by
    have d1 : (zA8 b0 + 256 * (zA8 b1 + 256 * zA8 b2)) / 4 = (zA8 b0 / 4 + 64 * (zA8 b1 % 4)) + 256 * ((zA8 b1 / 4 + 64 * (zA8 b2 % 4)) + 256 * (zA8 b2 / 4 + 64 * 0)) := by omega
    rw [d1, show (858993459 : Nat) = 51 + 256 * (51 + 256 * (51 + 256 * 51)) from rfl, zand _ _ _ _ (by omega) (by decide), zand _ _ _ _ (by omega) (by decide), zand _ _ _ _ (by omega) (by decide), zand _ _ _ _ (by omega) (by decide), show (zA8 b2 / 4 + 64 * 0) = (zA8 b2 / 4 + 64 * 0) + 256 * 0 from rfl, zand _ _ _ _ (by omega) (by decide), z8_3 _ p2 _ (by omega), z8_3 _ q2 _ (by omega), z8_3 _ r2 0 (by omega), Nat.zero_and]
    have d2 : zA8 b2 &&& (51 + 256 * 51) = zA8 b2 &&& 51 := by
      have := zand (zA8 b2) 0 51 51 r2 (by decide)
      rw [Nat.mul_zero, Nat.add_zero, Nat.zero_and, Nat.mul_zero, Nat.add_zero] at this
      exact this
    rw [d2]
    unfold zB8
    omega
  have eC : ((zB8 b0 + 256 * (zB8 b1 + 256 * zB8 b2)) + (zB8 b0 + 256 * (zB8 b1 + 256 * zB8 b2)) / 16) &&& 252645135 = zP8 b0 + 256 * (zP8 b1 + 256 * zP8 b2) := by
    have d1 : (zB8 b0 + 256 * (zB8 b1 + 256 * zB8 b2)) + (zB8 b0 + 256 * (zB8 b1 + 256 * zB8 b2)) / 16 = (zB8 b0 + zB8 b0 / 16 + 16 * (zB8 b1 % 16)) + 256 * ((zB8 b1 + zB8 b1 / 16 + 16 * (zB8 b2 % 16)) + 256 * (zB8 b2 + zB8 b2 / 16 + 16 * 0)) := by omega
    rw [d1, show (252645135 : Nat) = 15 + 256 * (15 + 256 * (15 + 256 * 15)) from rfl, zand _ _ _ _ (by omega) (by decide), zand _ _ _ _ (by omega) (by decide), show (zB8 b2 + zB8 b2 / 16 + 16 * 0) = (zB8 b2 + zB8 b2 / 16 + 16 * 0) + 256 * 0 from rfl, zand _ _ _ _ (by omega) (by decide), z8_4 _ (by omega) p4 _ (by omega), z8_4 _ (by omega) q4 _ (by omega), z8_4 _ (by omega) r4 0 (by omega), Nat.zero_and, p6, q6, r6]
    rfl
  unfold zBc
  simp only [eA, eB, eC]
  have d : ((zP8 b0 + 256 * (zP8 b1 + 256 * zP8 b2)) + (zP8 b0 + 256 * (zP8 b1 + 256 * zP8 b2)) / 256) + ((zP8 b0 + 256 * (zP8 b1 + 256 * zP8 b2)) + (zP8 b0 + 256 * (zP8 b1 + 256 * zP8 b2)) / 256) / 65536 = (zP8 b0 + zP8 b1 + zP8 b2) + 256 * (zP8 b1 + zP8 b2 + 256 * zP8 b2) := by omega
  rw [d, show (63 : Nat) = 2 ^ 6 - 1 from rfl, Nat.and_two_pow_sub_one_eq_mod]
  omega
theorem zFold_add (st : Nat → Nat → Nat) : ∀ (m m' k a : Nat), zFold st (m + m') k a = zFold st m' (k + m) (zFold st m k a)
  | 0, m', k, a => by rw [Nat.zero_add]; rfl
  | m + 1, m', k, a => by
    rw [show m + 1 + m' = (m + m') + 1 by omega]
    show zFold st (m + m') (k + 1) (st k a) = _
    rw [zFold_add st m m' (k + 1) (st k a), show k + 1 + m = k + (m + 1) by omega]
    rfl
theorem zPop_sh (b c s : Nat) (h : ∀ i, b.testBit (s + i) = c.testBit i) : ∀ m k a, zFold (fun k a => a + (b.testBit k).toNat) m (s + k) a = zFold (fun k a => a + (c.testBit k).toNat) m k a
  | 0, _, _ => rfl
  | m + 1, k, a => by
    show zFold _ m (s + k + 1) (a + (b.testBit (s + k)).toNat) = zFold _ m (k + 1) (a + (c.testBit k).toNat)
    rw [h k]
    exact zPop_sh b c s h m (k + 1) _
theorem zPop_a (b : Nat) : ∀ m k a, zFold (fun k a => a + (b.testBit k).toNat) m k a = a + zFold (fun k a => a + (b.testBit k).toNat) m k 0
  | 0, _, _ => rfl
  | m + 1, k, a => by
    show zFold _ m (k + 1) (a + (b.testBit k).toNat) = a + zFold _ m (k + 1) (0 + (b.testBit k).toNat)
    rw [zPop_a b m (k + 1), zPop_a b m (k + 1) (0 + _)]
    omega
/-- how many bits below m -/
def zPopN (m b : Nat) : Nat := zFold (fun k a => a + (b.testBit k).toNat) m 0 0
theorem zPopN_split (m m' b : Nat) : zPopN (m + m') b = zPopN m b + zPopN m' (b / 2 ^ m) := by
  unfold zPopN
  rw [zFold_add, zPop_a, Nat.zero_add]
  congr 1
  exact zPop_sh b (b / 2 ^ m) m (fun i => by rw [Nat.testBit_div_two_pow, Nat.add_comm]) m' 0 0
theorem zPopN_mod (m b : Nat) : zPopN m b = zPopN m (b % 2 ^ m) := by
  refine zFold_cong _ _ _ (fun i a _ h2 => ?_)
  rw [Nat.testBit_mod_two_pow]
  have : i < m := by omega
  simp [this]
theorem zBc_N {n : Nat} (h : n < 16777216) : zBc n = zPopN 24 n := by
  have e : n = n % 256 + 256 * (n / 256 % 256 + 256 * (n / 65536)) := by omega
  have h3 := zBc_3 (b0 := n % 256) (b1 := n / 256 % 256) (b2 := n / 65536) (by omega) (by omega) (by omega)
  rw [← e] at h3
  rw [h3, show (24 : Nat) = 8 + (8 + 8) from rfl, zPopN_split, zPopN_split, zPopN_mod 8 n, zPopN_mod 8 (n / 2 ^ 8), Nat.div_div_eq_div_mul]
  show zP8 (n % 256) + zP8 (n / 256 % 256) + zP8 (n / 65536) = zP8 (n % 256) + (zP8 (n / 256 % 256) + zP8 (n / 65536))
  omega
theorem zPopN_0 (m : Nat) : zPopN m 0 = 0 := by
  induction m with
  | zero => rfl
  | succ m ih =>
    rw [zPopN_split m 1 0, ih, Nat.zero_div]
    rfl
theorem zPopN_big {m m' b : Nat} (h : b < 2 ^ m) : zPopN (m + m') b = zPopN m b := by
  rw [zPopN_split, Nat.div_eq_of_lt h, zPopN_0, Nat.add_zero]
theorem zBc_pop {n : Nat} (h : n < 65536) : zBc n = zPop n := by
  rw [zBc_N (by omega), show (24 : Nat) = 16 + 8 from rfl, zPopN_big (show n < 2 ^ 16 from h)]
  rfl
theorem zq_ush {n k : Nat} (hn : n < 2 ^ 31) (hk : k < 32) : zUsh (nI n) (nI k) = nI (n / 2 ^ k) := pk_ushrN (by omega) _ k (zq_s_u k hk)
theorem e_bitCountN {F n : Nat} {μ : zMem} (h : n < 16777216) : fJ6_bitCount_0f7a4 F (nI n) μ = some (nI (zBc n), μ) := by
  unfold fJ6_bitCount_0f7a4 zBc
  have ha : n / 2 &&& 1431655765 ≤ n / 2 := Nat.and_le_left
  have e1 : zUsh (nI n) (nI 1) = nI (n / 2) := zq_ush (by omega) (by decide)
  simp only [e1, fa_and]
  rw [pk_sub (show n / 2 &&& 1431655765 ≤ n by omega)]
  generalize hA : n - (n / 2 &&& 1431655765) = A
  have hAn : A ≤ n := by omega
  have e2 : zUsh (nI A) (nI 2) = nI (A / 4) := zq_ush (by omega) (by decide)
  simp only [e2, fa_and, nI_add]
  have hb1 : A &&& 858993459 ≤ A := Nat.and_le_left
  have hb2 : A / 4 &&& 858993459 ≤ A / 4 := Nat.and_le_left
  generalize hB : (A &&& 858993459) + (A / 4 &&& 858993459) = B
  have hBn : B ≤ 2 * n := by omega
  have e3 : zUsh (nI B) (nI 4) = nI (B / 16) := zq_ush (by omega) (by decide)
  simp only [e3, fa_and, nI_add]
  have hc1 : (B + B / 16) &&& 252645135 ≤ B + B / 16 := Nat.and_le_left
  generalize hC : (B + B / 16) &&& 252645135 = C
  have hCn : C ≤ 4 * n := by omega
  have e4 : zUsh (nI C) (nI 8) = nI (C / 256) := zq_ush (by omega) (by decide)
  simp only [e4, nI_add]
  generalize hD : C + C / 256 = D
  have hDn : D ≤ 8 * n := by omega
  have e5 : zUsh (nI D) (nI 16) = nI (D / 65536) := zq_ush (by omega) (by decide)
  simp only [e5, fa_and, nI_add]
theorem e_bitCount {F n : Nat} {μ : zMem} (h : n < 65536) : fJ6_bitCount_0f7a4 F (nI n) μ = some (nI (zPop n), μ) := by rw [e_bitCountN (by omega), zBc_pop h]
/-! what a function comes to -/
def zTo (x : Option zR) (Q : Int32 → zMem → Prop) : Prop := ∃ r μ1, x = some (r, μ1) ∧ Q r μ1
theorem zTo_ret {Q : Int32 → zMem → Prop} {r : Int32} {m : zMem} (h : Q r m) : zTo (some (r, m)) Q := ⟨r, m, rfl, h⟩
theorem zTo_let {Q : Int32 → zMem → Prop} {m0 : zMem} {K : zMem → Option zR} (h : ∀ m, m = m0 → zTo (K m) Q) : zTo (zLt m0 K) Q := h m0 rfl
theorem zTo_bd {Q R : Int32 → zMem → Prop} {x : Option zR} {K : Int32 → zMem → Option zR} (h : zTo x R) (k : ∀ r m, R r m → zTo (K r m) Q) : zTo (zBd x K) Q := by
  obtain ⟨r, m, rfl, h2⟩ := h
  exact k r m h2
theorem zTo_be {Q : Int32 → zMem → Prop} {x : Option zR} {K : Int32 → zMem → Option zR} {r : Int32} {m : zMem} (h : x = some (r, m)) (k : zTo (K r m) Q) : zTo (zBd x K) Q := by rw [h]; exact k
theorem zTo_G {Q : Int32 → zMem → Prop} {x : Int32} {n k : Nat} {B : Option zR} (e : x = nI k) (h : k < n) (hn : n < 2 ^ 31) (hb : zTo B Q) : zTo (zG x n B) Q := by rw [zG_in e h hn]; exact hb
theorem zTo_Gb {Q : Int32 → zMem → Prop} {b : Bool} {B : Option zR} (e : b = true) (hb : zTo B Q) : zTo (zGb b B) Q := by rw [zGb_t e]; exact hb
theorem zTo_Gz {Q : Int32 → zMem → Prop} {y : Int32} {B : Option zR} (e : ¬ y = 0) (hb : zTo B Q) : zTo (zGz y B) Q := by rw [zGz_in e]; exact hb
theorem zTo.mono {Q R : Int32 → zMem → Prop} {x : Option zR} (h : zTo x R) (k : ∀ r m, R r m → Q r m) : zTo x Q := by
  obtain ⟨r, m, e, h2⟩ := h
  exact ⟨r, m, e, k r m h2⟩
