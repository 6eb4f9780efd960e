/-! ===== person, keep, undo ===== -/
def uN (f : Nat → Nat) (p v : Nat) : Nat → Nat := fun q => if q = p then v else f q
theorem uN_s (f : Nat → Nat) (p v : Nat) : uN f p v p = v := if_pos rfl
theorem uN_o {f : Nat → Nat} {p q v : Nat} (h : q ≠ p) : uN f p v q = f q := if_neg h
theorem tb_or2 (t p i : Nat) : (t ||| 2 ^ p).testBit i = (t.testBit i || decide (p = i)) := by rw [Nat.testBit_or, Nat.testBit_two_pow]
theorem or2_lt {t p : Nat} (ht : t < 65536) (hp : p < 16) : t ||| 2 ^ p < 65536 := Nat.or_lt_two_pow (n := 16) ht (Nat.pow_lt_pow_right (by decide) hp)
theorem tb_an2 {t p i : Nat} (ht : t < 65536) : (nAn t (2 ^ p)).testBit i = (t.testBit i && !decide (p = i)) := by rw [nAn_bit ht, Nat.testBit_two_pow]
/-- the readers, with one more or less -/
def zRd (r p : Nat) (v : Int32) : Nat := if v = 0 then nAn r (2 ^ p) else r ||| 2 ^ p
theorem zRd_lt {r p : Nat} {v : Int32} (hr : r < 65536) (hp : p < 16) : zRd r p v < 65536 := by
  unfold zRd
  split
  · exact nAn_lt hr
  · exact or2_lt hr hp
theorem zRd_bit {r p i : Nat} {v : Int32} (hr : r < 65536) : (zRd r p v).testBit i = if p = i then !decide (v = 0) else r.testBit i := by
  unfold zRd
  by_cases hv : v = 0
  · rw [if_pos hv, tb_an2 hr]
    by_cases hp : p = i <;> simp [hp, hv]
  · rw [if_neg hv, tb_or2]
    by_cases hp : p = i <;> simp [hp, hv]
theorem e_reads {F h p r : Nat} {v : Int32} {μ : zMem} (hp : p < 16) (hr : r < 65536) (e : μ h 5 = nI r) : fX8_reads F h (nI p) v μ = some (nI 0, zUp μ h 5 (nI (zRd r p v))) := by
  unfold fX8_reads zRd
  rw [e, zq_1shl (by omega), zq_andn hr, fa_or]
  by_cases hv : v = 0
  · rw [if_pos hv, if_pos hv]; rfl
  · rw [if_neg hv, if_neg hv]; rfl
def sPerson (s : zPS) (p k : Nat) (v : Int32) : zPS := (pT s ||| 2 ^ p, zRd (pR s) p v, uN (pK s) p k, uN (pB s) p 0, pP s, pW s, pw s, px s)
theorem sPerson_wf {s : zPS} {p k : Nat} {v : Int32} (h : zWFS s) (hp : p < 16) (hk : k < 65536) : zWFS (sPerson s p k v) := by
  obtain ⟨w1, w2, w3, w4, w5, w6, w7, w8, w9, w10⟩ := h
  refine ⟨or2_lt w1 hp, zRd_lt w2 hp, ?_, ?_, ?_, ?_, w7, w8, w9, w10⟩
  · intro i hi
    show (pT s ||| 2 ^ p).testBit i = true
    have hi : (zRd (pR s) p v).testBit i = true := hi
    rw [zRd_bit w2] at hi
    rw [tb_or2]
    by_cases hpi : p = i
    · simp [hpi]
    · rw [if_neg hpi] at hi
      simp [w3 i hi]
  · intro q hq
    show uN (pK s) p k q < 65536
    by_cases hqp : q = p
    · rw [hqp, uN_s]; exact hk
    · rw [uN_o hqp]; exact w4 q hq
  · intro q hq
    show uN (pB s) p 0 q ≤ 9999
    by_cases hqp : q = p
    · rw [hqp, uN_s]; omega
    · rw [uN_o hqp]; exact w5 q hq
  · intro q hq hz
    have hz : (pT s ||| 2 ^ p).testBit q = false := hz
    show uN (pB s) p 0 q = 0
    rw [tb_or2] at hz
    have hqp : q ≠ p := fun e => by subst e; simp at hz
    rw [uN_o hqp]
    exact w6 q hq (by
      cases hb : (pT s).testBit q
      · rfl
      · rw [hb] at hz; simp at hz)
theorem e_tells {F p k : Nat} {v : Int32} {s : zPS} {μ : zMem} (hr : zRepS 3 s μ) (hw : zWFS s) (hp : p < 16) : zTo (fX8_tells F 3 (nI p) (nI k) v μ) (fun _ m => zRepS 3 (sPerson s p k v) m ∧ ∀ c, (c < 3 ∨ 7 < c) → m c = μ c) := by
  obtain ⟨r1, r2, r3, r4, r5, r6, r7, r8⟩ := hr
  unfold fX8_tells
  refine zTo_let fun m2 e2 => zTo_G rfl hp (by decide) (zTo_let fun m4 e4 => zTo_G rfl hp (by decide) (zTo_let fun m6 e6 => ?_))
  rw [r1, zq_1shl (by omega), fa_or] at e2
  rw [nI_clamp (by omega)] at e4 e6
  have q5 : m6 3 5 = nI (pR s) := by rw [e6, zUp_ne (by decide), e4, zUp_ne (by decide), e2, zUp_o (by decide)]; exact r2
  refine zTo_be (e_reads hp hw.2.1 q5) (zTo_ret ⟨⟨?_, ?_, ?_, ?_, ?_, ?_, ?_, ?_⟩, ?_⟩)
  · rw [zUp_o (by decide), e6, zUp_ne (by decide), e4, zUp_ne (by decide), e2, zUp_s]; rfl
  · rw [zUp_s]; rfl
  · rw [zUp_o (by decide), e6, zUp_ne (by decide), e4, zUp_ne (by decide), e2, zUp_o (by decide)]; exact r3
  · rw [zUp_o (by decide), e6, zUp_ne (by decide), e4, zUp_ne (by decide), e2, zUp_o (by decide)]; exact r4
  · intro q hq
    show _ = nI (uN (pK s) p k q)
    rw [zUp_ne (by decide), e6, zUp_ne (by decide), e4]
    by_cases hqp : q = p
    · rw [hqp, zUp_s, uN_s]
    · rw [zUp_o hqp, uN_o hqp, e2, zUp_ne (by decide)]; exact r5 q hq
  · intro q hq
    show _ = nI (uN (pB s) p 0 q)
    rw [zUp_ne (by decide), e6]
    by_cases hqp : q = p
    · rw [hqp, zUp_s, uN_s]
    · rw [zUp_o hqp, uN_o hqp, e4, zUp_ne (by decide), e2, zUp_ne (by decide)]; exact r6 q hq
  · intro q hq
    rw [zUp_ne (by decide), e6, zUp_ne (by decide), e4, zUp_ne (by decide), e2, zUp_ne (by decide)]; exact r7 q hq
  · intro q j hq hj
    rw [zUp_ne (by decide), e6, zUp_ne (by decide), e4, zUp_ne (by decide), e2, zUp_ne (by decide)]; exact r8 q j hq hj
  · intro c hc
    rw [zUp_ne (by omega), e6, zUp_ne (by omega), e4, zUp_ne (by omega), e2, zUp_ne (by omega)]
theorem e_mPerson_58 {F p : Nat} {b : Int32} {μ : zMem} (hp : p < 16) : fX12_person_58 F (nI p) b (nI (32 + p)) μ = some (nI 1, zUp (zUp μ 61 (32 + p) b) 61 (48 + p) (nI 0)) := by
  unfold fX12_person_58
  rw [zG_in rfl (by omega) (by decide), nI_clamp (by omega), nI_add]
  show zG _ _ _ = _
  rw [zG_in rfl (by omega) (by decide), nI_clamp (by omega)]
  rfl
theorem pr_person {F : Nat} (x y v : Int32) : zPair (fX11_person F x y v) (fX12_person F x y v) := by
  refine zPair.mk fun A μ hW hC => ?_
  cases hz : zIn x 0 15
  · refine ⟨nI 0, A, μ, ?_, hW, hC, fun _ _ => rfl, fun μ' hM => ⟨μ', ?_, hM, fun _ _ => rfl⟩⟩
    · unfold fX11_person
      rw [e_isPerson, zBd_s, hz, z_bf]
    · unfold fX12_person
      rw [e_in, zBd_s, hz, z_bf]
  · cases hz2 : zIn y 0 65535
    · refine ⟨nI 0, A, μ, ?_, hW, hC, fun _ _ => rfl, fun μ' hM => ⟨μ', ?_, hM, fun _ _ => rfl⟩⟩
      · unfold fX11_person
        rw [e_isPerson, zBd_s, hz, z_bt, e_isWithin, zBd_s, hz2, z_bf]
      · unfold fX12_person
        rw [e_in, zBd_s, hz, z_bt, e_in, zBd_s, hz2, z_bf]
    · obtain ⟨p, -, hp, rfl⟩ := zIn_t (by decide) (by decide) hz
      obtain ⟨k, -, hk, rfl⟩ := zIn_t (by decide) (by decide) hz2
      obtain ⟨r, m, t1, t2, t3⟩ := e_tells (F := F) (v := v) (k := k) hC.2.1 hW.2.1 (show p < 16 by omega)
      refine ⟨nI 1, aSN A (sPerson (aN A) p k v), m, ?_, hW.now (sPerson_wf hW.2.1 (by omega) (by omega)), hC.now t2 (fun c _ h => t3 c h), fun c hc => t3 c (by omega), fun μ' hM => ?_⟩
      · unfold fX11_person
        rw [e_isPerson, zBd_s, hz, z_bt, e_isWithin, zBd_s, hz2, z_bt, t1, zBd_s]
      · obtain ⟨r1, r2, r3, r4, r5, r6, r7, r8, r9⟩ := hM.2.1
        have hw7 := hW.2.1.2.2.2.2.2.2.1
        refine ⟨zUp (zUp (zUp (zUp μ' 61 p (nI 1)) 61 (16 + p) (nI k)) 61 (32 + p) (nI (!decide (v = 0)).toNat)) 61 (48 + p) (nI 0), ?_, hM.now ⟨?_, ?_, ?_, ?_, ?_, ?_, ?_, ?_, ?_⟩ (fun c _ hc => by rw [zUp_ne hc, zUp_ne hc, zUp_ne hc, zUp_ne hc]), fun c hc => by rw [zUp_ne (by omega), zUp_ne (by omega), zUp_ne (by omega), zUp_ne (by omega)]⟩
        · unfold fX12_person
          rw [e_in, zBd_s, hz, z_bt, e_in, zBd_s, hz2, z_bt]
          simp only [nI_add, Nat.zero_add]
          rw [zG_in rfl (by omega) (by decide), nI_clamp (by omega)]
          show zG _ _ _ = _
          rw [zG_in rfl (by omega) (by decide), nI_clamp (by omega)]
          show (if v = 0 then fX12_person_58 F (nI p) (nI 0) (nI (32 + p)) (zUp (zUp μ' 61 p (nI 1)) 61 (16 + p) (nI k)) else fX12_person_58 F (nI p) (nI 1) (nI (32 + p)) (zUp (zUp μ' 61 p (nI 1)) 61 (16 + p) (nI k))) = _
          rw [e_mPerson_58 (by omega), e_mPerson_58 (by omega)]
          by_cases hv : v = 0
          · rw [if_pos hv, decide_eq_true hv]; rfl
          · rw [if_neg hv, decide_eq_false hv]; rfl
        · intro q hq
          show _ = nI ((pT (aN A) ||| 2 ^ p).testBit q).toNat
          rw [zUp_o (by omega), zUp_o (by omega), zUp_o (by omega), tb_or2]
          by_cases hqp : q = p
          · rw [hqp, zUp_s]; simp
          · rw [zUp_o hqp, decide_eq_false (Ne.symm hqp), Bool.or_false]; exact r1 q hq
        · intro q hq
          show _ = nI (uN (pK (aN A)) p k q)
          rw [zUp_o (by omega), zUp_o (by omega)]
          by_cases hqp : q = p
          · rw [hqp, zUp_s, uN_s]
          · rw [zUp_o (by omega), uN_o hqp, zUp_o (by omega)]; exact r2 q hq
        · intro q hq
          show _ = nI ((zRd (pR (aN A)) p v).testBit q).toNat
          rw [zUp_o (by omega), zRd_bit hW.2.1.2.1]
          by_cases hqp : q = p
          · rw [hqp, zUp_s, if_pos rfl]
          · rw [zUp_o (by omega), if_neg (Ne.symm hqp), zUp_o (by omega), zUp_o (by omega)]; exact r3 q hq
        · intro q hq
          show _ = nI (uN (pB (aN A)) p 0 q)
          by_cases hqp : q = p
          · rw [hqp, zUp_s, uN_s]
          · rw [zUp_o (by omega), uN_o hqp, zUp_o (by omega), zUp_o (by omega), zUp_o (by omega)]; exact r4 q hq
        · intro q hq
          rw [zUp_o (by omega), zUp_o (by omega), zUp_o (by omega), zUp_o (by omega)]; exact r5 q hq
        · intro q j hq hj
          have hj2 : j < 16 := Nat.lt_of_lt_of_le hj (hw7 q hq)
          simp only [zUp_o (show 84 + 48 * q + 3 * j ≠ 48 + p by omega), zUp_o (show 84 + 48 * q + 3 * j ≠ 32 + p by omega), zUp_o (show 84 + 48 * q + 3 * j ≠ 16 + p by omega), zUp_o (show 84 + 48 * q + 3 * j ≠ p by omega), zUp_o (show 84 + 48 * q + 3 * j + 1 ≠ 48 + p by omega), zUp_o (show 84 + 48 * q + 3 * j + 1 ≠ 32 + p by omega), zUp_o (show 84 + 48 * q + 3 * j + 1 ≠ 16 + p by omega), zUp_o (show 84 + 48 * q + 3 * j + 1 ≠ p by omega), zUp_o (show 84 + 48 * q + 3 * j + 2 ≠ 48 + p by omega), zUp_o (show 84 + 48 * q + 3 * j + 2 ≠ 32 + p by omega), zUp_o (show 84 + 48 * q + 3 * j + 2 ≠ 16 + p by omega), zUp_o (show 84 + 48 * q + 3 * j + 2 ≠ p by omega)]
          exact r6 q j hq hj
        · rw [zUp_o (by omega), zUp_o (by omega), zUp_o (by omega), zUp_o (by omega)]; exact r7
        · rw [zUp_o (by omega), zUp_o (by omega), zUp_o (by omega), zUp_o (by omega)]; exact r8
        · rw [zUp_o (by omega), zUp_o (by omega), zUp_o (by omega), zUp_o (by omega)]; exact r9
/-- one State becomes another -/
theorem e_becomes {F h0 h1 : Nat} {s : zPS} {μ : zMem} (hd : h0 + 5 ≤ h1 ∨ h1 + 5 ≤ h0) (hw : zWFS s) (hr : zRepS h1 s μ) : zTo (fX8_becomes F h0 h1 μ) (fun _ m => zRepS h0 s m ∧ ∀ c, (c < h0 ∨ h0 + 4 < c) → m c = μ c) := by
  obtain ⟨r1, r2, r3, r4, r5, r6, r7, r8⟩ := hr
  unfold fX8_becomes
  refine zTo_Gb (by decide +kernel) (zTo_let fun m3 e3 => zTo_Gb (by decide +kernel) (zTo_let fun m6 e6 => zTo_Gb (by decide +kernel) (zTo_let fun m9 e9 => zTo_Gb (by decide +kernel) (zTo_let fun m12 e12 => zTo_let fun m14 e14 => zTo_let fun m16 e16 => zTo_let fun m18 e18 => zTo_let fun m20 e20 => zTo_ret ?_))))
  have c0 : (nI 0).toNatClampNeg = 0 := rfl
  have c16 : (nI 16).toNatClampNeg = 16 := by decide +kernel
  have c20 : (nI 20).toNatClampNeg = 20 := by decide +kernel
  have c320 : (nI 320).toNatClampNeg = 320 := by decide +kernel
  rw [c0, c16] at e3 e6
  rw [c0, c20] at e9
  rw [c0, c320] at e12
  have hc : ∀ (f g : Nat → Int32) (n j : Nat), j < n → va_cpy f g 0 0 n j = f j := fun f g n j hj => by rw [pk_cpy_in (by omega) (by omega)]; congr 1; omega
  refine ⟨⟨?_, ?_, ?_, ?_, ?_, ?_, ?_, ?_⟩, ?_⟩
  · rw [e20, zUp_o (by decide), e18, zUp_o (by decide), e16, zUp_o (by decide), e14, zUp_s, e12, zRow_ne (by omega), e9, zRow_ne (by omega), e6, zRow_ne (by omega), e3, zRow_ne (by omega)]; exact r1
  · rw [e20, zUp_o (by decide), e18, zUp_o (by decide), e16, zUp_s, e14, zUp_ne (by omega), e12, zRow_ne (by omega), e9, zRow_ne (by omega), e6, zRow_ne (by omega), e3, zRow_ne (by omega)]; exact r2
  · rw [e20, zUp_o (by decide), e18, zUp_s, e16, zUp_ne (by omega), e14, zUp_ne (by omega), e12, zRow_ne (by omega), e9, zRow_ne (by omega), e6, zRow_ne (by omega), e3, zRow_ne (by omega)]; exact r3
  · rw [e20, zUp_s, e18, zUp_ne (by omega), e16, zUp_ne (by omega), e14, zUp_ne (by omega), e12, zRow_ne (by omega), e9, zRow_ne (by omega), e6, zRow_ne (by omega), e3, zRow_ne (by omega)]; exact r4
  · intro p hp
    rw [e20, zUp_ne (by omega), e18, zUp_ne (by omega), e16, zUp_ne (by omega), e14, zUp_ne (by omega), e12, zRow_ne (by omega), e9, zRow_ne (by omega), e6, zRow_ne (by omega), e3, zRow_at, hc _ _ _ _ hp]; exact r5 p hp
  · intro p hp
    rw [e20, zUp_ne (by omega), e18, zUp_ne (by omega), e16, zUp_ne (by omega), e14, zUp_ne (by omega), e12, zRow_ne (by omega), e9, zRow_ne (by omega), e6, zRow_at, hc _ _ _ _ hp, e3, zRow_ne (by omega)]; exact r6 p hp
  · intro p hp
    rw [e20, zUp_ne (by omega), e18, zUp_ne (by omega), e16, zUp_ne (by omega), e14, zUp_ne (by omega), e12, zRow_ne (by omega), e9, zRow_at, hc _ _ _ _ hp, e6, zRow_ne (by omega), e3, zRow_ne (by omega)]; exact r7 p hp
  · intro q j hq hj
    have := hw.2.2.2.2.2.2.1 q hq
    rw [e20, zUp_ne (by omega), e18, zUp_ne (by omega), e16, zUp_ne (by omega), e14, zUp_ne (by omega), e12, zRow_at, hc _ _ _ _ (by omega), e9, zRow_ne (by omega), e6, zRow_ne (by omega), e3, zRow_ne (by omega)]; exact r8 q j hq hj
  · intro c hc2
    rw [e20, zUp_ne (by omega), e18, zUp_ne (by omega), e16, zUp_ne (by omega), e14, zUp_ne (by omega), e12, zRow_ne (by omega), e9, zRow_ne (by omega), e6, zRow_ne (by omega), e3, zRow_ne (by omega)]
theorem e_copies_2 {F h0 h1 : Nat} (hd : h0 ≠ h1) : ∀ m k n μ, k + m = 1047 → m < n → zTo (fX12_copies_2 F h0 h1 n (nI k) μ) (fun _ μ1 => (∀ j, μ1 h1 j = if k ≤ j ∧ j < 1047 then μ h0 j else μ h1 j) ∧ ∀ c, c ≠ h1 → μ1 c = μ c) := by
  intro m
  induction m with
  | zero =>
    intro k n μ hk hn
    obtain ⟨n, rfl⟩ := z_s hn
    rw [fX12_copies_2, z_done (by omega) (by omega)]
    exact zTo_ret ⟨fun j => by rw [if_neg (by omega)], fun _ _ => rfl⟩
  | succ m ih =>
    intro k n μ hk hn
    obtain ⟨n, rfl⟩ := z_s hn
    rw [fX12_copies_2, z_more (by omega) (by decide), zG_in rfl (by omega) (by decide), zG_in rfl (by omega) (by decide), nI_clamp (by omega), nI_add]
    refine zTo_let fun m1 e1 => (ih (k + 1) n m1 (by omega) (by omega)).mono fun r μ1 ⟨q1, q2⟩ => ⟨fun j => ?_, fun c hc => by rw [q2 c hc, e1, zUp_ne hc]⟩
    rw [q1 j, e1, zUp_ne hd]
    by_cases hj : k + 1 ≤ j ∧ j < 1047
    · rw [if_pos hj, if_pos (by omega)]
    · rw [if_neg hj]
      by_cases hjk : j = k
      · rw [hjk, zUp_s, if_pos (by omega)]
      · rw [zUp_o hjk, if_neg (by omega)]
theorem e_copies {F h0 h1 : Nat} {s : zPS} {μ : zMem} (hF : 1048 ≤ F) (hd : h0 ≠ h1) (hw : zWFS s) (hr : zRepN h0 s μ) : zTo (fX12_copies F h0 h1 μ) (fun _ m => zRepN h1 s m ∧ ∀ c, c ≠ h1 → m c = μ c) := by
  refine (e_copies_2 hd 1047 0 F μ rfl (by omega)).mono fun r m ⟨q1, q2⟩ => ⟨?_, q2⟩
  obtain ⟨r1, r2, r3, r4, r5, r6, r7, r8, r9⟩ := hr
  have e : ∀ j, j < 1047 → m h1 j = μ h0 j := fun j hj => by rw [q1 j, if_pos (by omega)]
  refine ⟨?_, ?_, ?_, ?_, ?_, ?_, ?_, ?_, ?_⟩
  · intro p hp; rw [e _ (by omega)]; exact r1 p hp
  · intro p hp; rw [e _ (by omega)]; exact r2 p hp
  · intro p hp; rw [e _ (by omega)]; exact r3 p hp
  · intro p hp; rw [e _ (by omega)]; exact r4 p hp
  · intro p hp; rw [e _ (by omega)]; exact r5 p hp
  · intro q j hq hj
    have := hw.2.2.2.2.2.2.1 q hq
    rw [e _ (by omega), e _ (by omega), e _ (by omega)]; exact r6 q j hq hj
  · rw [e _ (by omega)]; exact r7
  · rw [e _ (by omega)]; exact r8
  · rw [e _ (by omega)]; exact r9
def aSK (A : zAS) (k : Option zPS) : zAS := (A.1, A.2.1, A.2.2.1, k, A.2.2.2.2.1, A.2.2.2.2.2)
theorem pr_keep {F : Nat} (hF : 1048 ≤ F) : zPair (fX11_keep F) (fX12_keep F) := by
  refine zPair.mk fun A μ hW hC => ?_
  obtain ⟨r, m, t1, t2, t3⟩ := e_becomes (F := F) (h0 := 8) (h1 := 3) (by omega) hW.2.1 hC.2.1
  refine ⟨nI (pw (aN A)), aSK A (some (aN A)), zUp m 0 4 (nI 1), ?_, ⟨hW.1, hW.2.1, fun s hs => by cases hs; exact hW.2.1, hW.2.2.2⟩, ?_, fun c hc => by rw [zUp_ne (by omega), t3 c (by omega)], fun μ' hM => ?_⟩
  · unfold fX11_keep
    rw [t1, zBd_s]
    show some (zUp m 0 4 (nI 1) 3 6, zUp m 0 4 (nI 1)) = _
    rw [zUp_ne (by decide), t3 3 (by omega), hC.2.1.2.2.1]
  · have e : ∀ c, 0 < c → (c < 8 ∨ 12 < c) → zUp m 0 4 (nI 1) c = μ c := fun c h1 h2 => by rw [zUp_ne (by omega), t3 c (by omega)]
    refine ⟨hC.1.of (by rw [e 1 (by omega) (by omega)]) (e 2 (by omega) (by omega)), hC.2.1.of (fun k h1 h2 => e k (by omega) (by omega)), ⟨by rw [zUp_s], t2.of (fun k h1 h2 => zUp_ne (by omega))⟩, hC.2.2.2.1.of (fun k h1 h2 => e k (by omega) (by omega)), hC.2.2.2.2.of (by rw [zUp_o (by decide), t3 0 (by omega)]) (by rw [zUp_o (by decide), t3 0 (by omega)]) (fun k h1 h2 => e k (by omega) (by omega))⟩
  · have hN : zRepN 61 (aN A) (zUp μ' 60 45 (nI 1)) := hM.2.1.of (zUp_ne (by decide))
    obtain ⟨r2, m2, u1, u2, u3⟩ := e_copies (F := F) (h0 := 61) (h1 := 63) hF (by decide) hW.2.1 hN
    have e : ∀ c, c ≠ 60 → c ≠ 63 → m2 c = μ' c := fun c h1 h2 => by rw [u3 c h2, zUp_ne h1]
    refine ⟨m2, ?_, ⟨hM.1.of (by rw [u3 60 (by decide), zUp_o (by decide)]) (e 68 (by decide) (by decide)), hM.2.1.of (e 61 (by decide) (by decide)), ⟨by rw [u3 60 (by decide), zUp_s], u2⟩, hM.2.2.2.1.of (by rw [u3 60 (by decide), zUp_o (by decide)]) (fun k h1 h2 => e k (by omega) (by omega)), hM.2.2.2.2.of (by rw [u3 60 (by decide), zUp_o (by decide)]) (e 64 (by decide) (by decide)) (e 65 (by decide) (by decide))⟩, fun c hc => e c (by omega) (by omega)⟩
    dsimp only [fX12_keep, zLt]
    rw [u1, zBd_s, zG_in rfl (by decide) (by decide), nI_clamp (by decide), e 61 (by decide) (by decide), hM.2.1.2.2.2.2.2.2.2.1]
theorem pr_undo {F : Nat} (hF : 1048 ≤ F) : zPair (fX11_undo F) (fX12_undo F) := by
  refine zPair.mk fun A μ hW hC => ?_
  cases hk : aK A with
  | none =>
    have h1 : μ 0 4 = nI 0 := by have := hC.2.2.1; rw [hk] at this; exact this
    refine ⟨nI 0, A, μ, ?_, hW, hC, fun _ _ => rfl, fun μ' hM => ⟨μ', ?_, hM, fun _ _ => rfl⟩⟩
    · unfold fX11_undo
      rw [h1, if_pos (by decide)]
    · have h2 : μ' 60 45 = nI 0 := by have := hM.2.2.1; rw [hk] at this; exact this
      unfold fX12_undo
      rw [h2, if_pos (by decide)]
  | some s =>
    have h1 : μ 0 4 = nI 1 ∧ zRepS 8 s μ := by have := hC.2.2.1; rw [hk] at this; exact this
    have hs := hW.2.2.1 s hk
    obtain ⟨r, m, t1, t2, t3⟩ := e_becomes (F := F) (h0 := 3) (h1 := 8) (by omega) hs h1.2
    refine ⟨nI 1, aSN A s, m, ?_, hW.now hs, hC.now t2 (fun c _ h => t3 c (by omega)), fun c hc => t3 c (by omega), fun μ' hM => ?_⟩
    · unfold fX11_undo
      rw [h1.1, if_neg (by decide), t1, zBd_s]
    · have h2 : μ' 60 45 = nI 1 ∧ zRepN 63 s μ' := by have := hM.2.2.1; rw [hk] at this; exact this
      obtain ⟨r2, m2, u1, u2, u3⟩ := e_copies (F := F) (h0 := 63) (h1 := 61) hF (by decide) hs h2.2
      refine ⟨m2, ?_, hM.now u2 (fun c _ h => u3 c h), fun c hc => u3 c (by omega)⟩
      unfold fX12_undo
      rw [h2.1, if_neg (by decide), u1, zBd_s]
