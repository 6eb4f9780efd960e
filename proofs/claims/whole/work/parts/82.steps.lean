/-! ===== a week: small steps ===== -/
def yFv (s : zPS) (p q a b c d : Nat) : Nat → Int32 := fun j => nI (if j = 0 then p else if j = 1 then a else if j = 2 then zPop (pK s p) else if j = 3 then b else if j = 4 then c else if j = 5 then pB s p else if j = 6 then d else if j = 7 then pw s % 100 else pP s q)
def yF0 (s : zPS) (p q : Nat) : Nat → Int32 := yFv s p q 0 0 0 0
def yF1 (s : zPS) (p q k : Nat) : Nat → Int32 := yFv s p q k (zPop (pK s k)) (zPop (nAn (pK s p) (pK s k))) ((pR s).testBit k).toNat
theorem j9 {j : Nat} (h : j < 9) : j = 0 ∨ j = 1 ∨ j = 2 ∨ j = 3 ∨ j = 4 ∨ j = 5 ∨ j = 6 ∨ j = 7 ∨ j = 8 := by omega
theorem cl9 {n : Nat} (h : n < 2000) : (nI n).toNatClampNeg = n := nI_clamp (by omega)
theorem e_looksAt {F h p q : Nat} {s : zPS} {μ : zMem} (hh : h = 3 ∨ h = 13) (hr : zRepS h s μ) (hw : zWFS s) (hp : p < 16) : zTo (fX10_looksAt F h (nI p) (nI (pP s q)) μ) (fun _ m => (∀ j, j < 9 → m 34 j = yF0 s p q j) ∧ ∀ c, c ≠ 34 → m c = μ c) := by
  have hK := hw.2.2.2.1 p hp
  have hwk := hw.2.2.2.2.2.2.2.2.1
  unfold fX10_looksAt
  refine zTo_G rfl (by decide) (by decide) (zTo_let fun m1 e1 => ?_)
  refine zTo_G rfl hp (by decide) ?_
  rw [show m1 (h + 1) (nI p).toNatClampNeg = nI (pK s p) by rw [e1, zUp_ne (by omega), cl9 (by omega)]; exact hr.2.2.2.2.1 p hp, e_bitCount hK, zBd_s]
  refine zTo_G rfl (by decide) (by decide) (zTo_let fun m2 e2 => ?_)
  refine zTo_G rfl hp (by decide) (zTo_G rfl (by decide) (by decide) (zTo_let fun m3 e3 => ?_))
  refine zTo_Gz (by decide) (zTo_G rfl (by decide) (by decide) (zTo_let fun m4 e4 => ?_))
  refine zTo_G rfl (by decide) (by decide) (zTo_let fun m5 e5 => ?_)
  refine zTo_G rfl (by decide) (by decide) (zTo_let fun m6 e6 => ?_)
  refine zTo_G rfl (by decide) (by decide) (zTo_let fun m7 e7 => ?_)
  refine zTo_G rfl (by decide) (by decide) (zTo_let fun m8 e8 => ?_)
  refine zTo_G rfl (by decide) (by decide) (zTo_let fun m9 e9 => zTo_ret ?_)
  have v3 : m2 (h + 2) (nI p).toNatClampNeg = nI (pB s p) := by rw [e2, zUp_ne (by omega), e1, zUp_ne (by omega), cl9 (by omega)]; exact hr.2.2.2.2.2.1 p hp
  have v4 : m3 h 6 % nI 100 = nI (pw s % 100) := by rw [e3, zUp_ne (by omega), e2, zUp_ne (by omega), e1, zUp_ne (by omega), hr.2.2.1, nI_mod (by omega) (by decide) (by decide)]
  rw [v3] at e3
  rw [v4] at e4
  rw [cl9 (by decide)] at e1 e2 e3 e4 e5 e6 e7 e8 e9
  subst e1 e2 e3 e4 e5 e6 e7 e8 e9
  refine ⟨fun j hj => ?_, fun c hc => ?_⟩
  · simp only [zUp_e]
    rcases j9 hj with rfl | rfl | rfl | rfl | rfl | rfl | rfl | rfl | rfl <;> simp [yF0, yFv]
  · rw [zUp_ne hc, zUp_ne hc, zUp_ne hc, zUp_ne hc, zUp_ne hc, zUp_ne hc, zUp_ne hc, zUp_ne hc, zUp_ne hc]
def yBs (s : zPS) (p q : Nat) (μ : zMem) : Prop := ∀ j, (j = 0 ∨ j = 2 ∨ j = 5 ∨ j = 7 ∨ j = 8) → μ 34 j = yF0 s p q j
theorem yBs.of0 {s : zPS} {p q : Nat} {μ : zMem} (h : ∀ j, j < 9 → μ 34 j = yF0 s p q j) : yBs s p q μ := fun j hj => h j (by omega)
theorem yBs.of1 {s : zPS} {p q k : Nat} {μ : zMem} (h : ∀ j, j < 9 → μ 34 j = yF1 s p q k j) : yBs s p q μ := fun j hj => by
  rw [h j (by omega)]
  rcases hj with rfl | rfl | rfl | rfl | rfl <;> rfl
theorem e_looksAtOther {F h p q k : Nat} {s : zPS} {μ : zMem} (hh : h = 3 ∨ h = 13) (hr : zRepS h s μ) (hw : zWFS s) (hp : p < 16) (hk : k < 16) (hb : yBs s p q μ) : zTo (fX10_looksAtOther F h (nI p) (nI k) μ) (fun _ m => (∀ j, j < 9 → m 34 j = yF1 s p q k j) ∧ ∀ c, c ≠ 34 → m c = μ c) := by
  have hK := hw.2.2.2.1 p hp
  have hKk := hw.2.2.2.1 k hk
  have hR := hw.2.1
  unfold fX10_looksAtOther
  refine zTo_G rfl (by decide) (by decide) (zTo_let fun m1 e1 => ?_)
  refine zTo_G rfl hk (by decide) ?_
  rw [show m1 (h + 1) (nI k).toNatClampNeg = nI (pK s k) by rw [e1, zUp_ne (by omega), cl9 (by omega)]; exact hr.2.2.2.2.1 k hk, e_bitCount hKk, zBd_s]
  refine zTo_G rfl (by decide) (by decide) (zTo_let fun m2 e2 => ?_)
  refine zTo_G rfl hp (by decide) (zTo_G rfl hk (by decide) ?_)
  rw [show m2 (h + 1) (nI k).toNatClampNeg = nI (pK s k) by rw [e2, zUp_ne (by omega), e1, zUp_ne (by omega), cl9 (by omega)]; exact hr.2.2.2.2.1 k hk, show m2 (h + 1) (nI p).toNatClampNeg = nI (pK s p) by rw [e2, zUp_ne (by omega), e1, zUp_ne (by omega), cl9 (by omega)]; exact hr.2.2.2.2.1 p hp, zq_andn hK, e_bitCount (nAn_lt hK), zBd_s]
  refine zTo_G rfl (by decide) (by decide) (zTo_let fun m3 e3 => ?_)
  rw [show m3 h 5 = nI (pR s) by rw [e3, zUp_ne (by omega), e2, zUp_ne (by omega), e1, zUp_ne (by omega)]; exact hr.2.1, e_hasBit (by omega) (by omega), zBd_s]
  rw [cl9 (by decide)] at e1 e2 e3
  have fin : ∀ m4 : zMem, m4 = zUp m3 34 6 (nI ((pR s).testBit k).toNat) → (∀ j, j < 9 → m4 34 j = yF1 s p q k j) ∧ ∀ c, c ≠ 34 → m4 c = μ c := by
    intro m4 e4
    have b0 := hb 0 (by omega)
    have b2 := hb 2 (by omega)
    have b5 := hb 5 (by omega)
    have b7 := hb 7 (by omega)
    have b8 := hb 8 (by omega)
    subst e1 e2 e3 e4
    refine ⟨fun j hj => ?_, fun c hc => ?_⟩
    · simp only [zUp_e]
      rcases j9 hj with rfl | rfl | rfl | rfl | rfl | rfl | rfl | rfl | rfl <;> simp [yF1, yFv, b0, b2, b5, b7, b8, yF0]
    · rw [zUp_ne hc, zUp_ne hc, zUp_ne hc, zUp_ne hc]
  cases hz : (pR s).testBit k
  · rw [hz] at fin
    rw [z_bf]
    exact zTo_G rfl (by decide) (by decide) (zTo_let fun m4 e4 => zTo_ret (fin m4 e4))
  · rw [hz] at fin
    rw [z_bt]
    exact zTo_G rfl (by decide) (by decide) (zTo_let fun m4 e4 => zTo_ret (fin m4 e4))
theorem e_feels153 {F p q a b c d : Nat} {s : zPS} {μ : zMem} (hr : zRepN 61 s μ) (hw : zWFS s) (hq : q = pw s % 20) (h : ∀ j, j < 6 → μ 81 j = yFv s p q a b c d j) : zTo (fX12_feels_153 F (nI d) (nI 6) μ) (fun _ m => (∀ j, j < 9 → m 81 j = yFv s p q a b c d j) ∧ ∀ c, c ≠ 81 → m c = μ c) := by
  have hwk := hw.2.2.2.2.2.2.2.2.1
  unfold fX12_feels_153
  refine zTo_G rfl (by decide) (by decide) (zTo_let fun m1 e1 => ?_)
  refine zTo_G rfl (by decide) (by decide) (zTo_Gz (by decide) (zTo_G rfl (by decide) (by decide) (zTo_let fun m2 e2 => ?_)))
  have v2 : m1 61 (nI 1045).toNatClampNeg % nI 100 = nI (pw s % 100) := by rw [e1, zUp_ne (by decide), cl9 (by decide), hr.2.2.2.2.2.2.2.1, nI_mod (by omega) (by decide) (by decide)]
  have v3 : nI 64 + m2 61 (nI 1044).toNatClampNeg % nI 20 = nI (64 + q) := by rw [e2, zUp_ne (by decide), e1, zUp_ne (by decide), cl9 (by decide), hr.2.2.2.2.2.2.1, nI_mod (by omega) (by decide) (by decide), nI_add, hq]
  refine zTo_G rfl (by decide) (by decide) (zTo_Gz (by decide) ?_)
  rw [v3]
  refine zTo_G rfl (by omega) (by decide) (zTo_G rfl (by decide) (by decide) (zTo_let fun m3 e3 => zTo_ret ?_))
  have v4 : m2 61 (nI (64 + q)).toNatClampNeg = nI (pP s q) := by rw [e2, zUp_ne (by decide), e1, zUp_ne (by decide), cl9 (by omega)]; exact hr.2.2.2.2.1 q (by omega)
  rw [v2] at e2
  rw [v4] at e3
  rw [cl9 (by decide)] at e1 e2 e3
  have b0 := h 0 (by omega)
  have b1 := h 1 (by omega)
  have b2 := h 2 (by omega)
  have b3 := h 3 (by omega)
  have b4 := h 4 (by omega)
  have b5 := h 5 (by omega)
  subst e1 e2 e3
  refine ⟨fun j hj => ?_, fun c hc => ?_⟩
  · simp only [zUp_e]
    rcases j9 hj with rfl | rfl | rfl | rfl | rfl | rfl | rfl | rfl | rfl <;> simp [yFv, b0, b1, b2, b3, b4, b5]
  · rw [zUp_ne hc, zUp_ne hc, zUp_ne hc]
theorem e_feels1 {F p q k : Nat} {s : zPS} {μ : zMem} (hF : 17 ≤ F) (hr : zRepN 61 s μ) (hw : zWFS s) (hq : q = pw s % 20) (hp : p < 16) (hk : k < 16) : zTo (fX12_feels F (nI p) (nI k) μ) (fun _ m => (∀ j, j < 9 → m 81 j = yF1 s p q k j) ∧ ∀ c, c ≠ 81 → m c = μ c) := by
  have hK := hw.2.2.2.1 p hp
  have hKk := hw.2.2.2.1 k hk
  have n10 : ¬ nI 1 = 0 := by decide
  unfold fX12_feels
  rw [if_neg (nI_m1 (by omega))]
  unfold fX12_feels_10
  refine zTo_G rfl (by decide) (by decide) (zTo_let fun m1 e1 => ?_)
  rw [if_neg n10]
  unfold fX12_feels_32
  refine zTo_G rfl (by decide) (by decide) (zTo_let fun m2 e2 => ?_)
  rw [nI_add, nI_add]
  refine zTo_G rfl (by omega) (by decide) ?_
  rw [show m2 61 (nI (16 + p)).toNatClampNeg = nI (pK s p) by rw [e2, zUp_ne (by decide), e1, zUp_ne (by decide), cl9 (by omega)]; exact hr.2.1 p hp, e_bits hF (by omega), zBd_s]
  refine zTo_G rfl (by decide) (by decide) (zTo_let fun m3 e3 => ?_)
  rw [if_neg n10]
  refine zTo_G rfl (by omega) (by decide) ?_
  have vk3 : m3 61 (nI (16 + k)).toNatClampNeg = nI (pK s k) := by rw [e3, zUp_ne (by decide), e2, zUp_ne (by decide), e1, zUp_ne (by decide), cl9 (by omega)]; exact hr.2.1 k hk
  rw [vk3, e_bits hF (by omega), zBd_s]
  unfold fX12_feels_76
  refine zTo_G rfl (by decide) (by decide) (zTo_let fun m4 e4 => ?_)
  rw [if_neg n10, nI_add, nI_add]
  have vk4 : m4 61 (nI (16 + k)).toNatClampNeg = nI (pK s k) := by rw [e4, zUp_ne (by decide)]; exact vk3
  have vp4 : m4 61 (nI (16 + p)).toNatClampNeg = nI (pK s p) := by rw [e4, zUp_ne (by decide), e3, zUp_ne (by decide), e2, zUp_ne (by decide), e1, zUp_ne (by decide), cl9 (by omega)]; exact hr.2.1 p hp
  refine zTo_G rfl (by omega) (by decide) (zTo_G rfl (by omega) (by decide) ?_)
  rw [vk4, vp4, zq_andn hK, e_bits hF (by have := nAn_lt (b := pK s k) hK; omega), zBd_s]
  unfold fX12_feels_114
  refine zTo_G rfl (by decide) (by decide) (zTo_let fun m5 e5 => ?_)
  rw [nI_add, nI_add]
  refine zTo_G rfl (by omega) (by decide) (zTo_G rfl (by decide) (by decide) (zTo_let fun m6 e6 => ?_))
  rw [if_neg n10]
  refine zTo_G rfl (by omega) (by decide) ?_
  have e61 : m6 61 = μ 61 := by rw [e6, zUp_ne (by decide), e5, zUp_ne (by decide), e4, zUp_ne (by decide), e3, zUp_ne (by decide), e2, zUp_ne (by decide), e1, zUp_ne (by decide)]
  have ec : ∀ c, c ≠ 81 → m6 c = μ c := fun c hc => by rw [e6, zUp_ne hc, e5, zUp_ne hc, e4, zUp_ne hc, e3, zUp_ne hc, e2, zUp_ne hc, e1, zUp_ne hc]
  have v5 : m5 61 (nI (48 + p)).toNatClampNeg = nI (pB s p) := by rw [e5, zUp_ne (by decide), e4, zUp_ne (by decide), e3, zUp_ne (by decide), e2, zUp_ne (by decide), e1, zUp_ne (by decide), cl9 (by omega)]; exact hr.2.2.2.1 p hp
  rw [e61, cl9 (by omega), hr.2.2.1 k hk]
  refine (e_feels153 (p := p) (q := q) (a := k) (b := zPop (pK s k)) (c := zPop (nAn (pK s p) (pK s k))) (hr.of e61) hw hq ?_).mono fun r m ⟨q1, q2⟩ => ⟨q1, fun c hc => by rw [q2 c hc, ec c hc]⟩
  rw [v5] at e6
  rw [cl9 (by decide)] at e1 e2 e3 e4 e5 e6
  subst e1 e2 e3 e4 e5 e6
  intro j hj
  simp only [zUp_e]
  rcases j9 (show j < 9 by omega) with rfl | rfl | rfl | rfl | rfl | rfl | rfl | rfl | rfl
  all_goals first | omega | simp [yFv]
theorem e_feels0 {F p q : Nat} {s : zPS} {μ : zMem} (hF : 17 ≤ F) (hr : zRepN 61 s μ) (hw : zWFS s) (hq : q = pw s % 20) (hp : p < 16) : zTo (fX12_feels F (nI p) (-1 : Int32) μ) (fun _ m => (∀ j, j < 9 → m 81 j = yF0 s p q j) ∧ ∀ c, c ≠ 81 → m c = μ c) := by
  have hK := hw.2.2.2.1 p hp
  have n00 : nI 0 = 0 := rfl
  unfold fX12_feels
  rw [if_pos rfl]
  unfold fX12_feels_10
  refine zTo_G rfl (by decide) (by decide) (zTo_let fun m1 e1 => ?_)
  rw [if_pos n00]
  unfold fX12_feels_32
  refine zTo_G rfl (by decide) (by decide) (zTo_let fun m2 e2 => ?_)
  rw [nI_add]
  refine zTo_G rfl (by omega) (by decide) ?_
  rw [show m2 61 (nI (16 + p)).toNatClampNeg = nI (pK s p) by rw [e2, zUp_ne (by decide), e1, zUp_ne (by decide), cl9 (by omega)]; exact hr.2.1 p hp, e_bits hF (by omega), zBd_s]
  refine zTo_G rfl (by decide) (by decide) (zTo_let fun m3 e3 => ?_)
  rw [if_pos n00]
  unfold fX12_feels_76
  refine zTo_G rfl (by decide) (by decide) (zTo_let fun m4 e4 => ?_)
  rw [if_pos n00]
  unfold fX12_feels_114
  refine zTo_G rfl (by decide) (by decide) (zTo_let fun m5 e5 => ?_)
  rw [nI_add]
  refine zTo_G rfl (by omega) (by decide) (zTo_G rfl (by decide) (by decide) (zTo_let fun m6 e6 => ?_))
  rw [if_pos n00]
  have e61 : m6 61 = μ 61 := by rw [e6, zUp_ne (by decide), e5, zUp_ne (by decide), e4, zUp_ne (by decide), e3, zUp_ne (by decide), e2, zUp_ne (by decide), e1, zUp_ne (by decide)]
  have ec : ∀ c, c ≠ 81 → m6 c = μ c := fun c hc => by rw [e6, zUp_ne hc, e5, zUp_ne hc, e4, zUp_ne hc, e3, zUp_ne hc, e2, zUp_ne hc, e1, zUp_ne hc]
  have v5 : m5 61 (nI (48 + p)).toNatClampNeg = nI (pB s p) := by rw [e5, zUp_ne (by decide), e4, zUp_ne (by decide), e3, zUp_ne (by decide), e2, zUp_ne (by decide), e1, zUp_ne (by decide), cl9 (by omega)]; exact hr.2.2.2.1 p hp
  refine (e_feels153 (p := p) (q := q) (a := 0) (b := 0) (c := 0) (d := 0) (hr.of e61) hw hq ?_).mono fun r m ⟨q1, q2⟩ => ⟨q1, fun c hc => by rw [q2 c hc, ec c hc]⟩
  rw [v5] at e6
  rw [cl9 (by decide)] at e1 e2 e3 e4 e5 e6
  subst e1 e2 e3 e4 e5 e6
  intro j hj
  simp only [zUp_e]
  rcases j9 (show j < 9 by omega) with rfl | rfl | rfl | rfl | rfl | rfl | rfl | rfl | rfl
  all_goals first | omega | simp [yFv]
/-! draws -/
def yX (s : zPS) : Nat := (25173 * px s + 13849) % 65536
theorem yX_lt (s : zPS) : yX s < 65536 := Nat.mod_lt _ (by decide)
theorem e_draw {F h : Nat} {s : zPS} {μ : zMem} (hr : zRepS h s μ) : fX8_draw F h μ = some (nI (yX s % 10), zUp μ h 7 (nI (yX s))) := by
  have e : ((nI 25173 * μ h 7) + nI 13849) &&& nI 65535 = nI (yX s) := by
    rw [hr.2.2.2.1, pk_mul, nI_add]
    exact fa_mask _ 16
  have := yX_lt s
  unfold fX8_draw
  rw [e]
  show zGz (nI 10) (some (zUp μ h 7 (nI (yX s)) h 7 % nI 10, zUp μ h 7 (nI (yX s)))) = _
  rw [zUp_s, zGz_in (by decide), nI_mod (by omega) (by decide) (by decide)]
theorem e_draws {F : Nat} {s : zPS} {μ : zMem} (hr : zRepN 61 s μ) (hw : zWFS s) : fX12_draws F μ = some (nI (yX s % 10), zUp μ 61 1046 (nI (yX s))) := by
  have hx := hw.2.2.2.2.2.2.2.2.2
  have := yX_lt s
  have e : ((nI 25173 * μ 61 1046) + nI 13849) % nI 65536 = nI (yX s) := by
    rw [hr.2.2.2.2.2.2.2.2, pk_mul, nI_add, nI_mod (by omega) (by decide) (by decide)]
    rfl
  unfold fX12_draws
  rw [zG_in rfl (by decide) (by decide), zGz_in (by decide), zG_in rfl (by decide) (by decide), cl9 (by decide), e]
  show zG (nI 1046) 1047 (zGz (nI 10) (some (zUp μ 61 1046 (nI (yX s)) 61 1046 % nI 10, zUp μ 61 1046 (nI (yX s))))) = _
  rw [zG_in rfl (by decide) (by decide), zUp_s, zGz_in (by decide), nI_mod (by omega) (by decide) (by decide)]
/-! the next told one -/
def yNt (s : zPS) (p o : Nat) : Nat → Nat → Nat
  | 0, _ => o
  | m + 1, st => if (o + st) % 16 ≠ p ∧ (pT s).testBit ((o + st) % 16) = true then (o + st) % 16 else yNt s p o m (st + 1)
theorem yNt_lt {s : zPS} {p o : Nat} (ho : o < 16) : ∀ m st, yNt s p o m st < 16
  | 0, _ => ho
  | m + 1, st => by
    unfold yNt
    split
    · exact Nat.mod_lt _ (by decide)
    · exact yNt_lt ho m (st + 1)
theorem e_nextTold_2 {F h p o : Nat} {s : zPS} {μ : zMem} (hr : zRepS h s μ) (hw : zWFS s) (hp : p < 16) (ho : o < 16) : ∀ m st f, st + m = 16 → m < f → fX10_nextTold_2 F h f (nI p) (nI o) (nI st) μ = some (nI (yNt s p o m st), μ) := by
  intro m
  induction m with
  | zero =>
    intro st f hs hf
    obtain ⟨f, rfl⟩ := z_s hf
    rw [fX10_nextTold_2, z_done (by omega) (by omega)]
    rfl
  | succ m ih =>
    intro st f hs hf
    obtain ⟨f, rfl⟩ := z_s hf
    have hq : (o + st) % 16 < 16 := Nat.mod_lt _ (by decide)
    rw [fX10_nextTold_2, z_more (by omega) (by decide), zGz_in (by decide), nI_add, nI_mod (by omega) (by decide) (by decide), nI_add, e_isTold hr hw, zBd_s, zTold_n hq, ih (st + 1) f (by omega) (by omega)]
    unfold yNt
    by_cases h1 : (o + st) % 16 = p
    · rw [if_pos (by rw [h1]), if_neg (fun z => z.1 h1)]
      cases m <;> rfl
    · rw [if_neg (fun z => h1 ((nI_eq (by omega) (by omega)).mp z))]
      cases h2 : (pT s).testBit ((o + st) % 16)
      · rw [z_bf, if_neg (fun z => by cases z.2)]
        cases m <;> rfl
      · rw [z_bt, if_pos ⟨h1, rfl⟩]
theorem e_mNextTold_7 {F p o : Nat} {s : zPS} {μ : zMem} (hr : zRepN 61 s μ) (hp : p < 16) (ho : o < 16) (hop : o ≠ p) (hto : (pT s).testBit o = true) : ∀ m st f, st + m = 16 → m < f → fX12_nextTold_7 F f (nI p) (nI ((o + st) % 16)) μ = some (nI (yNt s p o m st), μ) := by
  intro m
  induction m with
  | zero =>
    intro st f hs hf
    obtain ⟨f, rfl⟩ := z_s hf
    have e : (o + st) % 16 = o := by omega
    rw [fX12_nextTold_7, e, e_mTold hr, zBd_s, zTold_n ho, hto, z_bt, if_neg (fun z => hop ((nI_eq (by omega) (by omega)).mp z))]
    rfl
  | succ m ih =>
    intro st f hs hf
    obtain ⟨f, rfl⟩ := z_s hf
    have hq : (o + st) % 16 < 16 := Nat.mod_lt _ (by decide)
    have e : ((o + st) % 16 + 1) % 16 = (o + (st + 1)) % 16 := by omega
    rw [fX12_nextTold_7, e_mTold hr, zBd_s, zTold_n hq, zGz_in (show ¬ nI 16 = 0 by decide), nI_add, nI_mod (by omega) (by decide) (by decide), e, ih (st + 1) f (by omega) (by omega)]
    show _ = some (nI (if (o + st) % 16 ≠ p ∧ (pT s).testBit ((o + st) % 16) = true then (o + st) % 16 else yNt s p o m (st + 1)), μ)
    cases h2 : (pT s).testBit ((o + st) % 16)
    · rw [z_bf, if_neg (fun z => by cases z.2)]
    · rw [z_bt]
      by_cases h1 : (o + st) % 16 = p
      · rw [if_pos (by rw [h1]), if_neg (fun z => z.1 h1)]
      · rw [if_neg (fun z => h1 ((nI_eq (by omega) (by omega)).mp z)), if_pos ⟨h1, rfl⟩]
/-! printing -/
theorem pack_n : ∀ a, a < 16 → ∀ b, b < 16 → ∀ c, c < 16 → (a ||| b * 16) ||| c * 256 = a + 16 * b + 256 * c := by decide +kernel
theorem e_packed {F a b c : Nat} {μ : zMem} (ha : a < 16) (hb : b < 16) (hc : c < 16) : fX11_packedWhisper F (nI a) (nI b) (nI c) μ = some (nI (a + 16 * b + 256 * c), μ) := by
  unfold fX11_packedWhisper
  rw [zq_shl (by decide) (by omega), zq_shl (by decide) (by omega), fa_or, fa_or]
  show some (nI ((a ||| b * 16) ||| c * 256), μ) = _
  rw [pack_n a ha b hb c hc]
theorem e_prints {F h q w : Nat} {s : zPS} {μ : zMem} (hr : zRepS h s μ) (hq : q < 20) (hP : pP s q < 16) : fX8_prints F h (nI q) (nI w) μ = some (nI 0, zUp (zUp μ (h + 4) (16 * q + pP s q) (nI w)) (h + 3) q (nI (pP s q + 1))) := by
  unfold fX8_prints
  rw [zG_in rfl hq (by decide), cl9 (by omega), hr.2.2.2.2.2.2.1 q hq, z_more (by omega) (by decide), pk_mul, nI_add, nI_add, zG_in rfl (by omega) (by decide), cl9 (by omega), show q * 16 + pP s q = 16 * q + pP s q by omega]
  show zG (nI q) 20 _ = _
  rw [zG_in rfl hq (by decide)]
  rfl
theorem e_mPrints {F q a b c : Nat} {s : zPS} {μ : zMem} (hr : zRepN 61 s μ) (hw : zWFS s) (hq : q = pw s % 20) (hP : pP s q < 16) (ha : a < 16) (hb : b < 16) : zTo (fX12_prints F (nI a) (nI b) (nI c) μ) (fun _ m => zRepN 61 (sPr s q (a + 16 * b + 256 * c)) m ∧ m 60 34 = μ 60 34 + nI 1 ∧ (∀ j, j ≠ 34 → m 60 j = μ 60 j) ∧ ∀ c, c ≠ 60 → c ≠ 61 → m c = μ c) := by
  have hwk := hw.2.2.2.2.2.2.2.2.1
  have v1 : μ 61 (nI 1044).toNatClampNeg % nI 20 = nI q := by rw [cl9 (by decide), hr.2.2.2.2.2.2.1, nI_mod (by omega) (by decide) (by decide), hq]
  have v2 : μ 61 (nI (64 + q)).toNatClampNeg = nI (pP s q) := by rw [cl9 (by omega)]; exact hr.2.2.2.2.1 q (by omega)
  unfold fX12_prints
  rw [v1, nI_add, pk_mul, nI_add, v2, pk_mul, nI_add, nI_add, nI_add]
  refine zTo_G rfl (by decide) (by decide) (zTo_Gz (by decide) (zTo_G rfl (by omega) (by decide) (zTo_G rfl (by omega) (by decide) (zTo_let fun m1 e1 => zTo_G rfl (by omega) (by decide) (zTo_let fun m2 e2 => zTo_G rfl (by omega) (by decide) (zTo_let fun m3 e3 => zTo_G rfl (by omega) (by decide) (zTo_G rfl (by omega) (by decide) (zTo_let fun m4 e4 => zTo_let fun m5 e5 => zTo_ret ?_))))))))
  rw [cl9 (by omega)] at e1 e2 e3 e4
  have v3 : m3 61 (64 + q) = nI (pP s q) := by rw [e3, zUp_o (by omega), e2, zUp_o (by omega), e1, zUp_o (by omega)]; exact hr.2.2.2.2.1 q (by omega)
  rw [v3, nI_add] at e4
  have hN := hr.pr hw (q := q) (by omega) hP (c := c) ha hb
  rw [← e1, ← e2, ← e3, ← e4] at hN
  have e60 : m4 60 = μ 60 := by rw [e4, zUp_ne (by decide), e3, zUp_ne (by decide), e2, zUp_ne (by decide), e1, zUp_ne (by decide)]
  refine ⟨hN.of (by rw [e5, zUp_ne (by decide)]), by rw [e5, zUp_s, e60], fun j hj => by rw [e5, zUp_o hj, e60], fun c h1 h2 => by rw [e5, zUp_ne h1, e4, zUp_ne h2, e3, zUp_ne h2, e2, zUp_ne h2, e1, zUp_ne h2]⟩
