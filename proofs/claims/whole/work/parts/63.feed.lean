/-! ===== feed ===== -/
def bt (x : Int32) (i : Nat) : Bool := x.toBitVec.getLsbD i
theorem b_ext {x y : Int32} (h : ∀ i, i < 32 → bt x i = bt y i) : x = y := Int32.toBitVec_inj.mp (BitVec.eq_of_getLsbD_eq (fun i hi => h i hi))
theorem b_and (x y : Int32) (i : Nat) : bt (x &&& y) i = (bt x i && bt y i) := by unfold bt; rw [Int32.toBitVec_and, BitVec.getLsbD_and]
theorem b_big {x : Int32} {i : Nat} (h : 32 ≤ i) : bt x i = false := BitVec.getLsbD_of_ge _ _ h
theorem b_255 (i : Nat) : bt 255 i = decide (i < 8) := by
  rcases Nat.lt_or_ge i 32 with h | h
  · exact (by decide +kernel : ∀ i, i < 32 → bt 255 i = decide (i < 8)) i h
  · rw [b_big h, decide_eq_false (by omega)]
theorem s_l : ∀ n, n < 32 → ((nI n &&& 31).toBitVec.smod 32).toNat = n := by decide +kernel
theorem s_u : ∀ n, n < 32 → (((nI n).toUInt32 &&& Int32.toUInt32 31).toBitVec % 32).toNat = n := by decide +kernel
theorem b_ushr (n : Nat) (hn : n < 32) (x : Int32) (i : Nat) : bt ((x.toUInt32 >>> ((nI n).toUInt32 &&& Int32.toUInt32 31)).toInt32) i = bt x (n + i) := by
  show (x.toUInt32 >>> ((nI n).toUInt32 &&& Int32.toUInt32 31)).toBitVec.getLsbD i = x.toUInt32.toBitVec.getLsbD (n + i)
  rw [UInt32.toBitVec_shiftRight]
  show (x.toUInt32.toBitVec >>> (((nI n).toUInt32 &&& Int32.toUInt32 31).toBitVec % 32).toNat).getLsbD i = _
  rw [s_u n hn, BitVec.getLsbD_ushiftRight]
theorem b_sshr (n : Nat) (hn : n < 32) (x : Int32) {i : Nat} (hi : i < 32) : bt (x >>> (nI n &&& 31)) i = if n + i < 32 then bt x (n + i) else bt x 31 := by
  unfold bt
  rw [Int32.toBitVec_shiftRight]
  show (x.toBitVec.sshiftRight ((nI n &&& 31).toBitVec.smod 32).toNat).getLsbD i = _
  rw [s_l n hn, BitVec.getLsbD_sshiftRight, BitVec.msb_eq_getLsbD_last]
  simp [hi]
theorem bp_b (x : Int32) : x.toInt8.toInt32 &&& 255 = x &&& 255 := by
  apply Int32.toBitVec_inj.mp
  rw [Int32.toBitVec_and, Int32.toBitVec_and, Int8.toBitVec_toInt32, Int32.toBitVec_toInt8]
  apply BitVec.eq_of_getLsbD_eq
  intro i hi
  rw [BitVec.getLsbD_and, BitVec.getLsbD_and]
  have hm : ∀ i < 32, 8 ≤ i → (255 : Int32).toBitVec.getLsbD i = false := by decide
  rcases Nat.lt_or_ge i 8 with z | z
  · rw [BitVec.getLsbD_signExtend, BitVec.getLsbD_signExtend, if_pos z, if_pos hi]
    simp only [z, hi, decide_true, Bool.true_and]
  · rw [hm i hi z]; simp
/-- byte k of a number -/
def zOct (v : Int32) (k : Nat) : Nat := (zUsh v (nI (8 * k)) &&& nI 255).toBitVec.toNat
theorem zOct_eq (v : Int32) (k : Nat) : zUsh v (nI (8 * k)) &&& nI 255 = nI (zOct v k) := by
  apply Int32.toBitVec_inj.mp
  show _ = BitVec.ofNat 32 _
  unfold zOct
  simp
theorem zOct_lt (v : Int32) (k : Nat) : zOct v k < 256 := by
  unfold zOct
  generalize zUsh v (nI (8 * k)) = y
  have : (y &&& nI 255).toBitVec = y.toBitVec &&& BitVec.ofNat 32 255 := rfl
  rw [this, BitVec.toNat_and]
  have h : y.toBitVec.toNat &&& (BitVec.ofNat 32 255).toNat ≤ (BitVec.ofNat 32 255).toNat := Nat.and_le_right
  have h2 : (BitVec.ofNat 32 255).toNat = 255 := by decide
  omega
theorem zOct_s {v : Int32} {k : Nat} (hk : k < 4) : (((v >>> (nI (8 * k) &&& 31)).toInt8.toInt32).toInt8.toInt32) &&& nI 255 = nI (zOct v k) := by
  rw [← zOct_eq]
  show _ &&& (255 : Int32) = _ &&& (255 : Int32)
  rw [bp_b, bp_b]
  apply b_ext
  intro i hi
  unfold zUsh
  rw [b_and, b_and, b_255, b_sshr _ (by omega) _ hi, b_ushr _ (by omega)]
  by_cases h : i < 8
  · rw [if_pos (by omega)]
  · rw [decide_eq_false h, Bool.and_false, Bool.and_false]
theorem nI_sub8 (k : Nat) : nI (8 * (k + 1)) + (-8 : Int32) = nI (8 * k) := by
  have : nI (8 * (k + 1)) = nI (8 * k) + nI 8 := by rw [nI_add]; rfl
  rw [this, Int32.add_assoc]
  show nI (8 * k) + 0 = _
  rw [Int32.add_zero]
theorem nI_sub1 (k : Nat) : nI (k + 1) + (-1 : Int32) = nI k := by
  rw [← nI_add, Int32.add_assoc]
  show nI k + 0 = _
  rw [Int32.add_zero]
theorem e_put1 {F f t k : Nat} {b : Nat → Nat} {v : Int32} {μ : zMem} (h : zTapeC t b μ) (ht : t < 260) (hk : k < 4) : fX9_puts_3 F (f + 1) v (nI (8 * k)) μ = fX9_puts_3 F f v (nI (8 * k) + (-8 : Int32)) (zUp (zUp μ 2 t (nI (zOct v k))) 1 1 (nI (t + 1))) ∧ zTapeC (t + 1) (uN b t (zOct v k)) (zUp (zUp μ 2 t (nI (zOct v k))) 1 1 (nI (t + 1))) := by
  constructor
  · rw [fX9_puts_3, if_neg (nI_nlt0 (by omega)), h.1, z_more ht (by decide), zG_in rfl ht (by decide), nI_clamp (by omega), zOct_eq]
    show fX9_puts_3 F f v (nI (8 * k) + (-8 : Int32)) (zUp (zUp μ 2 t (nI (zOct v k))) 1 1 (μ 1 1 + nI 1)) = _
    rw [h.1, nI_add]
  · refine ⟨zUp_s _ _ _ _, fun j hj => ?_⟩
    rw [zUp_ne (by decide)]
    by_cases e : j = t
    · subst e
      rw [zUp_s, uN_s]
    · rw [zUp_o e, uN_o e]
      exact h.2 j (by omega)
def zFd (b : Nat → Nat) (t : Nat) (v : Int32) : Nat → Nat := uN (uN (uN (uN b t (zOct v 3)) (t + 1) (zOct v 2)) (t + 2) (zOct v 1)) (t + 3) (zOct v 0)
theorem uN_lt {b : Nat → Nat} {t v n : Nat} (h : ∀ j, b j < n) (hv : v < n) (j : Nat) : uN b t v j < n := by
  unfold uN
  split
  · exact hv
  · exact h j
theorem zFd_lt {b : Nat → Nat} {t : Nat} {v : Int32} (h : ∀ j, b j < 256) : ∀ j, zFd b t v j < 256 :=
  uN_lt (uN_lt (uN_lt (uN_lt h (zOct_lt _ _)) (zOct_lt _ _)) (zOct_lt _ _)) (zOct_lt _ _)
theorem e_puts {F t : Nat} {b : Nat → Nat} {v : Int32} {μ : zMem} (hF : 5 ≤ F) (h : zTapeC t b μ) (ht : t + 4 ≤ 260) : zTo (fX9_puts F v μ) (fun _ m => zTapeC (t + 4) (zFd b t v) m ∧ ∀ c, c ≠ 1 → c ≠ 2 → m c = μ c) := by
  obtain ⟨f, rfl⟩ : ∃ f, F = f + 5 := ⟨F - 5, by omega⟩
  unfold fX9_puts
  generalize hG : f + 5 = G
  obtain ⟨a1, a2⟩ := e_put1 (F := G) (f := f + 4) (k := 3) (v := v) h (by omega) (by omega)
  obtain ⟨b1, b2⟩ := e_put1 (F := G) (f := f + 3) (k := 2) (v := v) a2 (by omega) (by omega)
  obtain ⟨c1, c2⟩ := e_put1 (F := G) (f := f + 2) (k := 1) (v := v) b2 (by omega) (by omega)
  obtain ⟨d1, d2⟩ := e_put1 (F := G) (f := f + 1) (k := 0) (v := v) c2 (by omega) (by omega)
  rw [nI_sub8] at a1 b1 c1
  refine ⟨nI 0, _, ?_, d2, fun c h1 h2 => by simp only [zUp_ne h1, zUp_ne h2]⟩
  have e : fX9_puts_3 G G v (nI 24) μ = fX9_puts_3 G (f + 4 + 1) v (nI (8 * 3)) μ := by rw [← hG]
  rw [e, a1, b1, c1, d1, fX9_puts_3, if_pos (show nI (8 * 0) + (-8 : Int32) < 0 by decide)]
theorem e_type1 {F f t k : Nat} {b : Nat → Nat} {v : Int32} {μ : zMem} (h : zTapeM t b μ) (ht : t < 260) (hk : k < 4) : ∃ m, fX12_types_2 F (f + 1) v (nI k) μ = fX12_types_2 F f v (nI k + (-1 : Int32)) m ∧ zTapeM (t + 1) (uN b t (zOct v k)) m ∧ (∀ c, c ≠ 60 → c ≠ 68 → m c = μ c) ∧ ∀ j, j ≠ 9 → m 60 j = μ 60 j := by
  refine ⟨_, ?_, ⟨zUp_s (zUp μ 68 t ((v >>> (nI (8 * k) &&& 31)).toInt8.toInt32).toInt8.toInt32) 60 9 (nI (t + 1)), fun j hj => ?_⟩, fun c h1 h2 => by rw [zUp_ne h1, zUp_ne h2], fun j hj => by rw [zUp_o hj, zUp_ne (by decide)]⟩
  · rw [fX12_types_2, if_neg (nI_nlt0 (by omega)), h.1, zG_in rfl ht (by decide), nI_clamp (by omega), pk_mul]
    show fX12_types_2 F f v (nI k + (-1 : Int32)) (zUp (zUp μ 68 t _) 60 9 (μ 60 9 + nI 1)) = _
    rw [h.1, nI_add]
  · rw [zUp_ne (by decide)]
    by_cases e : j = t
    · subst e
      rw [zUp_s, uN_s, zOct_s hk]
    · rw [zUp_o e, uN_o e]
      exact h.2 j (by omega)
theorem e_types {F t : Nat} {b : Nat → Nat} {v : Int32} {μ : zMem} (hF : 5 ≤ F) (h : zTapeM t b μ) (ht : t + 4 ≤ 260) : zTo (fX12_types F v μ) (fun _ m => zTapeM (t + 4) (zFd b t v) m ∧ (∀ c, c ≠ 60 → c ≠ 68 → m c = μ c) ∧ ∀ j, j ≠ 9 → m 60 j = μ 60 j) := by
  obtain ⟨f, rfl⟩ : ∃ f, F = f + 5 := ⟨F - 5, by omega⟩
  unfold fX12_types
  generalize hG : f + 5 = G
  obtain ⟨ma, a1, a2, a3, a4⟩ := e_type1 (F := G) (f := f + 4) (k := 3) (v := v) h (by omega) (by omega)
  obtain ⟨mb, b1, b2, b3, b4⟩ := e_type1 (F := G) (f := f + 3) (k := 2) (v := v) a2 (by omega) (by omega)
  obtain ⟨mc, c1, c2, c3, c4⟩ := e_type1 (F := G) (f := f + 2) (k := 1) (v := v) b2 (by omega) (by omega)
  obtain ⟨md, d1, d2, d3, d4⟩ := e_type1 (F := G) (f := f + 1) (k := 0) (v := v) c2 (by omega) (by omega)
  rw [nI_sub1] at a1 b1 c1
  refine ⟨nI 0, md, ?_, d2, fun c h1 h2 => by rw [d3 c h1 h2, c3 c h1 h2, b3 c h1 h2, a3 c h1 h2], fun j hj => by rw [d4 j hj, c4 j hj, b4 j hj, a4 j hj]⟩
  have e : fX12_types_2 G G v (nI 3) μ = fX12_types_2 G (f + 4 + 1) v (nI 3) μ := by rw [← hG]
  rw [e, a1, b1, c1, d1, fX12_types_2, if_pos (show nI 0 + (-1 : Int32) < 0 by decide)]
theorem pr_feed {F : Nat} (hF : 5 ≤ F) (v1 v2 v3 v4 v5 : Int32) : zPair (fX11_feed F v1 v2 v3 v4 v5) (fX12_feed F v1 v2 v3 v4 v5) := by
  refine zPair.mk fun A μ hW hC => ?_
  have h260 := hW.1.1
  by_cases ht : aT A + 20 ≤ 260
  · obtain ⟨r1, m1, e1, a1, b1⟩ := e_puts (v := v1) hF hC.1 (by omega)
    obtain ⟨r2, m2, e2, a2, b2⟩ := e_puts (v := v2) hF a1 (by omega)
    obtain ⟨r3, m3, e3, a3, b3⟩ := e_puts (v := v3) hF a2 (by omega)
    obtain ⟨r4, m4, e4, a4, b4⟩ := e_puts (v := v4) hF a3 (by omega)
    obtain ⟨r5, m5, e5, a5, b5⟩ := e_puts (v := v5) hF a4 (by omega)
    have hfr : ∀ c, c ≠ 1 → c ≠ 2 → m5 c = μ c := fun c h1 h2 => by rw [b5 c h1 h2, b4 c h1 h2, b3 c h1 h2, b2 c h1 h2, b1 c h1 h2]
    refine ⟨nI (aT A + 4 + 4 + 4 + 4 + 4), aST A (aT A + 4 + 4 + 4 + 4 + 4) (zFd (zFd (zFd (zFd (zFd (aB A) (aT A) v1) (aT A + 4) v2) (aT A + 4 + 4) v3) (aT A + 4 + 4 + 4) v4) (aT A + 4 + 4 + 4 + 4) v5), m5, ?_, hW.tape (by omega) (zFd_lt (zFd_lt (zFd_lt (zFd_lt (zFd_lt hW.1.2))))), hC.tape a5 (fun k _ h1 h2 _ => hfr k h1 h2), fun c hc => hfr c (by omega) (by omega), fun μ' hM => ?_⟩
    · unfold fX11_feed
      rw [hC.1.1, nI_add, if_pos ((nI_leI (by omega) (by decide)).mpr ht), e1, zBd_s, e2, zBd_s, e3, zBd_s, e4, zBd_s, e5, zBd_s, a5.1]
    · obtain ⟨s1, n1, g1, c1, d1, f1⟩ := e_types (v := v1) hF hM.1 (by omega)
      obtain ⟨s2, n2, g2, c2, d2, f2⟩ := e_types (v := v2) hF c1 (by omega)
      obtain ⟨s3, n3, g3, c3, d3, f3⟩ := e_types (v := v3) hF c2 (by omega)
      obtain ⟨s4, n4, g4, c4, d4, f4⟩ := e_types (v := v4) hF c3 (by omega)
      obtain ⟨s5, n5, g5, c5, d5, f5⟩ := e_types (v := v5) hF c4 (by omega)
      have hfr : ∀ c, c ≠ 60 → c ≠ 68 → n5 c = μ' c := fun c h1 h2 => by rw [d5 c h1 h2, d4 c h1 h2, d3 c h1 h2, d2 c h1 h2, d1 c h1 h2]
      refine ⟨n5, ?_, hM.tape c5 (fun j hj => by rw [f5 j (by omega), f4 j (by omega), f3 j (by omega), f2 j (by omega), f1 j (by omega)]) (fun k hk => hfr k (by omega) (by omega)), fun c hc => hfr c (by omega) (by omega)⟩
      unfold fX12_feed
      rw [hM.1.1, nI_add, if_pos ((nI_leI (by omega) (by decide)).mpr ht), g1, zBd_s, g2, zBd_s, g3, zBd_s, g4, zBd_s, g5, zBd_s, c5.1]
  · refine ⟨-1, A, μ, ?_, hW, hC, fun _ _ => rfl, fun μ' hM => ⟨μ', ?_, hM, fun _ _ => rfl⟩⟩
    · unfold fX11_feed
      rw [hC.1.1, nI_add, if_neg (fun z => ht ((nI_leI (by omega) (by decide)).mp z))]
    · unfold fX12_feed
      rw [hM.1.1, nI_add, if_neg (fun z => ht ((nI_leI (by omega) (by decide)).mp z))]
