/-! ===== what is reckoned from the tape alone: style, duty ===== -/
def zTB (N : Nat) (b : Nat → Nat) (m : zMem) : Prop := m 1 1 = nI N ∧ N ≤ 260 ∧ ∀ i, i < N → m 2 i = nI (b i)
def zTO (N : Nat) (b : Nat → Nat) (m : zMem) : Prop := N ≤ 260 ∧ ∀ i, i < N → m 68 i &&& nI 255 = nI (b i)
theorem e_bA {F N i : Nat} {b : Nat → Nat} {m : zMem} (h : zTB N b m) (hi : i < N) : fX9_byteAt F (nI i) m = some (nI (b i), m) := by rw [e_byteAt h.1 h.2.1 hi, h.2.2 i hi]
theorem e_oc {F N i : Nat} {b : Nat → Nat} {m : zMem} (h : zTO N b m) (hi : i < N) : fX12_octet F (nI i) m = some (nI (b i), m) := by rw [e_octet (by have := h.1; omega), h.2 i hi]
theorem zOp_TB {A : zAS} {μ : zMem} {N : Nat} (hW : zWF A) (hC : zRepC A μ) (hN : N ≤ aT A) : zTB N (aB A) (zOp μ N) := ⟨zOp_1 μ N, by have := hW.1.1; omega, fun i hi => by rw [zOp_ne (by decide)]; exact hC.1.2 i (by omega)⟩
theorem zUp_TO {A : zAS} {μ : zMem} {N : Nat} (hW : zWF A) (hM : zRepM A μ) (hN : N ≤ aT A) : zTO N (aB A) (zUp μ 60 9 (nI 0)) := ⟨by have := hW.1.1; omega, fun i hi => by rw [zUp_ne (by decide)]; exact hM.1.2 i (by omega)⟩
theorem rc_desk {A : zAS} {μ m : zMem} {N : Nat} (hC : zRepC A μ) (h : ∀ c, c < 56 → m c = zOp μ N c) : zRepC (aST A 0 (aB A)) (zUp m 1 1 (nI 0)) :=
  hC.tape ⟨by rw [zUp_s], fun j hj => by omega⟩ (fun k _ h1 _ h2 => by rw [zUp_ne h1, h k (by omega), zOp_ne h1])
theorem rm_desk {A : zAS} {μ m : zMem} (hM : zRepM A μ) (h : ∀ c, c ≠ 87 → c ≠ 88 → m c = zUp μ 60 9 (nI 0) c) : zRepM (aST A 0 (aB A)) m :=
  hM.tape ⟨by rw [h 60 (by decide) (by decide), zUp_s], fun j hj => by omega⟩ (fun j hj => by rw [h 60 (by decide) (by decide), zUp_o (by omega)]) (fun k hk => by rw [h k (by omega) (by omega), zUp_ne (by omega)])
def aD (x y : Nat) : Nat := if x < y then y - x else x - y
theorem nI_swap {x y : Nat} (h : x < y) : -(nI x - nI y) = nI (y - x) := by
  rw [Int32.neg_sub, pk_sub (by omega)]
theorem e_abs {F x y : Nat} {μ : zMem} (hx : x < 2 ^ 30) (hy : y < 2 ^ 30) : fJ9_abs_0f7a4 F (nI x - nI y) μ = some (nI (aD x y), μ) := by
  unfold fJ9_abs_0f7a4 aD
  by_cases h : x < y
  · rw [if_neg (fun z => Int32.lt_irrefl (Int32.lt_of_le_of_lt z (pk_sneg hy h))), if_pos h, nI_swap h]
  · rw [pk_sub (by omega), if_pos (nI_ge0 (by omega)), if_neg h]
theorem e_size {F x y : Nat} {μ : zMem} (hx : x < 2 ^ 30) (hy : y < 2 ^ 30) : fX12_size F (nI x - nI y) μ = some (nI (aD x y), μ) := by
  unfold fX12_size aD
  by_cases h : x < y
  · rw [if_neg (fun z => Int32.lt_irrefl (Int32.lt_of_le_of_lt z (pk_sneg hy h))), if_pos h, nI_swap h]
  · rw [pk_sub (by omega), if_pos (nI_ge0 (by omega)), if_neg h]
/-- how far a writer is from the text -/
def zDf (b : Nat → Nat) (n w : Nat) : Nat := zFold (fun k a => a + aD (b (4 * w + k)) (b (4 * n + k))) 4 0 0
theorem aD_lt {x y : Nat} (hx : x < 256) (hy : y < 256) : aD x y < 256 := by unfold aD; split <;> omega
theorem zDf_lt {b : Nat → Nat} (hb : ∀ j, b j < 256) (n w : Nat) : zDf b n w < 1024 := by
  have h0 := aD_lt (hb (4 * w + 0)) (hb (4 * n + 0))
  have h1 := aD_lt (hb (4 * w + (0 + 1))) (hb (4 * n + (0 + 1)))
  have h2 := aD_lt (hb (4 * w + (0 + 1 + 1))) (hb (4 * n + (0 + 1 + 1)))
  have h3 := aD_lt (hb (4 * w + (0 + 1 + 1 + 1))) (hb (4 * n + (0 + 1 + 1 + 1)))
  show ((0 + _) + _) + _ + _ < 1024
  omega
theorem e_diff {F n w : Nat} {b : Nat → Nat} {m : zMem} (hF : 5 ≤ F) (h : zTB (4 * n + 4) b m) (hb : ∀ j, b j < 256) (hw : w < n) : fX3_differenceOf F (nI n) (nI w) m = some (nI (zDf b n w), m) := by
  have hN := h.2.1
  have key : ∀ j k a f, k + j = 4 → j < f → fX3_differenceOf_5 F f (nI n) (nI w) (nI a) (nI k) m = some (nI (zFold (fun k a => a + aD (b (4 * w + k)) (b (4 * n + k))) j k a), m) := by
    intro j
    induction j with
    | zero =>
      intro k a f hk hf
      obtain ⟨f, rfl⟩ := z_s hf
      rw [fX3_differenceOf_5, z_done (by omega) (by omega)]
      rfl
    | succ j ih =>
      intro k a f hk hf
      obtain ⟨f, rfl⟩ := z_s hf
      have h1 := hb (4 * w + k)
      have h2 := hb (4 * n + k)
      rw [fX3_differenceOf_5, z_more (by omega) (by decide), pk_mul, nI_add, e_bA h (by omega), zBd_s, pk_mul, nI_add, e_bA h (by omega), zBd_s, e_abs (by omega) (by omega), zBd_s, nI_add, nI_add]
      exact ih (k + 1) _ f (by omega) (by omega)
  exact key 4 0 0 F rfl (by omega)
def zNear (d : Nat → Nat) (m k p : Nat) : Nat := zFold (fun k p => if d k < d p then k else p) m k p
theorem zNear_lt (d : Nat → Nat) : ∀ m k p N, k + m ≤ N → p < N → zNear d m k p < N
  | 0, _, _, _, _, h => h
  | m + 1, k, p, N, h1, h2 => by
    show zNear d m (k + 1) (if d k < d p then k else p) < N
    exact zNear_lt d m (k + 1) _ N (by omega) (by split <;> omega)
theorem pr_style {F : Nat} (hF : 20 ≤ F) (x w : Int32) : zPair (fX11_style F x w) (fX12_style F x w) := by
  refine zPair.mk fun A μ hW hC => ?_
  cases hz : zIn x 2 6
  · refine ⟨-1, A, μ, ?_, hW, hC, fun _ _ => rfl, fun μ' hM => ⟨μ', ?_, hM, fun _ _ => rfl⟩⟩
    · unfold fX11_style
      rw [e_isWithin, zBd_s, hz, z_bf]
    · unfold fX12_style
      rw [e_in, zBd_s, hz, z_bf]
  · cases hz2 : zIn w 0 1
    · refine ⟨-1, A, μ, ?_, hW, hC, fun _ _ => rfl, fun μ' hM => ⟨μ', ?_, hM, fun _ _ => rfl⟩⟩
      · unfold fX11_style
        rw [e_isWithin, zBd_s, hz, z_bt, e_isWithin, zBd_s, hz2, z_bf]
      · unfold fX12_style
        rw [e_in, zBd_s, hz, z_bt, e_in, zBd_s, hz2, z_bf]
    · obtain ⟨n, hn1, hn2, rfl⟩ := zIn_t (by decide) (by decide) hz
      have hb := hW.1.2
      by_cases ht : 4 * n + 4 ≤ aT A
      · have hT := zOp_TB hW hC ht
        have k1 : ∀ j k p f, k + j = n → p < n → j < f → fX3_nearestWriter_4 F f (nI n) (nI p) (nI k) (zOp μ (4 * n + 4)) = some (nI (zNear (zDf (aB A) n) j k p), zOp μ (4 * n + 4)) := by
          intro j
          induction j with
          | zero =>
            intro k p f hk hp hf
            obtain ⟨f, rfl⟩ := z_s hf
            rw [fX3_nearestWriter_4, z_done (by omega) (by omega)]
            rfl
          | succ j ih =>
            intro k p f hk hp hf
            obtain ⟨f, rfl⟩ := z_s hf
            have d1 := zDf_lt hb n k
            have d2 := zDf_lt hb n p
            rw [fX3_nearestWriter_4, z_more (by omega) (by omega), e_diff (by omega) hT hb (by omega), zBd_s, e_diff (by omega) hT hb hp, zBd_s, nI_add]
            show _ = some (nI (zNear (zDf (aB A) n) j (k + 1) (if zDf (aB A) n k < zDf (aB A) n p then k else p)), _)
            by_cases hd : zDf (aB A) n k < zDf (aB A) n p
            · rw [z_more hd (by omega), if_pos hd]
              exact ih (k + 1) _ f (by omega) (by omega) (by omega)
            · rw [z_done (by omega) (by omega), if_neg hd]
              exact ih (k + 1) _ f (by omega) hp (by omega)
        have hp0 : zNear (zDf (aB A) n) (n - 1) 1 0 < n := zNear_lt _ _ _ _ n (by omega) (by omega)
        refine ⟨if w = 0 then nI (zNear (zDf (aB A) n) (n - 1) 1 0) else nI (zDf (aB A) n (zNear (zDf (aB A) n) (n - 1) 1 0)), aST A 0 (aB A), zUp (zOp μ (4 * n + 4)) 1 1 (nI 0), ?_, hW.tape (by omega) hb, rc_desk hC (fun _ _ => rfl), fun c hc => by rw [zUp_ne (by omega), zOp_ne (by omega)], fun μ' hM => ?_⟩
        · unfold fX11_style
          rw [e_isWithin, zBd_s, hz, z_bt, e_isWithin, zBd_s, hz2, z_bt, pk_mul, nI_add, e_opens_t hC.1.1 hW.1.1 ht, zBd_s, z_bt]
          unfold fX3_nearestWriter
          rw [k1 (n - 1) 1 0 F (by omega) (by omega) (by omega), zBd_s, e_diff (by omega) hT hb hp0, zBd_s, e_empties, zBd_s, zBd_s]
          by_cases h0 : w = 0
          · rw [if_pos h0, if_pos h0]
          · rw [if_neg h0, if_neg h0]
        · have hO := zUp_TO hW hM ht
          have hN := hO.1
          have m60 : ∀ (K : Int32 → Int32 → Int32 → Int32 → Int32 → zMem → Option zR) (p l : Int32) (i : Nat), i < n → ∀ j k a f, k + j = 4 → j < f → fX12_style_60 F K f (nI n) w p l (nI i) (nI a) (nI k) (zUp μ' 60 9 (nI 0)) = if nI (zFold (fun k a => a + aD (aB A (4 * i + k)) (aB A (4 * n + k))) j k a) < l then K (nI n) w (nI i) (nI (zFold (fun k a => a + aD (aB A (4 * i + k)) (aB A (4 * n + k))) j k a)) (nI (i + 1)) (zUp μ' 60 9 (nI 0)) else K (nI n) w p l (nI (i + 1)) (zUp μ' 60 9 (nI 0)) := by
            intro K p l i hi j
            induction j with
            | zero =>
              intro k a f hk hf
              obtain ⟨f, rfl⟩ := z_s hf
              rw [fX12_style_60, z_done (by omega) (by omega), nI_add]
              rfl
            | succ j ih =>
              intro k a f hk hf
              obtain ⟨f, rfl⟩ := z_s hf
              have h1 := hb (4 * i + k)
              have h2 := hb (4 * n + k)
              rw [fX12_style_60, z_more (by omega) (by decide), pk_mul, nI_add, e_oc hO (by omega), zBd_s, pk_mul, nI_add, e_oc hO (by omega), zBd_s, e_size (by omega) (by omega), zBd_s, nI_add, nI_add]
              exact ih (k + 1) _ f (by omega) (by omega)
          have m48 : ∀ j k p f, k + j = n → p < n → j < f → fX12_style_48 F f (nI n) w (nI p) (nI (zDf (aB A) n p)) (nI k) (zUp μ' 60 9 (nI 0)) = some (if w = 0 then nI (zNear (zDf (aB A) n) j k p) else nI (zDf (aB A) n (zNear (zDf (aB A) n) j k p)), zUp μ' 60 9 (nI 0)) := by
            intro j
            induction j with
            | zero =>
              intro k p f hk hp hf
              obtain ⟨f, rfl⟩ := z_s hf
              rw [fX12_style_48, z_done (by omega) (by omega)]
              by_cases h0 : w = 0
              · rw [if_pos h0, if_pos h0]; rfl
              · rw [if_neg h0, if_neg h0]; rfl
            | succ j ih =>
              intro k p f hk hp hf
              obtain ⟨f, rfl⟩ := z_s hf
              have d1 := zDf_lt hb n k
              have d2 := zDf_lt hb n p
              rw [fX12_style_48, z_more (by omega) (by omega), m60 _ _ _ k (by omega) 4 0 0 F rfl (by omega)]
              show (if nI (zDf (aB A) n k) < nI (zDf (aB A) n p) then fX12_style_48 F f (nI n) w (nI k) (nI (zDf (aB A) n k)) (nI (k + 1)) _ else fX12_style_48 F f (nI n) w (nI p) (nI (zDf (aB A) n p)) (nI (k + 1)) _) = some (if w = 0 then nI (zNear (zDf (aB A) n) j (k + 1) (if zDf (aB A) n k < zDf (aB A) n p then k else p)) else nI (zDf (aB A) n (zNear (zDf (aB A) n) j (k + 1) (if zDf (aB A) n k < zDf (aB A) n p then k else p))), _)
              by_cases hd : zDf (aB A) n k < zDf (aB A) n p
              · rw [if_pos ((nI_ltI (by omega) (by omega)).mpr hd), if_pos hd]
                exact ih (k + 1) _ f (by omega) (by omega) (by omega)
              · rw [if_neg (fun z => hd ((nI_ltI (by omega) (by omega)).mp z)), if_neg hd]
                exact ih (k + 1) _ f (by omega) hp (by omega)
          refine ⟨zUp μ' 60 9 (nI 0), ?_, rm_desk hM (fun _ _ _ => rfl), fun c hc => zUp_ne (by omega)⟩
          unfold fX12_style
          rw [e_in, zBd_s, hz, z_bt, e_in, zBd_s, hz2, z_bt, pk_mul, nI_add, hM.1.1, if_pos ((nI_leI (by omega) (by have := hW.1.1; omega)).mpr ht)]
          show fX12_style_48 F F (nI n) w (nI 0) (nI 1000000) (nI 0) (zUp μ' 60 9 (nI 0)) = _
          obtain ⟨f, hf⟩ : ∃ f, F = f + 1 := ⟨F - 1, by omega⟩
          have d0 := zDf_lt hb n 0
          have e0 : fX12_style_48 F (f + 1) (nI n) w (nI 0) (nI 1000000) (nI 0) (zUp μ' 60 9 (nI 0)) = fX12_style_48 F f (nI n) w (nI 0) (nI (zDf (aB A) n 0)) (nI 1) (zUp μ' 60 9 (nI 0)) := by
            rw [fX12_style_48, z_more (by omega) (by omega), m60 _ _ _ 0 (by omega) 4 0 0 F rfl (by omega)]
            show (if nI (zDf (aB A) n 0) < nI 1000000 then _ else _) = _
            rw [if_pos ((nI_ltI (by omega) (by decide)).mpr (by omega))]
            rfl
          rw [← hf] at e0
          rw [e0]
          exact m48 (n - 1) 1 0 f (by omega) (by omega) (by omega)
      · refine ⟨-1, A, μ, ?_, hW, hC, fun _ _ => rfl, fun μ' hM => ⟨μ', ?_, hM, fun _ _ => rfl⟩⟩
        · unfold fX11_style
          rw [e_isWithin, zBd_s, hz, z_bt, e_isWithin, zBd_s, hz2, z_bt, pk_mul, nI_add, e_opens_f hC.1.1 hW.1.1 (by omega) (by omega), zBd_s, z_bf]
        · unfold fX12_style
          rw [e_in, zBd_s, hz, z_bt, e_in, zBd_s, hz2, z_bt, pk_mul, nI_add, hM.1.1, if_neg (fun z => ht ((nI_leI (by omega) (by have := hW.1.1; omega)).mp z))]
