/-! ===== nuns ===== -/
def zM3 (l : Nat → Nat) : Nat := max (l 0) (max (l 1) (l 2))
def zAt (b : Nat → Nat) (p d : Nat) (l : Nat → Nat) : Nat → Nat := uN l d (l d + b p)
def zMf (f : Nat → Nat) (m k a : Nat) : Nat := zFold (fun d a => min a (f d)) m k a
theorem zMf_le (f : Nat → Nat) : ∀ m k a, zMf f m k a ≤ a
  | 0, _, a => Nat.le_refl a
  | m + 1, k, a => Nat.le_trans (zMf_le f m (k + 1) (min a (f k))) (Nat.min_le_left _ _)
theorem zMf_min (f : Nat → Nat) : ∀ m k x y, zMf f m k (min x y) = min x (zMf f m k y)
  | 0, _, _, _ => rfl
  | m + 1, k, x, y => by
    show zMf f m (k + 1) (min (min x y) (f k)) = min x (zMf f m (k + 1) (min y (f k)))
    rw [Nat.min_assoc, zMf_min f m (k + 1)]
theorem zMf_at (f : Nat → Nat) : ∀ m k a i, k ≤ i → i < k + m → zMf f m k a ≤ f i
  | 0, k, a, i, h1, h2 => by omega
  | m + 1, k, a, i, h1, h2 => by
    show zMf f m (k + 1) (min a (f k)) ≤ f i
    by_cases h : i = k
    · subst h
      exact Nat.le_trans (zMf_le f m _ _) (Nat.min_le_right _ _)
    · exact zMf_at f m (k + 1) _ i (by omega) (by omega)
theorem zMf_ex (f : Nat → Nat) : ∀ m k a, zMf f m k a = a ∨ ∃ i, k ≤ i ∧ i < k + m ∧ zMf f m k a = f i
  | 0, _, _ => Or.inl rfl
  | m + 1, k, a => by
    rcases zMf_ex f m (k + 1) (min a (f k)) with h | ⟨i, h1, h2, h3⟩
    · have h' : zMf f (m + 1) k a = min a (f k) := h
      by_cases h2 : a ≤ f k
      · exact Or.inl (by rw [h', Nat.min_eq_left h2])
      · exact Or.inr ⟨k, by omega, by omega, by rw [h', Nat.min_eq_right (by omega)]⟩
    · exact Or.inr ⟨i, by omega, by omega, h3⟩
/-- the least time in which the pages from p on, m of them, can be shared -/
def zNu (b : Nat → Nat) (w : Nat) : Nat → Nat → (Nat → Nat) → Nat
  | 0, _, l => zM3 l
  | m + 1, p, l => zMf (fun d => zNu b w m (p + 1) (zAt b p d l)) (w - 1) 1 (zNu b w m (p + 1) (zAt b p 0 l))
theorem zM3_at {b : Nat → Nat} {p d : Nat} {l : Nat → Nat} (hd : d < 3) : zM3 (zAt b p d l) = max (zM3 l) (l d + b p) := by
  have : d = 0 ∨ d = 1 ∨ d = 2 := by omega
  unfold zM3 zAt
  rcases this with rfl | rfl | rfl
  · rw [uN_s, uN_o (by decide), uN_o (by decide)]; omega
  · rw [uN_s, uN_o (by decide), uN_o (by decide)]; omega
  · rw [uN_s, uN_o (by decide), uN_o (by decide)]; omega
theorem zNu_ge (b : Nat → Nat) (w : Nat) (hw : w ≤ 3) : ∀ m p l, zM3 l ≤ zNu b w m p l
  | 0, _, _ => Nat.le_refl _
  | m + 1, p, l => by
    have h : ∀ d, d < 3 → zM3 l ≤ zNu b w m (p + 1) (zAt b p d l) := fun d hd => by
      have h1 := zNu_ge b w hw m (p + 1) (zAt b p d l)
      rw [zM3_at hd] at h1
      omega
    show zM3 l ≤ zMf _ (w - 1) 1 _
    rcases zMf_ex (fun d => zNu b w m (p + 1) (zAt b p d l)) (w - 1) 1 (zNu b w m (p + 1) (zAt b p 0 l)) with e | ⟨i, h1, h2, e⟩
    · rw [e]; exact h 0 (by decide)
    · rw [e]; exact h i (by omega)
theorem zNu_le {b : Nat → Nat} (hb : ∀ j, b j < 256) (w : Nat) : ∀ m p l c, (∀ i, i < 3 → l i ≤ c) → zNu b w m p l ≤ c + 255 * m
  | 0, _, l, c, h => by
    have h0 := h 0 (by decide)
    have h1 := h 1 (by decide)
    have h2 := h 2 (by decide)
    show zM3 l ≤ _
    unfold zM3; omega
  | m + 1, p, l, c, h => by
    have hh := zNu_le hb w m (p + 1) (zAt b p 0 l) (c + 255) (fun i hi => by
      have h1 := h i hi
      have h2 := h 0 (by decide)
      have h3 := hb p
      unfold zAt uN
      split <;> omega)
    have := zMf_le (fun d => zNu b w m (p + 1) (zAt b p d l)) (w - 1) 1 (zNu b w m (p + 1) (zAt b p 0 l))
    show zMf _ (w - 1) 1 _ ≤ _
    omega
/-- the class -/
theorem e_shares {F n w : Nat} {b : Nat → Nat} (hF : 5 ≤ F) (hb : ∀ j, b j < 256) (hn : n ≤ 8) (hw1 : 2 ≤ w) (hw : w ≤ 3) : ∀ m p (l : Nat → Nat) t D μ, p + m = n → m < D → t ≤ 3000 → (∀ i, i < 3 → l i ≤ 256 * p) → zTB n b μ → (∀ i, i < 3 → μ 57 i = nI (l i)) → μ 56 1 = nI t → zTo (fX3_shares F D (nI p) (nI n) (nI w) (nI (zM3 l)) μ) (fun _ μ1 => (∀ i, i < 3 → μ1 57 i = nI (l i)) ∧ μ1 56 1 = nI (min t (zNu b w m p l)) ∧ ∀ c, c ≠ 56 → c ≠ 57 → μ1 c = μ c) := by
  intro m
  induction m with
  | zero =>
    intro p l t D μ hp hD ht hl hT h57 h56
    obtain ⟨D, rfl⟩ := z_s hD
    have hm3 : zM3 l ≤ 2048 := by
      have h0 := hl 0 (by decide)
      have h1 := hl 1 (by decide)
      have h2 := hl 2 (by decide)
      unfold zM3; omega
    show zTo (bX3_shares F (fX3_shares F D) (nI p) (nI n) (nI w) (nI (zM3 l)) μ) _
    unfold bX3_shares
    rw [h56]
    show zTo _ (fun _ μ1 => (∀ i, i < 3 → μ1 57 i = nI (l i)) ∧ μ1 56 1 = nI (min t (zM3 l)) ∧ _)
    by_cases h1 : zM3 l < t
    · rw [if_pos ((nI_ltI (by omega) (by omega)).mpr h1), if_neg (fun z => by have := (nI_ltI (by omega) (by omega)).mp z; omega)]
      refine zTo_let fun m2 hm2 => ?_
      subst hm2
      exact zTo_ret ⟨fun i hi => by rw [zUp_ne (by decide)]; exact h57 i hi, by rw [zUp_s, Nat.min_eq_right (by omega)], fun c h1 h2 => zUp_ne h1⟩
    · rw [if_neg (fun z => h1 ((nI_ltI (by omega) (by omega)).mp z))]
      exact zTo_ret ⟨h57, by rw [h56, Nat.min_eq_left (by omega)], fun _ _ _ => rfl⟩
  | succ m ih =>
    intro p l t D μ hp hD ht hl hT h57 h56
    obtain ⟨D, rfl⟩ := z_s hD
    have hm3 : zM3 l ≤ 2048 := by
      have h0 := hl 0 (by decide)
      have h1 := hl 1 (by decide)
      have h2 := hl 2 (by decide)
      unfold zM3; omega
    have hge := zNu_ge b w hw (m + 1) p l
    show zTo (bX3_shares F (fX3_shares F D) (nI p) (nI n) (nI w) (nI (zM3 l)) μ) _
    unfold bX3_shares
    rw [h56]
    by_cases h1 : zM3 l < t
    · rw [if_pos ((nI_ltI (by omega) (by omega)).mpr h1), if_pos ((nI_ltI (by omega) (by omega)).mpr (by omega)), e_bA hT (by omega), zBd_s]
      have k32 : ∀ q d f t2 μ2, d + q = w → q < f → t2 ≤ 3000 → zTB n b μ2 → (∀ i, i < 3 → μ2 57 i = nI (l i)) → μ2 56 1 = nI t2 → zTo (fX3_shares_32 F (fX3_shares F D) f (nI p) (nI n) (nI w) (nI (zM3 l)) (nI (b p)) (nI d) μ2) (fun _ μ1 => (∀ i, i < 3 → μ1 57 i = nI (l i)) ∧ μ1 56 1 = nI (zMf (fun d => zNu b w m (p + 1) (zAt b p d l)) q d t2) ∧ ∀ c, c ≠ 56 → c ≠ 57 → μ1 c = μ2 c) := by
        intro q
        induction q with
        | zero =>
          intro d f t2 μ2 hd hf ht2 hT2 g57 g56
          obtain ⟨f, rfl⟩ := z_s hf
          rw [fX3_shares_32, z_done (by omega) (by omega)]
          exact zTo_ret ⟨g57, g56, fun _ _ _ => rfl⟩
        | succ q ihq =>
          intro d f t2 μ2 hd hf ht2 hT2 g57 g56
          obtain ⟨f, rfl⟩ := z_s hf
          have hbp := hb p
          have hld := hl d (by omega)
          rw [fX3_shares_32, z_more (by omega) (by omega), zG_in rfl (by omega) (by decide), zG_in rfl (by omega) (by decide), nI_clamp (by omega), g57 d (by omega), nI_add]
          refine zTo_let fun m3 hm3e => ?_
          have hm3d : ∀ i, i < 3 → m3 57 i = nI (zAt b p d l i) := fun i hi => by
            rw [hm3e]
            by_cases e : i = d
            · subst e; rw [zUp_s]; unfold zAt; rw [uN_s]
            · rw [zUp_o e, g57 i hi]; unfold zAt; rw [uN_o e]
          have hfr3 : ∀ c, c ≠ 57 → m3 c = μ2 c := fun c hc => by rw [hm3e, zUp_ne hc]
          have e57 : zAt b p d l d = l d + b p := by unfold zAt; rw [uN_s]
          rw [zG_in rfl (by omega) (by decide), hm3d d (by omega), e57, e_max (by omega) (by omega), zBd_s, ← zM3_at (by omega), nI_add]
          refine zTo_bd (ih (p + 1) (zAt b p d l) t2 D m3 (by omega) (by omega) ht2 ?_ ⟨by rw [hfr3 1 (by decide)]; exact hT2.1, hT2.2.1, fun i hi => by rw [hfr3 2 (by decide)]; exact hT2.2.2 i hi⟩ hm3d (by rw [hfr3 56 (by decide)]; exact g56)) ?_
          · intro i hi
            have := hl i hi
            unfold zAt uN
            split <;> omega
          · rintro r4 m4 ⟨a1, a2, a3⟩
            have hmin : min t2 (zNu b w m (p + 1) (zAt b p d l)) ≤ 3000 := by omega
            rw [zG_in rfl (by omega) (by decide), zG_in rfl (by omega) (by decide), a1 d (by omega), e57, pk_sub (by omega), show l d + b p - b p = l d by omega, nI_add]
            refine zTo_let fun m5 hm5 => ?_
            refine (ihq (d + 1) f (min t2 (zNu b w m (p + 1) (zAt b p d l))) m5 (by omega) (by omega) hmin ?_ ?_ ?_).mono ?_
            · refine ⟨by rw [hm5, zUp_ne (by decide), a3 1 (by decide) (by decide), hfr3 1 (by decide)]; exact hT2.1, hT2.2.1, fun i hi => by rw [hm5, zUp_ne (by decide), a3 2 (by decide) (by decide), hfr3 2 (by decide)]; exact hT2.2.2 i hi⟩
            · intro i hi
              rw [hm5]
              by_cases e : i = d
              · subst e; rw [zUp_s]
              · rw [zUp_o e, a1 i hi]; unfold zAt; rw [uN_o e]
            · rw [hm5, zUp_ne (by decide), a2]
            · rintro r m6 ⟨c1, c2, c3⟩
              exact ⟨c1, c2, fun c x1 x2 => by rw [c3 c x1 x2, hm5, zUp_ne x2, a3 c x1 x2, hfr3 c x2]⟩
      refine (k32 w 0 F t μ (by omega) (by omega) ht hT h57 h56).mono ?_
      rintro r m6 ⟨c1, c2, c3⟩
      refine ⟨c1, ?_, c3⟩
      rw [c2]
      obtain ⟨w', rfl⟩ : ∃ w', w = w' + 1 := ⟨w - 1, by omega⟩
      show nI (zMf _ w' (0 + 1) (min t _)) = nI (min t (zMf _ (w' + 1 - 1) 1 _))
      rw [zMf_min]
      rfl
    · rw [if_neg (fun z => h1 ((nI_ltI (by omega) (by omega)).mp z))]
      exact zTo_ret ⟨h57, by rw [h56, Nat.min_eq_left (by omega)], fun _ _ _ => rfl⟩
/-- one way to share -/
def zVa (b : Nat → Nat) (w : Nat) : Nat → Nat → Nat → (Nat → Nat) → Nat
  | 0, _, _, l => zM3 l
  | m + 1, p, c, l => zVa b w m (p + 1) (c / w) (zAt b p (c % w) l)
theorem zVa_ge (b : Nat → Nat) (w : Nat) (hw : 2 ≤ w) : ∀ m p c l, zNu b w m p l ≤ zVa b w m p c l
  | 0, _, _, _ => Nat.le_refl _
  | m + 1, p, c, l => by
    show zMf (fun d => zNu b w m (p + 1) (zAt b p d l)) (w - 1) 1 (zNu b w m (p + 1) (zAt b p 0 l)) ≤ zVa b w m (p + 1) (c / w) (zAt b p (c % w) l)
    have h := zVa_ge b w hw m (p + 1) (c / w) (zAt b p (c % w) l)
    have hlt : c % w < w := Nat.mod_lt _ (by omega)
    refine Nat.le_trans ?_ h
    by_cases h0 : c % w = 0
    · rw [h0]; exact zMf_le _ _ _ _
    · exact zMf_at (fun d => zNu b w m (p + 1) (zAt b p d l)) (w - 1) 1 _ (c % w) (by omega) (by omega)
theorem zVa_ex (b : Nat → Nat) (w : Nat) (hw : 2 ≤ w) : ∀ m p l, ∃ c, c < w ^ m ∧ zVa b w m p c l = zNu b w m p l
  | 0, _, _ => ⟨0, by simp, rfl⟩
  | m + 1, p, l => by
    have key : ∃ d, d < w ∧ zNu b w (m + 1) p l = zNu b w m (p + 1) (zAt b p d l) := by
      rcases zMf_ex (fun d => zNu b w m (p + 1) (zAt b p d l)) (w - 1) 1 (zNu b w m (p + 1) (zAt b p 0 l)) with e | ⟨i, h1, h2, e⟩
      · exact ⟨0, by omega, e⟩
      · exact ⟨i, by omega, e⟩
    obtain ⟨d, hd, e⟩ := key
    obtain ⟨c, hc, e2⟩ := zVa_ex b w hw m (p + 1) (zAt b p d l)
    refine ⟨d + w * c, ?_, ?_⟩
    · rw [Nat.pow_succ]
      have : w * (c + 1) ≤ w * w ^ m := Nat.mul_le_mul_left w hc
      rw [Nat.mul_add] at this
      rw [Nat.mul_comm (w ^ m)]
      omega
    · show zVa b w m (p + 1) ((d + w * c) / w) (zAt b p ((d + w * c) % w) l) = _
      rw [Nat.add_mul_div_left _ _ (by omega), Nat.div_eq_of_lt hd, Nat.zero_add, Nat.add_mul_mod_self_left, Nat.mod_eq_of_lt hd, e2, e]
theorem zMf_eq {f : Nat → Nat} {m k a z : Nat} (h1 : ∀ i, k ≤ i → i < k + m → z ≤ f i) (h2 : ∃ i, k ≤ i ∧ i < k + m ∧ f i = z) (h3 : z ≤ a) : zMf f m k a = z := by
  obtain ⟨i, i1, i2, i3⟩ := h2
  have hle := zMf_at f m k a i i1 i2
  rcases zMf_ex f m k a with e | ⟨j, j1, j2, e⟩
  · omega
  · have := h1 j j1 j2
    omega
theorem zNu_all {b : Nat → Nat} {w n : Nat} {l : Nat → Nat} (hw : 2 ≤ w) (h : zNu b w n 0 l ≤ 1000000) : zMf (fun c => zVa b w n 0 c l) (w ^ n) 0 1000000 = zNu b w n 0 l := by
  obtain ⟨c, hc, e⟩ := zVa_ex b w hw n 0 l
  exact zMf_eq (fun i _ _ => zVa_ge b w hw n 0 i l) ⟨c, by omega, by omega, e⟩ h
def z3l (x y z : Nat) : Nat → Nat := fun i => if i = 0 then x else if i = 1 then y else if i = 2 then z else 0
theorem z3l_at (b : Nat → Nat) (p x y z : Nat) : zAt b p 0 (z3l x y z) = z3l (x + b p) y z ∧ zAt b p 1 (z3l x y z) = z3l x (y + b p) z ∧ zAt b p 2 (z3l x y z) = z3l x y (z + b p) := by
  refine ⟨?_, ?_, ?_⟩ <;> funext i <;> unfold zAt uN z3l
  · by_cases h : i = 0 <;> simp [h]
  · by_cases h : i = 1 <;> simp [h]
  · by_cases h : i = 2 <;> simp [h]
theorem z3l_m (x y z : Nat) : zM3 (z3l x y z) = max x (max y z) := rfl
theorem pr_nuns {F : Nat} (hF : 7000 ≤ F) (x y : Int32) : zPair (fX11_nuns F x y) (fX12_nuns F x y) := by
  refine zPair.mk fun A μ hW hC => ?_
  cases hz : zIn x 1 8
  · refine ⟨-1, A, μ, ?_, hW, hC, fun _ _ => rfl, fun μ' hM => ⟨μ', ?_, hM, fun _ _ => rfl⟩⟩
    · unfold fX11_nuns
      rw [e_isWithin, zBd_s, hz, z_bf]
    · unfold fX12_nuns
      rw [e_in, zBd_s, hz, z_bf]
  · cases hz2 : zIn y 2 3
    · refine ⟨-1, A, μ, ?_, hW, hC, fun _ _ => rfl, fun μ' hM => ⟨μ', ?_, hM, fun _ _ => rfl⟩⟩
      · unfold fX11_nuns
        rw [e_isWithin, zBd_s, hz, z_bt, e_isWithin, zBd_s, hz2, z_bf]
      · unfold fX12_nuns
        rw [e_in, zBd_s, hz, z_bt, e_in, zBd_s, hz2, z_bf]
    · obtain ⟨n, hn1, hn2, rfl⟩ := zIn_t (by decide) (by decide) hz
      obtain ⟨w, hw1, hw2, rfl⟩ := zIn_t (by decide) (by decide) hz2
      have hb := hW.1.2
      have hle := zNu_le hb w n 0 (z3l 0 0 0) 0 (fun i _ => by unfold z3l; split; omega; split; omega; split <;> omega)
      by_cases ht : n ≤ aT A
      · have hT0 := zOp_TB hW hC ht
        have k3 : ∀ q d f m, d + q = 3 → q < f → zTB n (aB A) m → (∀ i, i < d → m 57 i = nI 0) → (∀ c, c ≠ 57 → m c = zOp μ n c) → zTo (fX3_timeOfNuns_3 F f (nI n) (nI w) (nI d) m) (fun r m' => r = nI (zNu (aB A) w n 0 (z3l 0 0 0)) ∧ ∀ c, c ≠ 56 → c ≠ 57 → m' c = zOp μ n c) := by
          intro q
          induction q with
          | zero =>
            intro d f m hd hf hT h57 hfr
            obtain ⟨f, rfl⟩ := z_s hf
            rw [fX3_timeOfNuns_3, z_done (by omega) (by omega), pk_mul, nI_add]
            refine zTo_let fun m2 hm2 => ?_
            subst hm2
            have := e_shares (F := F) (by omega) hb hn2 hw1 hw2 n 0 (z3l 0 0 0) (n * 255 + 1) 20 (zUp m 56 1 (nI (n * 255 + 1))) (by omega) (by omega) (by omega) (fun i _ => by unfold z3l; split; omega; split; omega; split <;> omega) (hT.up (by decide) (by decide)) (fun i hi => by
              rw [zUp_ne (by decide), h57 i (by omega)]
              unfold z3l
              split; rfl; split; rfl; split <;> rfl) (zUp_s _ _ _ _)
            rw [z3l_m] at this
            refine zTo_bd this ?_
            rintro r m3 ⟨a1, a2, a3⟩
            refine zTo_ret ⟨?_, fun c h1 h2 => by rw [a3 c h1 h2, zUp_ne h1, hfr c h2]⟩
            rw [a2, Nat.min_eq_right (by omega)]
          | succ q ih =>
            intro d f m hd hf hT h57 hfr
            obtain ⟨f, rfl⟩ := z_s hf
            rw [fX3_timeOfNuns_3, z_more (by omega) (by decide), zG_in rfl (by omega) (by decide), nI_clamp (by omega), nI_add]
            refine zTo_let fun m2 hm2 => ?_
            subst hm2
            refine ih (d + 1) f _ (by omega) (by omega) (hT.up (by decide) (by decide)) (fun i hi => ?_) (fun c hc => by rw [zUp_ne hc, hfr c hc])
            by_cases e : i = d
            · subst e; rw [zUp_s]
            · rw [zUp_o e, h57 i (by omega)]
        obtain ⟨r, m, e1, rfl, hfr⟩ := k3 3 0 F (zOp μ n) (by omega) (by omega) hT0 (fun i hi => by omega) (fun _ _ => rfl)
        refine ⟨nI (zNu (aB A) w n 0 (z3l 0 0 0)), aST A 0 (aB A), zUp m 1 1 (nI 0), ?_, hW.tape (by omega) hb, rc_desk hC (fun c hc => hfr c (by omega) (by omega)), fun c hc => by rw [zUp_ne (by omega), hfr c (by omega) (by omega), zOp_ne (by omega)], fun μ' hM => ?_⟩
        · unfold fX11_nuns fX3_timeOfNuns
          rw [e_isWithin, zBd_s, hz, z_bt, e_isWithin, zBd_s, hz2, z_bt, e_opens_t hC.1.1 hW.1.1 ht, zBd_s, z_bt, e1, zBd_s, e_empties, zBd_s]
        · have hO := zUp_TO hW hM ht
          have hw0 : ¬ nI w = 0 := fun z => by have := (nI_z (by omega)).mp z; omega
          have m85 : ∀ (K : Int32 → Int32 → Int32 → Int32 → Int32 → zMem → Option zR) (v3 : Int32) (t c : Nat), t ≤ 1000000 → ∀ j k rest a b d f, k + j = n → j < f → rest < 2 ^ 31 → a ≤ 256 * k → b ≤ 256 * k → d ≤ 256 * k → fX12_nuns_85 F K f (nI n) (nI w) v3 (nI t) (nI c) (nI rest) (nI a) (nI b) (nI d) (nI k) (zUp μ' 60 9 (nI 0)) = K (nI n) (nI w) v3 (nI (min t (zVa (aB A) w j k rest (z3l a b d)))) (nI (c + 1)) (zUp μ' 60 9 (nI 0)) := by
            intro K v3 t c ht2 j
            induction j with
            | zero =>
              intro k rest a b d f hk hf hr ha hbb hd
              obtain ⟨f, rfl⟩ := z_s hf
              rw [fX12_nuns_85, z_done (by omega) (by omega), e_mmax (by omega) (by omega), zBd_s, e_mmax (by omega) (by omega), zBd_s, e_mmin (by omega) (by omega), zBd_s, nI_add]
              rfl
            | succ j ih =>
              intro k rest a b d f hk hf hr ha hbb hd
              obtain ⟨f, rfl⟩ := z_s hf
              have hbk := hb k
              have hdv : rest / w ≤ rest := Nat.div_le_self _ _
              have hml : rest % w < w := Nat.mod_lt _ (by omega)
              have k128 : ∀ b1 a1 : Nat, fX12_nuns_128 F K (fX12_nuns_85 F K f) (nI n) (nI w) v3 (nI t) (nI c) (nI rest) (nI a1) (nI b1) (nI d) (nI k) (zUp μ' 60 9 (nI 0)) = if rest % w = 2 then fX12_nuns_85 F K f (nI n) (nI w) v3 (nI t) (nI c) (nI (rest / w)) (nI a1) (nI b1) (nI (d + aB A k)) (nI (k + 1)) (zUp μ' 60 9 (nI 0)) else fX12_nuns_85 F K f (nI n) (nI w) v3 (nI t) (nI c) (nI (rest / w)) (nI a1) (nI b1) (nI d) (nI (k + 1)) (zUp μ' 60 9 (nI 0)) := by
                intro b1 a1
                unfold fX12_nuns_128
                rw [zGz_in hw0, nI_mod hr (by omega) (by omega), nI_eqn (by omega) (by decide), e_oc hO (by omega), zBd_s, zGz_in hw0, zGz_in hw0, pk_div hr (by omega) (by omega), nI_add, nI_add]
              have k109 : ∀ a1 : Nat, fX12_nuns_109 F K (fX12_nuns_85 F K f) (nI n) (nI w) v3 (nI t) (nI c) (nI rest) (nI a1) (nI b) (nI d) (nI k) (zUp μ' 60 9 (nI 0)) = if rest % w = 1 then fX12_nuns_85 F K f (nI n) (nI w) v3 (nI t) (nI c) (nI (rest / w)) (nI a1) (nI (b + aB A k)) (nI d) (nI (k + 1)) (zUp μ' 60 9 (nI 0)) else if rest % w = 2 then fX12_nuns_85 F K f (nI n) (nI w) v3 (nI t) (nI c) (nI (rest / w)) (nI a1) (nI b) (nI (d + aB A k)) (nI (k + 1)) (zUp μ' 60 9 (nI 0)) else fX12_nuns_85 F K f (nI n) (nI w) v3 (nI t) (nI c) (nI (rest / w)) (nI a1) (nI b) (nI d) (nI (k + 1)) (zUp μ' 60 9 (nI 0)) := by
                intro a1
                unfold fX12_nuns_109
                rw [zGz_in hw0, nI_mod hr (by omega) (by omega), nI_eqn (by omega) (by decide), e_oc hO (by omega), zBd_s, nI_add, k128, k128]
                by_cases h1 : rest % w = 1
                · rw [if_pos h1, if_pos h1, if_neg (by omega)]
                · rw [if_neg h1, if_neg h1]
              rw [fX12_nuns_85, z_more (by omega) (by omega), zGz_in hw0, nI_mod hr (by omega) (by omega), show (0 : Int32) = nI 0 from rfl, nI_eqn (by omega) (by decide), e_oc hO (by omega), zBd_s, nI_add, k109, k109]
              show _ = K (nI n) (nI w) v3 (nI (min t (zVa (aB A) w j (k + 1) (rest / w) (zAt (aB A) k (rest % w) (z3l a b d))))) (nI (c + 1)) (zUp μ' 60 9 (nI 0))
              obtain ⟨q0, q1, q2⟩ := z3l_at (aB A) k a b d
              by_cases h0 : rest % w = 0
              · rw [if_pos h0, if_neg (by omega), if_neg (by omega), h0, q0]
                exact ih (k + 1) _ _ _ _ f (by omega) (by omega) (by omega) (by omega) (by omega) (by omega)
              · rw [if_neg h0]
                by_cases h1 : rest % w = 1
                · rw [if_pos h1, h1, q1]
                  exact ih (k + 1) _ _ _ _ f (by omega) (by omega) (by omega) (by omega) (by omega) (by omega)
                · have h2 : rest % w = 2 := by omega
                  rw [if_neg h1, if_pos h2, h2, q2]
                  exact ih (k + 1) _ _ _ _ f (by omega) (by omega) (by omega) (by omega) (by omega) (by omega)
          have hpw : w ^ n ≤ 6561 := by
            have h1 : w ^ n ≤ 3 ^ n := Nat.pow_le_pow_left hw2 n
            have h2 : 3 ^ n ≤ 3 ^ 8 := Nat.pow_le_pow_right (by decide) hn2
            omega
          have m63 : ∀ j k t f, k + j = w ^ n → j < f → t ≤ 1000000 → fX12_nuns_63 F f (nI n) (nI w) (nI (w ^ n)) (nI t) (nI k) (zUp μ' 60 9 (nI 0)) = some (nI (zMf (fun c => zVa (aB A) w n 0 c (z3l 0 0 0)) j k t), zUp μ' 60 9 (nI 0)) := by
            intro j
            induction j with
            | zero =>
              intro k t f hk hf ht2
              obtain ⟨f, rfl⟩ := z_s hf
              rw [fX12_nuns_63, z_done (by omega) (by omega)]
              rfl
            | succ j ih =>
              intro k t f hk hf ht2
              obtain ⟨f, rfl⟩ := z_s hf
              rw [fX12_nuns_63, z_more (by omega) (by omega), m85 _ _ _ _ ht2 n 0 k 0 0 0 F (by omega) (by omega) (by omega) (by omega) (by omega) (by omega)]
              exact ih (k + 1) _ f (by omega) (by omega) (by omega)
          have m39 : ∀ j k f, k + j = n → j < f → fX12_nuns_39 F f (nI n) (nI w) (nI (w ^ k)) (nI k) (zUp μ' 60 9 (nI 0)) = some (nI (zNu (aB A) w n 0 (z3l 0 0 0)), zUp μ' 60 9 (nI 0)) := by
            intro j
            induction j with
            | zero =>
              intro k f hk hf
              obtain ⟨f, rfl⟩ := z_s hf
              have : k = n := by omega
              subst this
              rw [fX12_nuns_39, z_done (by omega) (by omega), m63 (w ^ k) 0 1000000 F (by omega) (by omega) (by omega), zNu_all hw1 (by omega)]
            | succ j ih =>
              intro k f hk hf
              obtain ⟨f, rfl⟩ := z_s hf
              rw [fX12_nuns_39, z_more (by omega) (by omega), pk_mul, nI_add, ← Nat.pow_succ]
              exact ih (k + 1) f (by omega) (by omega)
          refine ⟨zUp μ' 60 9 (nI 0), ?_, rm_desk hM (fun _ _ _ => rfl), fun c hc => zUp_ne (by omega)⟩
          unfold fX12_nuns
          rw [e_in, zBd_s, hz, z_bt, e_in, zBd_s, hz2, z_bt, hM.1.1, if_pos ((nI_leI (by omega) (by have := hW.1.1; omega)).mpr ht)]
          have := m39 n 0 F (by omega) (by omega)
          rw [Nat.pow_zero] at this
          exact this
      · refine ⟨-1, A, μ, ?_, hW, hC, fun _ _ => rfl, fun μ' hM => ⟨μ', ?_, hM, fun _ _ => rfl⟩⟩
        · unfold fX11_nuns
          rw [e_isWithin, zBd_s, hz, z_bt, e_isWithin, zBd_s, hz2, z_bt, e_opens_f hC.1.1 hW.1.1 (by omega) (by omega), zBd_s, z_bf]
        · unfold fX12_nuns
          rw [e_in, zBd_s, hz, z_bt, e_in, zBd_s, hz2, z_bt, hM.1.1, if_neg (fun z => ht ((nI_leI (by omega) (by have := hW.1.1; omega)).mp z))]
