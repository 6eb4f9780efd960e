/-! ===== mostPrinted, pair, reached ===== -/
/-- how many whispers of the first K slots are so -/
def zN1 (s : zPS) (P : Nat → Bool) (q : Nat) : Nat := fb_ct (fun j => P (pW s q j)) (pP s q)
def zN (s : zPS) (P : Nat → Bool) : Nat := fb_sm (zN1 s P) (min (pw s) 20)
theorem rot_r (g : Nat → Nat) : ∀ r, r < 20 → fb_sm (fun i => g ((r + 19 - i) % 20)) 20 = fb_sm g 20 := by
  intro r hr
  have : r = 0 ∨ r = 1 ∨ r = 2 ∨ r = 3 ∨ r = 4 ∨ r = 5 ∨ r = 6 ∨ r = 7 ∨ r = 8 ∨ r = 9 ∨ r = 10 ∨ r = 11 ∨ r = 12 ∨ r = 13 ∨ r = 14 ∨ r = 15 ∨ r = 16 ∨ r = 17 ∨ r = 18 ∨ r = 19 := by omega
  rcases this with rfl | rfl | rfl | rfl | rfl | rfl | rfl | rfl | rfl | rfl | rfl | rfl | rfl | rfl | rfl | rfl | rfl | rfl | rfl | rfl <;> simp only [fb_sm, Nat.reduceAdd, Nat.reduceSub, Nat.reduceMod] <;> omega
theorem rev_r (g : Nat → Nat) : ∀ n, fb_sm (fun i => g (n - (i + 1))) n = fb_sm g n
  | 0 => rfl
  | n + 1 => by
    have h := fb_sm_split (fun i => g (n + 1 - (i + 1))) 1 n
    rw [Nat.add_comm 1 n] at h
    rw [h]
    have e : fb_sm (fun k => (fun i => g (n + 1 - (i + 1))) (1 + k)) n = fb_sm (fun i => g (n - (i + 1))) n := fb_sm_cong (fun k _ => by show g (n + 1 - (1 + k + 1)) = g (n - (k + 1)); congr 1; omega)
    rw [e, rev_r g n, fb_sm_succ]
    show 0 + g (n + 1 - (0 + 1)) + fb_sm g n = fb_sm g n + g n
    rw [show n + 1 - (0 + 1) = n by omega]
    omega
theorem zN_rot (w : Nat) (g : Nat → Nat) : fb_sm (fun i => g ((w - (i + 1)) % 20)) (min w 20) = fb_sm g (min w 20) := by
  by_cases h : w < 20
  · rw [Nat.min_eq_left (by omega), ← rev_r g w]
    exact fb_sm_cong (fun i hi => by show g ((w - (i + 1)) % 20) = g (w - (i + 1)); rw [Nat.mod_eq_of_lt (by omega)])
  · rw [Nat.min_eq_right (by omega), ← rot_r g (w % 20) (Nat.mod_lt _ (by decide))]
    exact fb_sm_cong (fun i hi => by show g ((w - (i + 1)) % 20) = g ((w % 20 + 19 - i) % 20); congr 1; omega)
theorem zN1_le (s : zPS) (P : Nat → Bool) {q : Nat} (hw : zWFS s) (hq : q < 20) : zN1 s P q ≤ 16 := Nat.le_trans (fb_ct_le _ _) (hw.2.2.2.2.2.2.1 q hq)
theorem zN_le (s : zPS) (P : Nat → Bool) (hw : zWFS s) : zN s P ≤ 320 := by
  have h := fb_sm_bound (f := zN1 s P) (c := 16) (n := min (pw s) 20) (fun k hk => zN1_le s P hw (by omega))
  have h2 : min (pw s) 20 ≤ 20 := Nat.min_le_right _ _
  unfold zN
  have : min (pw s) 20 * 16 ≤ 20 * 16 := Nat.mul_le_mul_right 16 h2
  omega
theorem zN_cong {s : zPS} {P Q : Nat → Bool} (h : ∀ w, P w = Q w) : zN s P = zN s Q := by rw [show P = Q from funext h]
/-- whispers of the pair x: from whom times 16 and to whom -/
def zPx (x w : Nat) : Bool := decide (16 * (w % 16) + w / 16 % 16 = x)
theorem zN_split {s : zPS} (t : Nat) (ht : t < 16) : fb_sm (fun q => zN s (zPx (16 * q + t))) 16 = zN s (fun w => decide (w / 16 % 16 = t)) := by
  have one : ∀ w, fb_sm (fun q => if zPx (16 * q + t) w then 1 else 0) 16 = if decide (w / 16 % 16 = t) then 1 else 0 := by
    intro w
    by_cases h : w / 16 % 16 = t
    · have e1 : ∀ r, r < 16 → fb_sm (fun q => if q = r then 1 else 0) 16 = 1 := by decide
      rw [if_pos (decide_eq_true h)]
      refine Eq.trans (fb_sm_cong (fun q hq => ?_)) (e1 (w % 16) (Nat.mod_lt _ (by decide)))
      by_cases hq2 : q = w % 16
      · rw [if_pos hq2, if_pos (show zPx (16 * q + t) w = true from decide_eq_true (by omega))]
      · rw [if_neg hq2, if_neg (fun z => hq2 (by have := of_decide_eq_true z; omega))]
    · have e1 : fb_sm (fun _ => 0) 16 = 0 := by decide
      rw [if_neg (fun z => h (of_decide_eq_true z))]
      exact Eq.trans (fb_sm_cong (fun q hq => if_neg (fun z => h (by have := of_decide_eq_true z; omega)))) e1
  have two : ∀ (f : Nat → Nat) n, fb_sm (fun q => fb_ct (fun j => zPx (16 * q + t) (f j)) n) 16 = fb_ct (fun j => decide (f j / 16 % 16 = t)) n := by
    intro f n
    induction n with
    | zero => rfl
    | succ n ih =>
      rw [fb_ct_succ, ← ih, ← one, ← fb_sm_add]
      rfl
  have three : ∀ n, fb_sm (fun q => fb_sm (zN1 s (zPx (16 * q + t))) n) 16 = fb_sm (zN1 s (fun w => decide (w / 16 % 16 = t))) n := by
    intro n
    induction n with
    | zero => rfl
    | succ n ih =>
      rw [fb_sm_succ (zN1 s (fun w => decide (w / 16 % 16 = t))), ← ih]
      have := two (pW s n) (pP s n)
      rw [show zN1 s (fun w => decide (w / 16 % 16 = t)) n = fb_ct (fun j => decide (pW s n j / 16 % 16 = t)) (pP s n) from rfl, ← this, ← fb_sm_add]
      rfl
  exact three _
/-! the class's tallies -/
theorem e_tallies {F : Nat} {s : zPS} {μ : zMem} (hF : 300 ≤ F) (hr0 : zRepS 3 s μ) (hw : zWFS s) : zTo (fX0_tallies F 3 μ) (fun _ μ1 => (∀ x, x < 256 → μ1 55 x = nI (zN s (zPx x))) ∧ ∀ c, c ≠ 55 → μ1 c = μ c) := by
  have h20 : min (pw s) 20 ≤ 20 := Nat.min_le_right _ _
  have hR : ∀ m, (∀ c, c ≠ 55 → m c = μ c) → zRepS 3 s m := fun m h => hr0.of (fun k h1 h2 => h k (by omega))
  have k34 : ∀ (K : Int32 → zMem → Option zR) (Q : Int32 → zMem → Prop) (q : Nat), q < min (pw s) 20 → (∀ m, (∀ c, c ≠ 55 → m c = μ c) → (∀ x, x < 256 → m 55 x = nI (fb_sm (zN1 s (zPx x)) (q + 1))) → zTo (K (nI (q + 1)) m) Q) → ∀ d j f m, j + d = pP s q → d < f → (∀ c, c ≠ 55 → m c = μ c) → (∀ x, x < 256 → m 55 x = nI (fb_sm (zN1 s (zPx x)) q + fb_ct (fun j => zPx x (pW s q j)) j)) → zTo (fX0_tallies_34 F 3 K f (nI q) (nI j) m) Q := by
    intro K Q q hq hK d
    have h16 := hw.2.2.2.2.2.2.1 q (by omega)
    induction d with
    | zero =>
      intro j f m hj hf hfr h55
      obtain ⟨f, rfl⟩ := z_s hf
      have hj : j = pP s q := by omega
      subst hj
      have hP := (hR m hfr).2.2.2.2.2.2.1 q (by omega)
      rw [fX0_tallies_34, zG_in rfl (by omega) (by decide), nI_clamp (by omega), hP, z_done (by omega) (by omega), nI_add]
      exact hK m hfr h55
    | succ d ih =>
      intro j f m hj hf hfr h55
      obtain ⟨f, rfl⟩ := z_s hf
      have hP := (hR m hfr).2.2.2.2.2.2.1 q (by omega)
      have hW := hw.2.2.2.2.2.2.2.1 q j (by omega) (by omega)
      have hx : 16 * (pW s q j % 16) + pW s q j / 16 % 16 < 256 := by omega
      rw [fX0_tallies_34, zG_in rfl (by omega) (by decide), nI_clamp (by omega), hP, z_more (by omega) (by omega), e_whisperOf (hR m hfr) hw (by omega) (by omega), zBd_s, e_fromOf, zBd_s, e_toOf hW, zBd_s, pk_mul, nI_add, Nat.mul_comm (pW s q j % 16), zG_in rfl (by omega) (by decide), zG_in rfl (by omega) (by decide), nI_clamp (by omega), h55 _ hx, nI_add, nI_add]
      refine zTo_let fun m2 hm2 => ?_
      refine ih (j + 1) f m2 (by omega) (by omega) (fun c hc => by rw [hm2, zUp_ne hc, hfr c hc]) (fun x hx2 => ?_)
      rw [fb_ct_succ, hm2]
      by_cases e : x = 16 * (pW s q j % 16) + pW s q j / 16 % 16
      · rw [← e, zUp_s, if_pos (show zPx x (pW s q j) = true from decide_eq_true e.symm), Nat.add_assoc]
      · rw [zUp_o e, if_neg (fun z => e (of_decide_eq_true z).symm), h55 x hx2, Nat.add_zero]
  have k24 : ∀ d q f m, q + d = min (pw s) 20 → d < f → (∀ c, c ≠ 55 → m c = μ c) → (∀ x, x < 256 → m 55 x = nI (fb_sm (zN1 s (zPx x)) q)) → zTo (fX0_tallies_24 F 3 f (nI q) m) (fun _ μ1 => (∀ x, x < 256 → μ1 55 x = nI (zN s (zPx x))) ∧ ∀ c, c ≠ 55 → μ1 c = μ c) := by
    intro d
    induction d with
    | zero =>
      intro q f m hq hf hfr h55
      obtain ⟨f, rfl⟩ := z_s hf
      have hq : q = min (pw s) 20 := by omega
      subst hq
      rw [fX0_tallies_24, e_issues (hR m hfr) hw, zBd_s, z_done (by omega) (by omega)]
      exact zTo_ret ⟨h55, hfr⟩
    | succ d ih =>
      intro q f m hq hf hfr h55
      obtain ⟨f, rfl⟩ := z_s hf
      have h16 := hw.2.2.2.2.2.2.1 q (by omega)
      rw [fX0_tallies_24, e_issues (hR m hfr) hw, zBd_s, z_more (by omega) (by omega)]
      exact k34 _ _ q (by omega) (fun m2 g1 g2 => ih (q + 1) f m2 (by omega) (by omega) g1 g2) (pP s q) 0 F m (by omega) (by omega) hfr (fun x hx => by rw [h55 x hx]; rfl)
  have k2 : ∀ d x f m, x + d = 256 → d < f → (∀ c, c ≠ 55 → m c = μ c) → (∀ y, y < x → m 55 y = nI 0) → zTo (fX0_tallies_2 F 3 f (nI x) m) (fun _ μ1 => (∀ x, x < 256 → μ1 55 x = nI (zN s (zPx x))) ∧ ∀ c, c ≠ 55 → μ1 c = μ c) := by
    intro d
    induction d with
    | zero =>
      intro x f m hx hf hfr h55
      obtain ⟨f, rfl⟩ := z_s hf
      rw [fX0_tallies_2, z_done (by omega) (by omega)]
      exact k24 (min (pw s) 20) 0 F m (by omega) (by omega) hfr (fun y hy => h55 y (by omega))
    | succ d ih =>
      intro x f m hx hf hfr h55
      obtain ⟨f, rfl⟩ := z_s hf
      rw [fX0_tallies_2, z_more (by omega) (by decide), zG_in rfl (by omega) (by decide), nI_clamp (by omega), nI_add]
      refine zTo_let fun m2 hm2 => ?_
      refine ih (x + 1) f m2 (by omega) (by omega) (fun c hc => by rw [hm2, zUp_ne hc, hfr c hc]) (fun y hy => ?_)
      rw [hm2]
      by_cases e : y = x
      · rw [e, zUp_s]
      · rw [zUp_o e, h55 y (by omega)]
  exact k2 256 0 F μ (by omega) (by omega) (fun _ _ => rfl) (fun y hy => by omega)
/-! the reference's count -/
def zPf (v : Int32) (t w : Nat) : Bool := decide (w / 16 % 16 = t) && (decide (v = -1) || decide (nI (w % 16) = v))
theorem e_often {F t : Nat} {v : Int32} {s : zPS} {μ : zMem} (hF : 30 ≤ F) (hr : zRepN 61 s μ) (hw : zWFS s) (ht : t < 16) : fX12_oftenPrinted F v (nI t) μ = some (nI (zN s (zPf v t)), μ) := by
  have h20 : min (pw s) 20 ≤ 20 := Nat.min_le_right _ _
  have k17 : ∀ (K : Int32 → Int32 → Int32 → Int32 → zMem → Option zR) (i : Nat), i + 1 ≤ min (pw s) 20 → ∀ d j a f, j + d = pP s ((pw s - (i + 1)) % 20) → d < f → fX12_oftenPrinted_17 F K f v (nI t) (nI (a + fb_ct (fun j => zPf v t (pW s ((pw s - (i + 1)) % 20) j)) j)) (nI (i + 1)) (nI j) μ = K v (nI t) (nI (a + zN1 s (zPf v t) ((pw s - (i + 1)) % 20))) (nI (i + 1 + 1)) μ := by
    intro K i hi d
    have hq : (pw s - (i + 1)) % 20 < 20 := Nat.mod_lt _ (by decide)
    have h16 := hw.2.2.2.2.2.2.1 _ hq
    have hP := hr.2.2.2.2.1 _ hq
    induction d with
    | zero =>
      intro j a f hj hf
      obtain ⟨f, rfl⟩ := z_s hf
      have hj : j = pP s ((pw s - (i + 1)) % 20) := by omega
      subst hj
      rw [fX12_oftenPrinted_17, e_issueOf hr hw (by omega), zBd_s, nI_add, zG_in rfl (by omega) (by decide), nI_clamp (by omega), hP, z_done (by omega) (by omega), nI_add]
      rfl
    | succ d ih =>
      intro j a f hj hf
      obtain ⟨f, rfl⟩ := z_s hf
      have hW := hw.2.2.2.2.2.2.2.1 _ j hq (by omega)
      have hih := ih (j + 1) a f (by omega) (by omega)
      rw [fb_ct_succ] at hih
      rw [fX12_oftenPrinted_17, e_issueOf hr hw (by omega), zBd_s, nI_add, zG_in rfl (by omega) (by decide), nI_clamp (by omega), hP, z_more (by omega) (by omega), e_printedOf hr hw (by omega) (by omega) (by decide), zBd_s, if_neg (show ¬ 1 = 0 by decide), if_pos rfl, nI_eqn (by omega) (by omega), e_printedOf hr hw (by omega) (by omega) (by decide), zBd_s, if_pos rfl, nI_add, nI_add]
      by_cases h1 : pW s ((pw s - (i + 1)) % 20) j / 16 % 16 = t
      · rw [if_pos h1]
        by_cases h2 : v = -1
        · rw [if_pos h2]
          rw [if_pos (show zPf v t (pW s ((pw s - (i + 1)) % 20) j) = true by unfold zPf; rw [decide_eq_true h1, decide_eq_true h2]; rfl), ← Nat.add_assoc] at hih
          exact hih
        · rw [if_neg h2]
          by_cases h3 : nI (pW s ((pw s - (i + 1)) % 20) j % 16) = v
          · rw [if_pos h3]
            rw [if_pos (show zPf v t (pW s ((pw s - (i + 1)) % 20) j) = true by unfold zPf; rw [decide_eq_true h1, decide_eq_true h3, Bool.or_true]; rfl), ← Nat.add_assoc] at hih
            exact hih
          · rw [if_neg h3]
            rw [if_neg (show ¬ zPf v t (pW s ((pw s - (i + 1)) % 20) j) = true by unfold zPf; rw [decide_eq_true h1, decide_eq_false h2, decide_eq_false h3]; decide), Nat.add_zero] at hih
            exact hih
      · rw [if_neg h1]
        rw [if_neg (show ¬ zPf v t (pW s ((pw s - (i + 1)) % 20) j) = true by unfold zPf; rw [decide_eq_false h1]; simp), Nat.add_zero] at hih
        exact hih
  have k5 : ∀ d i f, i + d = min (pw s) 20 → d < f → fX12_oftenPrinted_5 F f v (nI t) (nI (fb_sm (fun i => zN1 s (zPf v t) ((pw s - (i + 1)) % 20)) i)) (nI (i + 1)) μ = some (nI (zN s (zPf v t)), μ) := by
    intro d
    induction d with
    | zero =>
      intro i f hi hf
      obtain ⟨f, rfl⟩ := z_s hf
      have hi : i = min (pw s) 20 := by omega
      subst hi
      rw [fX12_oftenPrinted_5, e_backMany hr hw, zBd_s, if_pos ((nI_ltI (by omega) (by omega)).mpr (by omega)), zN_rot]
      rfl
    | succ d ih =>
      intro i f hi hf
      obtain ⟨f, rfl⟩ := z_s hf
      have hq : (pw s - (i + 1)) % 20 < 20 := Nat.mod_lt _ (by decide)
      have h16 := hw.2.2.2.2.2.2.1 _ hq
      rw [fX12_oftenPrinted_5, e_backMany hr hw, zBd_s, if_neg (fun z => by have := (nI_ltI (by omega) (by omega)).mp z; omega)]
      have := k17 (fX12_oftenPrinted_5 F f) i (by omega) (pP s ((pw s - (i + 1)) % 20)) 0 (fb_sm (fun i => zN1 s (zPf v t) ((pw s - (i + 1)) % 20)) i) F (by omega) (by omega)
      refine this.trans ?_
      exact ih (i + 1) f (by omega) (by omega)
  exact k5 (min (pw s) 20) 0 F (by omega) (by omega)
/-- the first one of whom something is most -/
def zMx (g : Nat → Nat) (m k b : Nat) : Nat := zFold (fun k b => if g k ≤ g b then b else k) m k b
theorem zMx_lt (g : Nat → Nat) : ∀ m k b N, k + m ≤ N → b < N → zMx g m k b < N
  | 0, _, _, _, _, h => h
  | m + 1, k, b, N, h1, h2 => zMx_lt g m (k + 1) _ N (by omega) (by dsimp only; split <;> omega)
