theorem zPf_m1 (t w : Nat) : zPf (-1) t w = decide (w / 16 % 16 = t) := by
  unfold zPf
  rw [decide_eq_true rfl, Bool.true_or, Bool.and_true]
theorem zPf_p {p t w : Nat} (hp : p < 16) (ht : t < 16) : zPf (nI p) t w = zPx (16 * p + t) w := by
  unfold zPf zPx
  rw [decide_eq_false (nI_m1 (by omega)), Bool.false_or, ← Bool.decide_and]
  refine decide_eq_decide.mpr ⟨fun z => ?_, fun z => ⟨by omega, ?_⟩⟩
  · have := (nI_eq (by omega) (by omega)).mp z.2
    omega
  · exact (nI_eq (by omega) (by omega)).mpr (by omega)
def zMst (g : Nat → Nat) (x b : Nat) : Nat := if x = 0 then 0 else g b
def zMsv (g : Nat → Nat) (v : Nat → Nat) (x b : Nat) : Int32 := if zMst g x b = 0 then -2 else nI (v b)
theorem zMs_t {g v : Nat → Nat} {x b : Nat} (hb : x = 0 → b = 0) (h : zMst g x b < g x) : zMsv g v (x + 1) (if g x ≤ g b then b else x) = nI (v x) ∧ zMst g (x + 1) (if g x ≤ g b then b else x) = g x := by
  unfold zMsv zMst at *
  rw [if_neg (show ¬ x + 1 = 0 by omega)]
  by_cases h0 : x = 0
  · subst h0
    rw [if_pos rfl] at h
    have hb := hb rfl
    subst hb
    rw [if_pos (Nat.le_refl _), if_neg (by omega)]
    exact ⟨rfl, rfl⟩
  · rw [if_neg h0] at h
    rw [if_neg (show ¬ g x ≤ g b by omega), if_neg (show ¬ g x = 0 by omega)]
    exact ⟨rfl, rfl⟩
theorem zMs_f {g v : Nat → Nat} {x b : Nat} (hb : x = 0 → b = 0) (h : ¬ zMst g x b < g x) : zMsv g v (x + 1) (if g x ≤ g b then b else x) = zMsv g v x b ∧ zMst g (x + 1) (if g x ≤ g b then b else x) = zMst g x b := by
  unfold zMsv zMst at *
  rw [if_neg (show ¬ x + 1 = 0 by omega)]
  by_cases h0 : x = 0
  · subst h0
    rw [if_pos rfl] at h ⊢
    have hb := hb rfl
    subst hb
    rw [if_pos (Nat.le_refl _), if_pos (by omega), if_pos rfl]
    exact ⟨rfl, by omega⟩
  · rw [if_neg h0] at h ⊢
    rw [if_pos (show g x ≤ g b by omega)]
    exact ⟨rfl, rfl⟩
theorem zMx_0 (g : Nat → Nat) (m : Nat) : zMx g (m + 1) 0 0 = zMx g m 1 0 := by
  show zMx g m (0 + 1) (if g 0 ≤ g 0 then 0 else 0) = _
  rw [if_pos (Nat.le_refl _)]
def zTo16 (s : zPS) (t : Nat) : Nat := zN s (fun w => decide (w / 16 % 16 = t))
theorem e_timesTo {F t : Nat} {s : zPS} {m : zMem} (hF : 20 ≤ F) (h55 : ∀ x, x < 256 → m 55 x = nI (zN s (zPx x))) (ht : t < 16) : fX0_timesTo F (nI t) m = some (nI (zTo16 s t), m) := by
  have key : ∀ d q f, q + d = 16 → d < f → fX0_timesTo_4 F f (nI t) (nI (fb_sm (fun q => zN s (zPx (16 * q + t))) q)) (nI q) m = some (nI (fb_sm (fun q => zN s (zPx (16 * q + t))) 16), m) := by
    intro d
    induction d with
    | zero =>
      intro q f hq hf
      obtain ⟨f, rfl⟩ := z_s hf
      have hq : q = 16 := by omega
      subst hq
      rw [fX0_timesTo_4, z_done (by omega) (by omega)]
    | succ d ih =>
      intro q f hq hf
      obtain ⟨f, rfl⟩ := z_s hf
      rw [fX0_timesTo_4, z_more (by omega) (by decide), pk_mul, nI_add, zG_in rfl (by omega) (by decide), nI_clamp (by omega), h55 _ (by omega), nI_add, nI_add, Nat.mul_comm q 16]
      exact ih (q + 1) f (by omega) (by omega)
  have := key 16 0 F rfl (by omega)
  rw [zN_split t ht] at this
  exact this
theorem pr_mostPrinted {F : Nat} (hF : 300 ≤ F) (w : Int32) : zPair (fX11_mostPrinted F w) (fX12_mostPrinted F w) := by
  refine zPair.mk fun A μ hW hC => ?_
  cases hz : zIn w 0 1
  · refine ⟨-1, A, μ, ?_, hW, hC, fun _ _ => rfl, fun μ' hM => ⟨μ', ?_, hM, fun _ _ => rfl⟩⟩
    · unfold fX11_mostPrinted
      rw [e_isWithin, zBd_s, hz, z_bf]
    · unfold fX12_mostPrinted
      rw [e_in, zBd_s, hz, z_bf]
  · obtain ⟨w0, -, hw0, rfl⟩ := zIn_t (by decide) (by decide) hz
    have hws := hW.2.1
    have hle : ∀ t, zTo16 (aN A) t ≤ 320 := fun t => zN_le _ _ hws
    obtain ⟨r, m, e1, h55, hfr⟩ := e_tallies hF hC.2.1 hws
    have hlt : zMx (zTo16 (aN A)) 15 1 0 < 16 := zMx_lt _ _ _ _ 16 (by omega) (by omega)
    have k4 : ∀ d k b f, k + d = 16 → b < 16 → d < f → fX0_mostWhisperedTo_4 F f (nI b) (nI k) m = some (nI (zMx (zTo16 (aN A)) d k b), m) := by
      intro d
      induction d with
      | zero =>
        intro k b f hk hb hf
        obtain ⟨f, rfl⟩ := z_s hf
        rw [fX0_mostWhisperedTo_4, z_done (by omega) (by omega)]
        rfl
      | succ d ih =>
        intro k b f hk hb hf
        obtain ⟨f, rfl⟩ := z_s hf
        have l1 := hle k
        have l2 := hle b
        rw [fX0_mostWhisperedTo_4, z_more (by omega) (by decide), e_timesTo (by omega) h55 (by omega), zBd_s, e_timesTo (by omega) h55 hb, zBd_s, nI_add]
        show _ = some (nI (zMx (zTo16 (aN A)) d (k + 1) (if zTo16 (aN A) k ≤ zTo16 (aN A) b then b else k)), m)
        by_cases h : zTo16 (aN A) k ≤ zTo16 (aN A) b
        · rw [if_pos ((nI_leI (by omega) (by omega)).mpr h), if_pos h]
          exact ih (k + 1) b f (by omega) hb (by omega)
        · rw [if_neg (fun z => h ((nI_leI (by omega) (by omega)).mp z)), if_neg h]
          exact ih (k + 1) k f (by omega) (by omega) (by omega)
    refine ⟨if w0 = 0 then zMsv (zTo16 (aN A)) id 16 (zMx (zTo16 (aN A)) 15 1 0) else nI (zTo16 (aN A) (zMx (zTo16 (aN A)) 15 1 0)), A, m, ?_, hW, rc_scr hC (fun c _ hc => hfr c (by omega)), fun c hc => hfr c (by omega), fun μ' hM => ?_⟩
    · unfold fX11_mostPrinted fX0_mostWhisperedTo
      have l1 := hle (zMx (zTo16 (aN A)) 15 1 0)
      rw [e_isWithin, zBd_s, hz, z_bt, e1, zBd_s, k4 15 1 0 F (by omega) (by omega) (by omega), zBd_s, e_timesTo (by omega) h55 hlt, zBd_s, nI_eqn (by omega) (by decide)]
      by_cases h : w0 = 0
      · rw [if_neg (by omega), if_pos h]
        unfold zMsv zMst
        rw [if_neg (show ¬ 16 = 0 by decide)]
        by_cases h0 : zTo16 (aN A) (zMx (zTo16 (aN A)) 15 1 0) = 0
        · rw [if_pos ((nI_z (by omega)).mpr h0), if_pos h0]
        · rw [if_neg (fun z => h0 ((nI_z (by omega)).mp z)), if_neg h0]; rfl
      · rw [if_pos (by omega), if_neg h]
    · have hN := hM.2.1
      have eo : ∀ t, t < 16 → fX12_oftenPrinted F (-1) (nI t) μ' = some (nI (zTo16 (aN A) t), μ') := fun t ht => by
        rw [e_often (by omega) hN hws ht, zN_cong (zPf_m1 t)]
        rfl
      have k19 : ∀ d k b f, k + d = 16 → (k = 0 → b = 0) → b < 16 → d < f → fX12_mostPrinted_19 F f (nI w0) (zMsv (zTo16 (aN A)) id k b) (nI (zMst (zTo16 (aN A)) k b)) (nI k) μ' = some (if w0 = 0 then zMsv (zTo16 (aN A)) id 16 (zMx (zTo16 (aN A)) d k b) else nI (zMst (zTo16 (aN A)) 16 (zMx (zTo16 (aN A)) d k b)), μ') := by
        intro d
        induction d with
        | zero =>
          intro k b f hk hb0 hb hf
          obtain ⟨f, rfl⟩ := z_s hf
          have hk : k = 16 := by omega
          subst hk
          rw [fX12_mostPrinted_19, z_done (by omega) (by omega)]
          by_cases h : w0 = 0
          · rw [if_pos ((nI_z (by omega)).mpr h), if_pos h]; rfl
          · rw [if_neg (fun z => h ((nI_z (by omega)).mp z)), if_neg h]; rfl
        | succ d ih =>
          intro k b f hk hb0 hb hf
          obtain ⟨f, rfl⟩ := z_s hf
          have l1 := hle k
          have l2 : zMst (zTo16 (aN A)) k b ≤ 320 := by unfold zMst; split; omega; exact hle b
          rw [fX12_mostPrinted_19, z_more (by omega) (by decide), eo k (by omega), zBd_s, eo k (by omega), zBd_s, nI_add]
          have hx : zMx (zTo16 (aN A)) (d + 1) k b = zMx (zTo16 (aN A)) d (k + 1) (if zTo16 (aN A) k ≤ zTo16 (aN A) b then b else k) := rfl
          rw [hx]
          have hlt2 : (if zTo16 (aN A) k ≤ zTo16 (aN A) b then b else k) < 16 := by split <;> omega
          have hih := ih (k + 1) (if zTo16 (aN A) k ≤ zTo16 (aN A) b then b else k) f (by omega) (by omega) hlt2 (by omega)
          by_cases h : zMst (zTo16 (aN A)) k b < zTo16 (aN A) k
          · rw [if_pos ((nI_ltI (by omega) (by omega)).mpr h)]
            obtain ⟨q1, q2⟩ := zMs_t (v := id) hb0 h
            rw [q1, q2] at hih
            exact hih
          · rw [if_neg (fun z => h ((nI_ltI (by omega) (by omega)).mp z))]
            obtain ⟨q1, q2⟩ := zMs_f (v := id) hb0 h
            rw [q1, q2] at hih
            exact hih
      refine ⟨μ', ?_, hM, fun _ _ => rfl⟩
      unfold fX12_mostPrinted
      rw [e_in, zBd_s, hz, z_bt]
      have := k19 16 0 0 F (by omega) (fun _ => rfl) (by omega) (by omega)
      rw [zMx_0] at this
      exact this
theorem pr_pair {F : Nat} (hF : 300 ≤ F) (w : Int32) : zPair (fX11_pair F w) (fX12_pair F w) := by
  refine zPair.mk fun A μ hW hC => ?_
  cases hz : zIn w 0 2
  · refine ⟨-1, A, μ, ?_, hW, hC, fun _ _ => rfl, fun μ' hM => ⟨μ', ?_, hM, fun _ _ => rfl⟩⟩
    · unfold fX11_pair
      rw [e_isWithin, zBd_s, hz, z_bf]
    · unfold fX12_pair
      rw [e_in, zBd_s, hz, z_bf]
  · obtain ⟨w0, -, hw0, rfl⟩ := zIn_t (by decide) (by decide) hz
    have hws := hW.2.1
    have hle : ∀ x, zN (aN A) (zPx x) ≤ 320 := fun t => zN_le _ _ hws
    obtain ⟨r, m, e1, h55, hfr⟩ := e_tallies hF hC.2.1 hws
    generalize hg : (fun x => zN (aN A) (zPx x)) = g
    have hgx : ∀ x, zN (aN A) (zPx x) = g x := fun x => by rw [← hg]
    have hle : ∀ x, g x ≤ 320 := fun x => by rw [← hgx]; exact hle x
    have h55 : ∀ x, x < 256 → m 55 x = nI (g x) := fun x hx => by rw [← hgx]; exact h55 x hx
    have hlt : zMx g 255 1 0 < 256 := zMx_lt _ _ _ _ 256 (by omega) (by omega)
    have k4 : ∀ d k b f, k + d = 256 → b < 256 → d < f → fX0_mostOftenPair_4 F f (nI b) (nI k) m = some (nI (zMx g d k b), m) := by
      intro d
      induction d with
      | zero =>
        intro k b f hk hb hf
        obtain ⟨f, rfl⟩ := z_s hf
        rw [fX0_mostOftenPair_4, z_done (by omega) (by omega)]
        rfl
      | succ d ih =>
        intro k b f hk hb hf
        obtain ⟨f, rfl⟩ := z_s hf
        have l1 := hle k
        have l2 := hle b
        rw [fX0_mostOftenPair_4, z_more (by omega) (by decide), zG_in rfl (by omega) (by decide), zG_in rfl (by omega) (by decide), nI_clamp (by omega), nI_clamp (by omega), h55 k (by omega), h55 b hb, nI_add]
        show _ = some (nI (zMx g d (k + 1) (if g k ≤ g b then b else k)), m)
        by_cases h : g k ≤ g b
        · rw [if_pos ((nI_leI (by omega) (by omega)).mpr h), if_pos h]
          exact ih (k + 1) b f (by omega) hb (by omega)
        · rw [if_neg (fun z => h ((nI_leI (by omega) (by omega)).mp z)), if_neg h]
          exact ih (k + 1) k f (by omega) (by omega) (by omega)
    refine ⟨if w0 = 0 then zMsv g (fun b => b / 16) 256 (zMx g 255 1 0) else if w0 = 1 then zMsv g (fun b => b % 16) 256 (zMx g 255 1 0) else nI (g (zMx g 255 1 0)), A, m, ?_, hW, rc_scr hC (fun c _ hc => hfr c (by omega)), fun c hc => hfr c (by omega), fun μ' hM => ?_⟩
    · unfold fX11_pair fX0_mostOftenPair
      have l1 := hle (zMx g 255 1 0)
      rw [e_isWithin, zBd_s, hz, z_bt, e1, zBd_s, k4 255 1 0 F (by omega) (by omega) (by omega), zBd_s, zG_in rfl hlt (by decide), nI_clamp (by omega), h55 _ hlt, nI_eqn (by omega) (by decide), zGz_in (by decide), zGz_in (by decide), pk_div (by omega) (by decide) (by decide), nI_mod (by omega) (by decide) (by decide)]
      unfold zMsv zMst
      rw [if_neg (show ¬ 256 = 0 by decide)]
      by_cases h2 : w0 = 2
      · rw [if_pos h2, if_neg (by omega), if_neg (by omega)]
      · rw [if_neg h2]
        by_cases h0 : g (zMx g 255 1 0) = 0
        · rw [if_pos ((nI_z (by omega)).mpr h0), if_pos h0, if_pos h0]
          by_cases h : w0 = 0
          · rw [if_pos h]
          · rw [if_neg h, if_pos (by omega)]
        · rw [if_neg (fun z => h0 ((nI_z (by omega)).mp z)), if_neg h0, if_neg h0]
          by_cases h : w0 = 0
          · rw [if_pos ((nI_z (by omega)).mpr h), if_pos h]
          · rw [if_neg (fun z => h ((nI_z (by omega)).mp z)), if_neg h, if_pos (by omega)]
    · have hN := hM.2.1
      have eo : ∀ p t, p < 16 → t < 16 → fX12_oftenPrinted F (nI p) (nI t) μ' = some (nI (g (16 * p + t)), μ') := fun p t hp ht => by
        rw [e_often (by omega) hN hws ht, zN_cong (fun w => zPf_p hp ht), hgx]
      have k33 : ∀ (K : Int32 → Int32 → Int32 → Int32 → Int32 → zMem → Option zR) (p : Nat), p < 16 → ∀ d q b f, q + d = 16 → (16 * p + q = 0 → b = 0) → b < 256 → d < f → fX12_pair_33 F K f (nI w0) (zMsv g (fun b => b / 16) (16 * p + q) b) (zMsv g (fun b => b % 16) (16 * p + q) b) (nI (zMst g (16 * p + q) b)) (nI p) (nI q) μ' = K (nI w0) (zMsv g (fun b => b / 16) (16 * (p + 1)) (zMx g d (16 * p + q) b)) (zMsv g (fun b => b % 16) (16 * (p + 1)) (zMx g d (16 * p + q) b)) (nI (zMst g (16 * (p + 1)) (zMx g d (16 * p + q) b))) (nI (p + 1)) μ' := by
        intro K p hp d
        induction d with
        | zero =>
          intro q b f hq hb0 hb hf
          obtain ⟨f, rfl⟩ := z_s hf
          have hq : q = 16 := by omega
          subst hq
          rw [fX12_pair_33, z_done (by omega) (by omega), nI_add]
          rfl
        | succ d ih =>
          intro q b f hq hb0 hb hf
          obtain ⟨f, rfl⟩ := z_s hf
          have l1 := hle (16 * p + q)
          have l2 : zMst g (16 * p + q) b ≤ 320 := by unfold zMst; split; omega; exact hle b
          rw [fX12_pair_33, z_more (by omega) (by decide), eo p q hp (by omega), zBd_s, nI_add]
          have hx : zMx g (d + 1) (16 * p + q) b = zMx g d (16 * p + q + 1) (if g (16 * p + q) ≤ g b then b else (16 * p + q)) := rfl
          rw [hx]
          have hlt2 : (if g (16 * p + q) ≤ g b then b else (16 * p + q)) < 256 := by split <;> omega
          have hih := ih (q + 1) (if g (16 * p + q) ≤ g b then b else (16 * p + q)) f (by omega) (by omega) hlt2 (by omega)
          rw [← Nat.add_assoc] at hih
          by_cases h : zMst g (16 * p + q) b < g (16 * p + q)
          · rw [if_pos ((nI_ltI (by omega) (by omega)).mpr h)]
            obtain ⟨q1, q2⟩ := zMs_t (v := fun b => b / 16) hb0 h
            obtain ⟨q3, -⟩ := zMs_t (v := fun b => b % 16) hb0 h
            rw [q1, q2, q3] at hih
            rw [show (16 * p + q) / 16 = p by omega, show (16 * p + q) % 16 = q by omega] at hih
            exact hih
          · rw [if_neg (fun z => h ((nI_ltI (by omega) (by omega)).mp z))]
            obtain ⟨q1, q2⟩ := zMs_f (v := fun b => b / 16) hb0 h
            obtain ⟨q3, -⟩ := zMs_f (v := fun b => b % 16) hb0 h
            rw [q1, q2, q3] at hih
            exact hih
      have k23 : ∀ d p b f, p + d = 16 → (p = 0 → b = 0) → b < 256 → d < f → fX12_pair_23 F f (nI w0) (zMsv g (fun b => b / 16) (16 * p) b) (zMsv g (fun b => b % 16) (16 * p) b) (nI (zMst g (16 * p) b)) (nI p) μ' = some (if w0 = 0 then zMsv g (fun b => b / 16) 256 (zMx g (16 * d) (16 * p) b) else if w0 = 1 then zMsv g (fun b => b % 16) 256 (zMx g (16 * d) (16 * p) b) else nI (g (zMx g (16 * d) (16 * p) b)), μ') := by
        intro d
        induction d with
        | zero =>
          intro p b f hp hb0 hb hf
          obtain ⟨f, rfl⟩ := z_s hf
          have hp : p = 16 := by omega
          subst hp
          rw [fX12_pair_23, z_done (by omega) (by omega)]
          have : w0 = 0 ∨ w0 = 1 ∨ w0 = 2 := by omega
          rcases this with rfl | rfl | rfl <;> rfl
        | succ d ih =>
          intro p b f hp hb0 hb hf
          obtain ⟨f, rfl⟩ := z_s hf
          rw [fX12_pair_23, z_more (by omega) (by decide)]
          have hk := k33 (fX12_pair_23 F f) p (by omega) 16 0 b F rfl (by omega) hb (by omega)
          refine hk.trans ?_
          rw [ih (p + 1) (zMx g 16 (16 * p + 0) b) f (by omega) (by omega) (zMx_lt _ _ _ _ 256 (by omega) hb) (by omega)]
          have e : zMx g (16 * (d + 1)) (16 * p) b = zMx g (16 * d) (16 * (p + 1)) (zMx g 16 (16 * p) b) := by
            unfold zMx
            rw [show 16 * (d + 1) = 16 + 16 * d by omega, zFold_add, show 16 * p + 16 = 16 * (p + 1) by omega]
          rw [e]
          rfl
      refine ⟨μ', ?_, hM, fun _ _ => rfl⟩
      unfold fX12_pair
      rw [e_in, zBd_s, hz, z_bt]
      have := k23 16 0 0 F (by omega) (fun _ => rfl) (by omega) (by omega)
      rw [show 16 * 16 = 255 + 1 from rfl, zMx_0] at this
      exact this
