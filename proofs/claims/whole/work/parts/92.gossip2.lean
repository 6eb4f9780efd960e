/-! ===== gossip: all of it ===== -/
theorem line_ex {N : Nat} {b : Nat → Nat} (hN : N ≤ 120) (hb : ∀ j, b j < 256) {p n : Nat} {s : zPS} (hws : zWFS s) (hp : p ≤ N) (hn : n ≤ 20) : ∃ (ok : Bool) (p' w v o : Nat) (ft : Int32), (ok = true → p < p' ∧ p' ≤ N ∧ n < 20 ∧ yGv s w v o) ∧
    (∀ (F : Nat) (μ : zMem), 20 ≤ F → yTC N b p μ → μ 36 3 = nI n → ∃ m1, (∀ K : zMem → Option zR, zBd (fX4_readsWho F (nI (pT s)) μ) (fun r1 m1 => if r1 = 0 then some ((nI 0), m1) else zBd (fX4_readsWhat F (nI (pT s)) m1) (fun r2 m2 => if r2 = 0 then some ((nI 0), m2) else K m2)) = if ok = true then K m1 else some (nI 0, m1)) ∧ (ok = true → yTC N b p' m1 ∧ m1 37 n = nI w ∧ m1 38 n = nI v ∧ (v ≠ 33 → v ≠ 63 → m1 39 n = nI o)) ∧ (ok = false → m1 1 3 = ft) ∧ (∀ i, i ≠ n → m1 37 i = μ 37 i ∧ m1 38 i = μ 38 i ∧ m1 39 i = μ 39 i) ∧ ∀ c, c ≠ 1 → c ≠ 37 → c ≠ 38 → c ≠ 39 → m1 c = μ c) ∧
    ∀ (F : Nat) (μ : zMem), 20 ≤ F → yTM N b p μ → μ 60 32 = nI n → zRepN 61 s μ → ∃ m1, fX12_readsLine F μ = some (zB ok, m1) ∧ (ok = true → yTM N b p' m1 ∧ m1 60 32 = nI (n + 1) ∧ zRepN 61 (sDo s w v o) m1) ∧ (ok = false → m1 60 12 = ft) ∧ (∀ j, j ≠ 10 → j ≠ 12 → j ≠ 13 → j ≠ 32 → m1 60 j = μ 60 j) ∧ ∀ c, c ≠ 60 → c ≠ 61 → m1 c = μ c := by
  have hT16 := hws.1
  have hs97 : zIn (ySg N b p - nI 97) 0 15 = yIs N b p 97 112 := zIn_sgs (hb _) (by decide) (by decide) (by decide)
  have flt : ∀ (kk : Nat), (∀ (F : Nat) (μ : zMem), yTC N b p μ → μ 36 3 = nI n → fX4_readsWho F (nI (pT s)) μ = some (nI 0, zUp μ 1 3 (yFt kk p))) → (∀ (F : Nat) (μ : zMem), yTM N b p μ → μ 60 32 = nI n → zRepN 61 s μ → ∃ m1, fX12_readsLine F μ = some (nI 0, m1) ∧ m1 60 12 = yFt kk p ∧ (∀ j, j ≠ 12 → j ≠ 32 → m1 60 j = μ 60 j) ∧ ∀ c, c ≠ 60 → m1 c = μ c) → ∃ (ok : Bool) (p' w v o : Nat) (ft : Int32), (ok = true → p < p' ∧ p' ≤ N ∧ n < 20 ∧ yGv s w v o) ∧
    (∀ (F : Nat) (μ : zMem), 20 ≤ F → yTC N b p μ → μ 36 3 = nI n → ∃ m1, (∀ K : zMem → Option zR, zBd (fX4_readsWho F (nI (pT s)) μ) (fun r1 m1 => if r1 = 0 then some ((nI 0), m1) else zBd (fX4_readsWhat F (nI (pT s)) m1) (fun r2 m2 => if r2 = 0 then some ((nI 0), m2) else K m2)) = if ok = true then K m1 else some (nI 0, m1)) ∧ (ok = true → yTC N b p' m1 ∧ m1 37 n = nI w ∧ m1 38 n = nI v ∧ (v ≠ 33 → v ≠ 63 → m1 39 n = nI o)) ∧ (ok = false → m1 1 3 = ft) ∧ (∀ i, i ≠ n → m1 37 i = μ 37 i ∧ m1 38 i = μ 38 i ∧ m1 39 i = μ 39 i) ∧ ∀ c, c ≠ 1 → c ≠ 37 → c ≠ 38 → c ≠ 39 → m1 c = μ c) ∧
    ∀ (F : Nat) (μ : zMem), 20 ≤ F → yTM N b p μ → μ 60 32 = nI n → zRepN 61 s μ → ∃ m1, fX12_readsLine F μ = some (zB ok, m1) ∧ (ok = true → yTM N b p' m1 ∧ m1 60 32 = nI (n + 1) ∧ zRepN 61 (sDo s w v o) m1) ∧ (ok = false → m1 60 12 = ft) ∧ (∀ j, j ≠ 10 → j ≠ 12 → j ≠ 13 → j ≠ 32 → m1 60 j = μ 60 j) ∧ ∀ c, c ≠ 60 → c ≠ 61 → m1 c = μ c := by
    intro kk h1 h2
    refine ⟨false, 0, 0, 0, 0, yFt kk p, fun h => (by cases h), fun F μ hF hT h36 => ?_, fun F μ hF hT h32 hr => ?_⟩
    · refine ⟨zUp μ 1 3 (yFt kk p), fun K => ?_, fun h => (by cases h), fun _ => zUp_s _ _ _ _, fun i hi => ⟨by rw [zUp_ne (by decide)], by rw [zUp_ne (by decide)], by rw [zUp_ne (by decide)]⟩, fun c h1 _ _ _ => zUp_ne h1⟩
      rw [h1 F μ hT h36, zBd_s, if_pos (show nI 0 = 0 from rfl)]
      rfl
    · obtain ⟨m1, a1, a2, a3, a4⟩ := h2 F μ hT h32 hr
      exact ⟨m1, a1, fun h => (by cases h), fun _ => a2, fun j _ h2 _ h4 => a3 j h2 h4, fun c h1 _ => a4 c h1⟩
  cases hl : yIs N b p 97 112 with
  | false =>
    refine flt 1 (fun F μ hT h36 => ?_) (fun F μ hT h32 hr => ⟨zUp μ 60 12 (yFt 1 p), ?_, zUp_s _ _ _ _, fun j h1 h2 => zUp_o h1, fun c h1 => zUp_ne h1⟩)
    · unfold fX4_readsWho
      rw [e_sign hT (by omega) (by omega), zBd_s, e_isPerson, zBd_s, hs97, hl, z_bf, e_fails hT, zBd_s, zGb0]
    · unfold fX12_readsLine
      rw [e_mIsLetter hT (by omega) (by omega) (hb _), zBd_s, hl, z_bf, hT.2.1, e_wrongAt, zBd_s, zGb0]
  | true =>
    obtain ⟨hp1, hlo, hhi⟩ := yIs_t hl
    obtain ⟨w, hw⟩ : ∃ w, w = b p - 97 := ⟨_, rfl⟩
    have hw16 : w < 16 := by omega
    have hS : ySg N b p - nI 97 = nI w := by rw [ySg_in hp1, pk_sub hlo, hw]
    by_cases hn20 : n = 20
    · refine flt 4 (fun F μ hT h36 => ?_) (fun F μ hT h32 hr => ⟨zUp μ 60 12 (yFt 4 p), ?_, zUp_s _ _ _ _, fun j h1 h2 => zUp_o h1, fun c h1 => zUp_ne h1⟩)
      · unfold fX4_readsWho
        rw [e_sign hT (by omega) (by omega), zBd_s, e_isPerson, zBd_s, hs97, hl, z_bt, h36, if_neg (fun z => by have := (nI_ltI (by omega) (by decide)).mp z; omega), e_fails hT, zBd_s, zGb0]
      · unfold fX12_readsLine
        rw [e_mIsLetter hT (by omega) (by omega) (hb _), zBd_s, hl, z_bt, h32, if_pos (by rw [hn20]), hT.2.1, e_wrongAt, zBd_s, zGb0]
    · have m0 : ∀ (F : Nat) (μ : zMem), yTM N b p μ → μ 60 32 = nI n → zRepN 61 s μ → fX12_readsLine F μ = if zB ((pT s).testBit w) = 0 then some (nI 0, zUp (zUp μ 60 32 (nI (n + 1))) 60 12 (yFt 7 p)) else zBd (fX12_here F (zUp (zUp μ 60 32 (nI (n + 1))) 60 10 (nI (p + 1)))) (fun r15 m15 => yChain F r15 (nI w) (zUp m15 60 10 ((m15 60 10) + nI 1))) := by
        intro F μ hT h32 hr
        have hT1 : yTM N b p (zUp μ 60 32 (nI (n + 1))) := hT.of (zUp_o (by decide)) (zUp_o (by decide)) (zUp_ne (by decide))
        unfold fX12_readsLine
        rw [e_mIsLetter hT (by omega) (by omega) (hb _), zBd_s, hl, z_bt, h32, if_neg (fun z => by have := (nI_eq (by omega) (by decide)).mp z; omega), nI_add]
        dsimp only [zLt]
        rw [e_here hT1 (by omega) (by omega), zBd_s, hS, e_mTold (s := s) (hr.of (zUp_ne (by decide))), zBd_s, zTold_n hw16, hT1.2.1, e_wrongAt, zBd_s, zGb0, nI_add]
        rfl
      cases htw : (pT s).testBit w with
      | false =>
        refine flt 7 (fun F μ hT h36 => ?_) (fun F μ hT h32 hr => ⟨zUp (zUp μ 60 32 (nI (n + 1))) 60 12 (yFt 7 p), ?_, zUp_s _ _ _ _, fun j h1 h2 => by rw [zUp_o h1, zUp_o h2], fun c h1 => by rw [zUp_ne h1, zUp_ne h1]⟩)
        · unfold fX4_readsWho
          rw [e_sign hT (by omega) (by omega), zBd_s, e_isPerson, zBd_s, hs97, hl, z_bt, h36, if_pos ((nI_ltI (by omega) (by decide)).mpr (by omega)), hS, e_hasBit (by omega) (by omega), zBd_s, htw, z_bf, e_fails hT, zBd_s, zGb0]
        · rw [m0 F μ hT h32 hr, htw, z_bf]
      | true =>
        obtain ⟨ok, p', v, o, ft, g1, g2, g3⟩ := what_ex (N := N) (b := b) hN hb (q := p + 1) (n := n) (w := w) hws (by omega) (by omega) hw16 htw
        refine ⟨ok, p', w, v, o, ft, fun h => ?_, fun F μ hF hT h36 => ?_, fun F μ hF hT h32 hr => ?_⟩
        · obtain ⟨h1, h2, h3⟩ := g1 h
          exact ⟨by omega, h2, by omega, h3⟩
        · obtain ⟨m1, a1, a2, a3, a4, a5⟩ := g2 F (zUp (zUp μ 1 2 (nI (p + 1))) 37 n (nI w)) hF (hT.to (by rw [zUp_ne (by decide), zUp_o (by decide)]) (by rw [zUp_ne (by decide), zUp_s]) (by rw [zUp_ne (by decide), zUp_ne (by decide)])) (by rw [zUp_ne (by decide), zUp_ne (by decide)]; exact h36) (zUp_s _ _ _ _)
          have hwho : fX4_readsWho F (nI (pT s)) μ = some (nI 1, zUp (zUp μ 1 2 (nI (p + 1))) 37 n (nI w)) := by
            unfold fX4_readsWho
            rw [e_sign hT (by omega) (by omega), zBd_s, e_isPerson, zBd_s, hs97, hl, z_bt, h36, if_pos ((nI_ltI (by omega) (by decide)).mpr (by omega)), hS, e_hasBit (by omega) (by omega), zBd_s, htw, z_bt, hT.2.1, nI_add]
            dsimp only [zLt]
            rw [zUp_ne (show (36 : Nat) ≠ 1 by decide), h36, zG_in rfl (by omega) (by decide), cl9 (by omega)]
          refine ⟨m1, fun K => ?_, fun h => ?_, a3, fun i hi => ?_, fun c h1 h2 h3 h4 => ?_⟩
          · rw [hwho, zBd_s, if_neg (show ¬ nI 1 = 0 by decide), a1, zBd_s]
            cases ok
            · rw [z_bf, if_neg (by decide)]
            · rw [z_bt, if_pos rfl]
          · obtain ⟨b1, b2, b3⟩ := a2 h
            exact ⟨b1, by rw [a5 37 (by decide) (by decide) (by decide), zUp_s], b2, b3⟩
          · obtain ⟨b1, b2⟩ := a4 i hi
            exact ⟨by rw [a5 37 (by decide) (by decide) (by decide), zUp_o hi, zUp_ne (by decide)], by rw [b1, zUp_ne (by decide), zUp_ne (by decide)], by rw [b2, zUp_ne (by decide), zUp_ne (by decide)]⟩
          · rw [a5 c h1 h3 h4, zUp_ne h2, zUp_ne h1]
        · have hT1 : yTM N b (p + 1) (zUp (zUp μ 60 32 (nI (n + 1))) 60 10 (nI (p + 1))) := hT.to (by rw [zUp_o (by decide), zUp_o (by decide)]) (zUp_s _ _ _ _) (by rw [zUp_ne (by decide), zUp_ne (by decide)])
          obtain ⟨m1, a1, a2, a3, a4, a5⟩ := g3 F (zUp (zUp (zUp μ 60 32 (nI (n + 1))) 60 10 (nI (p + 1))) 60 10 (nI (p + 1 + 1))) hF (hT1.to (zUp_o (by decide)) (zUp_s _ _ _ _) (zUp_ne (by decide))) (hr.of (by rw [zUp_ne (by decide), zUp_ne (by decide), zUp_ne (by decide)]))
          refine ⟨m1, ?_, fun h => ?_, a3, fun j h1 h2 h3 h4 => by rw [a4 j h1 h2 h3, zUp_o h1, zUp_o h1, zUp_o h4], fun c h1 h2 => by rw [a5 c h1 h2, zUp_ne h1, zUp_ne h1, zUp_ne h1]⟩
          · rw [m0 F μ hT h32 hr, htw, z_bt, e_here hT1 (by omega) (by omega), zBd_s, hT1.2.1, nI_add]
            exact a1
          · obtain ⟨b1, b2⟩ := a2 h
            exact ⟨b1, by rw [a4 32 (by decide) (by decide) (by decide), zUp_o (by decide), zUp_o (by decide), zUp_s], b2⟩
def yDo (s0 : zPS) (W V O : Nat → Nat) : Nat → zPS
  | 0 => s0
  | n + 1 => sDo (yDo s0 W V O n) (W n) (V n) (O n)
theorem yDo_T (s0 : zPS) (W V O : Nat → Nat) : ∀ n, pT (yDo s0 W V O n) = pT s0
  | 0 => rfl
  | n + 1 => by unfold yDo; rw [sDo_T, yDo_T s0 W V O n]
theorem yDo_cong {s0 : zPS} {W V O W2 V2 O2 : Nat → Nat} : ∀ n, (∀ i, i < n → W2 i = W i ∧ V2 i = V i ∧ O2 i = O i) → yDo s0 W2 V2 O2 n = yDo s0 W V O n
  | 0, _ => rfl
  | n + 1, h => by
    obtain ⟨h1, h2, h3⟩ := h n (by omega)
    unfold yDo
    rw [yDo_cong n (fun i hi => h i (by omega)), h1, h2, h3]
theorem yGv_T {s s2 : zPS} {w v o : Nat} (h : pT s2 = pT s) (hv : yGv s w v o) : yGv s2 w v o := by
  unfold yGv at hv ⊢
  rw [h]
  exact hv
theorem yDo_wf {s0 : zPS} {W V O : Nat → Nat} (h0 : zWFS s0) : ∀ n, (∀ i, i < n → yGv s0 (W i) (V i) (O i)) → zWFS (yDo s0 W V O n)
  | 0, _ => h0
  | n + 1, h => by
    unfold yDo
    exact sDo_wf (yDo_wf h0 n (fun i hi => h i (by omega))) (yGv_T (yDo_T s0 W V O n) (h n (by omega)))
def yGC (n : Nat) (W V O : Nat → Nat) (μ : zMem) : Prop := μ 36 3 = nI n ∧ ∀ i, i < n → μ 37 i = nI (W i) ∧ μ 38 i = nI (V i) ∧ (V i ≠ 33 → V i ≠ 63 → μ 39 i = nI (O i))
theorem gossip_k {N : Nat} {b : Nat → Nat} (hN : N ≤ 120) (hb : ∀ j, b j < 256) {s0 : zPS} (hw0 : zWFS s0) : ∀ m p n (W V O : Nat → Nat), N - p ≤ m → p ≤ N → n ≤ 20 → (∀ i, i < n → yGv s0 (W i) (V i) (O i)) → ∃ (ok : Bool) (n' : Nat) (W' V' O' : Nat → Nat) (ft : Int32), (ok = true → n' ≤ 20 ∧ ∀ i, i < n' → yGv s0 (W' i) (V' i) (O' i)) ∧
    (∀ (F f : Nat) (μ : zMem), 20 ≤ F → m < f → yTC N b p μ → yGC n W V O μ → ∃ m1, fX4_reads_7 F f (nI (pT s0)) (nI n) μ = some (zB ok, m1) ∧ (ok = true → yGC n' W' V' O' m1) ∧ (ok = false → m1 1 3 = ft) ∧ ∀ c, c ≠ 1 → c ≠ 36 → c ≠ 37 → c ≠ 38 → c ≠ 39 → m1 c = μ c) ∧
    ∀ (F f : Nat) (μ : zMem), 20 ≤ F → m + 1 < f → yTM N b p μ → μ 60 32 = nI n → zRepN 61 (yDo s0 W V O n) μ → ∃ m1, zBd (fX12_readsLine F μ) (fun r4 m4 => if r4 = 0 then fX12_gossip_46 F f (nI 0) m4 else fX12_gossip_46 F f (nI 1) m4) = fX12_gossip_86 F (zB ok) m1 ∧ (ok = true → m1 60 32 = nI n' ∧ zRepN 61 (yDo s0 W' V' O' n') m1) ∧ (ok = false → m1 60 12 = ft) ∧ (∀ j, j ≠ 10 → j ≠ 12 → j ≠ 13 → j ≠ 32 → m1 60 j = μ 60 j) ∧ ∀ c, c ≠ 60 → c ≠ 61 → m1 c = μ c := by
  intro m
  induction m with
  | zero =>
    intro p n W V O hm hp hn hv
    obtain ⟨ok, p', w, v, o, ft, g1, g2, g3⟩ := line_ex hN hb (yDo_wf hw0 n hv) hp hn
    rw [yDo_T] at g2
    cases ok with
    | true => obtain ⟨h1, h2, -⟩ := g1 rfl; omega
    | false =>
      refine ⟨false, 0, W, V, O, ft, fun h => (by cases h), fun F f μ hF hf hT hG => ?_, fun F f μ hF hf hT h32 hr => ?_⟩
      · obtain ⟨f, rfl⟩ := z_s hf
        obtain ⟨m1, a1, a2, a3, a4, a5⟩ := g2 F μ hF hT hG.1
        refine ⟨m1, ?_, fun h => (by cases h), a3, fun c h1 h2 h3 h4 h5 => a5 c h1 h3 h4 h5⟩
        rw [fX4_reads_7, if_neg (fun z => by have := (nI_ltI (by decide) (by omega)).mp z; omega), a1, if_neg (by decide)]
        rfl
      · obtain ⟨f, rfl⟩ := z_s hf
        obtain ⟨m1, a1, a2, a3, a4, a5⟩ := g3 F μ hF hT h32 hr
        refine ⟨m1, ?_, fun h => (by cases h), a3, a4, a5⟩
        rw [a1, zBd_s, z_bf, fX12_gossip_46, if_pos (show nI 0 = 0 from rfl)]
        rfl
  | succ m ih =>
    intro p n W V O hm hp hn hv
    obtain ⟨ok, p', w, v, o, ft, g1, g2, g3⟩ := line_ex hN hb (yDo_wf hw0 n hv) hp hn
    rw [yDo_T] at g2
    cases ok with
    | false =>
      refine ⟨false, 0, W, V, O, ft, fun h => (by cases h), fun F f μ hF hf hT hG => ?_, fun F f μ hF hf hT h32 hr => ?_⟩
      · obtain ⟨f, rfl⟩ := z_s hf
        obtain ⟨m1, a1, a2, a3, a4, a5⟩ := g2 F μ hF hT hG.1
        refine ⟨m1, ?_, fun h => (by cases h), a3, fun c h1 h2 h3 h4 h5 => a5 c h1 h3 h4 h5⟩
        rw [fX4_reads_7, if_neg (fun z => by have := (nI_ltI (by decide) (by omega)).mp z; omega), a1, if_neg (by decide)]
        rfl
      · obtain ⟨f, rfl⟩ := z_s hf
        obtain ⟨m1, a1, a2, a3, a4, a5⟩ := g3 F μ hF hT h32 hr
        refine ⟨m1, ?_, fun h => (by cases h), a3, a4, a5⟩
        rw [a1, zBd_s, z_bf, fX12_gossip_46, if_pos (show nI 0 = 0 from rfl)]
        rfl
    | true =>
      obtain ⟨h1, h2, h3, h4⟩ := g1 rfl
      have hv' : ∀ i, i < n + 1 → yGv s0 (uN W n w i) (uN V n v i) (uN O n o i) := fun i hi => by
        by_cases e : i = n
        · rw [e, uN_s, uN_s, uN_s]; exact yGv_T (yDo_T s0 W V O n).symm h4
        · rw [uN_o e, uN_o e, uN_o e]; exact hv i (by omega)
      have eDo : yDo s0 (uN W n w) (uN V n v) (uN O n o) (n + 1) = sDo (yDo s0 W V O n) w v o := by
        show sDo (yDo s0 (uN W n w) (uN V n v) (uN O n o) n) (uN W n w n) (uN V n v n) (uN O n o n) = _
        rw [uN_s, uN_s, uN_s, yDo_cong n (fun i hi => ⟨uN_o (by omega), uN_o (by omega), uN_o (by omega)⟩)]
      -- the class's lines with one more
      have hG1 : ∀ (μ m1 : zMem), yGC n W V O μ → m1 37 n = nI w → m1 38 n = nI v → (v ≠ 33 → v ≠ 63 → m1 39 n = nI o) → (∀ i, i ≠ n → m1 37 i = μ 37 i ∧ m1 38 i = μ 38 i ∧ m1 39 i = μ 39 i) → ∀ m2 : zMem, m2 36 3 = nI (n + 1) → m2 37 = m1 37 → m2 38 = m1 38 → m2 39 = m1 39 → yGC (n + 1) (uN W n w) (uN V n v) (uN O n o) m2 := by
        intro μ m1 hG k1 k2 k3 k4 m2 l1 l2 l3 l4
        refine ⟨l1, fun i hi => ?_⟩
        rw [l2, l3, l4]
        by_cases e : i = n
        · rw [e, uN_s, uN_s, uN_s]; exact ⟨k1, k2, k3⟩
        · rw [uN_o e, uN_o e, uN_o e, (k4 i e).1, (k4 i e).2.1, (k4 i e).2.2]
          exact hG.2 i (by omega)
      by_cases hov : N ≤ p'
      · refine ⟨true, n + 1, uN W n w, uN V n v, uN O n o, 0, fun _ => ⟨by omega, hv'⟩, fun F f μ hF hf hT hG => ?_, fun F f μ hF hf hT h32 hr => ?_⟩
        · obtain ⟨f, rfl⟩ := z_s hf
          obtain ⟨m1, a1, a2, a3, a4, a5⟩ := g2 F μ hF hT hG.1
          obtain ⟨b1, b2, b3, b4⟩ := a2 rfl
          have e36 : m1 36 3 = nI n := by rw [a5 36 (by decide) (by decide) (by decide) (by decide)]; exact hG.1
          refine ⟨zUp m1 36 3 (nI (n + 1)), ?_, fun _ => hG1 μ m1 hG b2 b3 b4 a4 _ (zUp_s _ _ _ _) (zUp_ne (by decide)) (zUp_ne (by decide)) (zUp_ne (by decide)), fun h => (by cases h), fun c h1 h2 h3 h4 h5 => by rw [zUp_ne h2, a5 c h1 h3 h4 h5]⟩
          rw [fX4_reads_7, if_neg (fun z => by have := (nI_ltI (by decide) (by omega)).mp z; omega), a1, if_pos rfl]
          dsimp only [zLt]
          rw [e36, nI_add, e_isOver (b1.of (by rw [zUp_ne (by decide)]) (by rw [zUp_ne (by decide)]) (zUp_ne (by decide))) (by omega) (by omega), zBd_s, decide_eq_true hov, z_bt]
          rfl
        · obtain ⟨f, rfl⟩ := z_s hf
          obtain ⟨m1, a1, a2, a3, a4, a5⟩ := g3 F μ hF hT h32 hr
          obtain ⟨b1, b2, b3⟩ := a2 rfl
          refine ⟨m1, ?_, fun _ => ⟨b2, by rw [eDo]; exact b3⟩, fun h => (by cases h), a4, a5⟩
          rw [a1, zBd_s, z_bt, fX12_gossip_46, if_neg (by decide), b1.1, b1.2.1, z_done hov (by omega)]
          rfl
      · by_cases h59 : b p' = 59
        · obtain ⟨ok, n2, W2, V2, O2, ft2, k1, k2, k3⟩ := ih (p' + 1) (n + 1) (uN W n w) (uN V n v) (uN O n o) (by omega) (by omega) (by omega) hv'
          refine ⟨ok, n2, W2, V2, O2, ft2, k1, fun F f μ hF hf hT hG => ?_, fun F f μ hF hf hT h32 hr => ?_⟩
          · obtain ⟨f, rfl⟩ := z_s hf
            obtain ⟨m1, a1, a2, a3, a4, a5⟩ := g2 F μ hF hT hG.1
            obtain ⟨b1, b2, b3, b4⟩ := a2 rfl
            have e36 : m1 36 3 = nI n := by rw [a5 36 (by decide) (by decide) (by decide) (by decide)]; exact hG.1
            have hT1 : yTC N b p' (zUp m1 36 3 (nI (n + 1))) := b1.of (by rw [zUp_ne (by decide)]) (by rw [zUp_ne (by decide)]) (zUp_ne (by decide))
            obtain ⟨m2, c1, c2, c3, c4⟩ := k2 F f (zUp (zUp m1 36 3 (nI (n + 1))) 1 2 (nI (p' + 1))) hF (by omega) (hT1.to (zUp_o (by decide)) (zUp_s _ _ _ _) (zUp_ne (by decide))) (hG1 μ m1 hG b2 b3 b4 a4 _ (by rw [zUp_ne (by decide), zUp_s]) (by rw [zUp_ne (by decide), zUp_ne (by decide)]) (by rw [zUp_ne (by decide), zUp_ne (by decide)]) (by rw [zUp_ne (by decide), zUp_ne (by decide)]))
            refine ⟨m2, ?_, c2, c3, fun c h1 h2 h3 h4 h5 => by rw [c4 c h1 h2 h3 h4 h5, zUp_ne h1, zUp_ne h2, a5 c h1 h3 h4 h5]⟩
            rw [fX4_reads_7, if_neg (fun z => by have := (nI_ltI (by decide) (by omega)).mp z; omega), a1, if_pos rfl]
            dsimp only [zLt]
            rw [e36, nI_add, e_isOver hT1 (by omega) (by omega), zBd_s, decide_eq_false hov, z_bf, e_needs_t hT1 (by omega) (by omega) h59, zBd_s, if_neg (by decide)]
            exact c1
          · obtain ⟨f, rfl⟩ := z_s hf
            obtain ⟨m1, a1, a2, a3, a4, a5⟩ := g3 F μ hF hT h32 hr
            obtain ⟨b1, b2, b3⟩ := a2 rfl
            obtain ⟨m2, c1, c2, c3, c4, c5⟩ := k3 F f (zUp m1 60 10 (nI (p' + 1))) hF (by omega) (b1.to (zUp_o (by decide)) (zUp_s _ _ _ _) (zUp_ne (by decide))) (by rw [zUp_o (by decide)]; exact b2) (by rw [eDo]; exact b3.of (zUp_ne (by decide)))
            refine ⟨m2, ?_, c2, c3, fun j h1 h2 h3 h4 => by rw [c4 j h1 h2 h3 h4, zUp_o h1, a4 j h1 h2 h3 h4], fun c h1 h2 => by rw [c5 c h1 h2, zUp_ne h1, a5 c h1 h2]⟩
            rw [a1, zBd_s, z_bt, fX12_gossip_46, if_neg (by decide), b1.1, b1.2.1, z_more (by omega) (by omega), e_takes_t b1 (by omega) (by omega) h59, zBd_s, if_neg (by decide)]
            exact c1
        · refine ⟨false, 0, W, V, O, yFt 1 p', fun h => (by cases h), fun F f μ hF hf hT hG => ?_, fun F f μ hF hf hT h32 hr => ?_⟩
          · obtain ⟨f, rfl⟩ := z_s hf
            obtain ⟨m1, a1, a2, a3, a4, a5⟩ := g2 F μ hF hT hG.1
            obtain ⟨b1, b2, b3, b4⟩ := a2 rfl
            have e36 : m1 36 3 = nI n := by rw [a5 36 (by decide) (by decide) (by decide) (by decide)]; exact hG.1
            have hT1 : yTC N b p' (zUp m1 36 3 (nI (n + 1))) := b1.of (by rw [zUp_ne (by decide)]) (by rw [zUp_ne (by decide)]) (zUp_ne (by decide))
            refine ⟨zUp (zUp m1 36 3 (nI (n + 1))) 1 3 (yFt 1 p'), ?_, fun h => (by cases h), fun _ => zUp_s _ _ _ _, fun c h1 h2 h3 h4 h5 => by rw [zUp_ne h1, zUp_ne h2, a5 c h1 h3 h4 h5]⟩
            rw [fX4_reads_7, if_neg (fun z => by have := (nI_ltI (by decide) (by omega)).mp z; omega), a1, if_pos rfl]
            dsimp only [zLt]
            rw [e36, nI_add, e_isOver hT1 (by omega) (by omega), zBd_s, decide_eq_false hov, z_bf, e_needs_f hT1 (by omega) (by omega) (hb _) (by decide) (fun z => h59 z.2), zBd_s, if_pos (by decide)]
            rfl
          · obtain ⟨f, rfl⟩ := z_s hf
            obtain ⟨m1, a1, a2, a3, a4, a5⟩ := g3 F μ hF hT h32 hr
            obtain ⟨b1, b2, b3⟩ := a2 rfl
            refine ⟨zUp m1 60 12 (yFt 1 p'), ?_, fun h => (by cases h), fun _ => zUp_s _ _ _ _, fun j h1 h2 h3 h4 => by rw [zUp_o h2, a4 j h1 h2 h3 h4], fun c h1 h2 => by rw [zUp_ne h1, a5 c h1 h2]⟩
            obtain ⟨f, rfl⟩ := z_s (show 0 < f by omega)
            rw [a1, zBd_s, z_bt, fX12_gossip_46, if_neg (by decide), b1.1, b1.2.1, z_more (by omega) (by omega), e_takes_f b1 (by omega) (by omega) (hb _) (by decide) (fun z => h59 z.2), zBd_s, if_pos (by decide), fX12_gossip_46, if_pos (by decide)]
            rfl
theorem done_C {F n : Nat} {s0 : zPS} {W V O : Nat → Nat} (hw0 : zWFS s0) (hn : n ≤ 20) (hv : ∀ i, i < n → yGv s0 (W i) (V i) (O i)) : ∀ m i f (μ : zMem), i + m = n → m < f → zRepS 3 (yDo s0 W V O i) μ → yGC n W V O μ → ∃ m1, fX4_isDoneTo_2 F 3 f (nI i) μ = some (nI 0, m1) ∧ zRepS 3 (yDo s0 W V O n) m1 ∧ ∀ c, (c < 3 ∨ 7 < c) → m1 c = μ c := by
  intro m
  induction m with
  | zero =>
    intro i f μ hi hf hr hG
    obtain ⟨f, rfl⟩ := z_s hf
    refine ⟨μ, ?_, by rw [show n = i by omega]; exact hr, fun _ _ => rfl⟩
    rw [fX4_isDoneTo_2, hG.1, z_done (by omega) (by omega)]
  | succ m ih =>
    intro i f μ hi hf hr hG
    obtain ⟨f, rfl⟩ := z_s hf
    obtain ⟨gw, gv, go⟩ := hG.2 i (by omega)
    have hvi := hv i (by omega)
    obtain ⟨hw16, htw, hcase⟩ := hvi
    have hws : zWFS (yDo s0 W V O i) := yDo_wf hw0 i (fun k hk => hv k (by omega))
    obtain ⟨s, hs⟩ : ∃ s, s = yDo s0 W V O i := ⟨_, rfl⟩
    have eS : yDo s0 W V O (i + 1) = sDo s (W i) (V i) (O i) := by rw [hs]; rfl
    rw [← hs] at hr hws
    have hK := hws.2.2.2.1 (W i) hw16
    -- go on from the next memory
    have nx : ∀ m2 : zMem, zRepS 3 (sDo s (W i) (V i) (O i)) m2 → (∀ c, (c < 3 ∨ 7 < c) → m2 c = μ c) → ∃ m1, fX4_isDoneTo_2 F 3 f (nI (i + 1)) m2 = some (nI 0, m1) ∧ zRepS 3 (yDo s0 W V O n) m1 ∧ ∀ c, (c < 3 ∨ 7 < c) → m1 c = μ c := by
      intro m2 h1 h2
      obtain ⟨m1, a1, a2, a3⟩ := ih (i + 1) f m2 (by omega) (by omega) (by rw [eS]; exact h1) ⟨by rw [h2 36 (by omega)]; exact hG.1, fun k hk => by rw [h2 37 (by omega), h2 38 (by omega), h2 39 (by omega)]; exact hG.2 k hk⟩
      exact ⟨m1, a1, a2, fun c hc => by rw [a3 c hc, h2 c hc]⟩
    rw [fX4_isDoneTo_2, hG.1, z_more (by omega) (by omega), zG_in rfl (by omega) (by decide), zG_in rfl (by omega) (by decide), zG_in rfl (by omega) (by decide), zG_in rfl (by omega) (by decide), cl9 (by omega), gw, gv, nI_add, cl9 (by omega)]
    have cw : μ (3 + 1) (W i) = nI (pK s (W i)) := hr.2.2.2.2.1 _ hw16
    rcases hcase with h33 | h63 | ⟨h43 | h45, ho⟩ | ⟨h61, ho⟩ | ⟨h62, ho, hto⟩
    · rw [h33, if_neg (by decide), if_neg (by decide), if_neg (by decide), if_neg (by decide), if_pos rfl, e_reads hw16 hws.2.1 hr.2.1, zBd_s]
      refine nx _ ?_ (fun c hc => zUp_ne (by omega))
      rw [h33]
      exact hr.r (W i) (zB true)
    · rw [h63, if_neg (by decide), if_neg (by decide), if_neg (by decide), if_neg (by decide), if_neg (by decide), e_reads hw16 hws.2.1 hr.2.1, zBd_s]
      refine nx _ ?_ (fun c hc => zUp_ne (by omega))
      rw [h63]
      exact hr.r (W i) (zB false)
    · rw [h43, if_pos rfl, zG_in rfl hw16 (by decide), zG_in rfl hw16 (by decide), go (by omega) (by omega), zq_1shl (by omega), cw, fa_or]
      refine nx _ ?_ (fun c hc => zUp_ne (by omega))
      rw [h43]
      exact hr.k (W i) _
    · rw [h45, if_neg (by decide), if_pos rfl, zG_in rfl hw16 (by decide), zG_in rfl hw16 (by decide), go (by omega) (by omega), zq_1shl (by omega), cw, zq_andn hK]
      refine nx _ ?_ (fun c hc => zUp_ne (by omega))
      rw [h45]
      exact hr.k (W i) _
    · rw [h61, if_neg (by decide), if_neg (by decide), if_pos rfl, zG_in rfl hw16 (by decide), go (by omega) (by omega)]
      refine nx _ ?_ (fun c hc => zUp_ne (by omega))
      rw [h61]
      exact hr.b (W i) _
    · have co : μ (3 + 1) (O i) = nI (pK s (O i)) := hr.2.2.2.2.1 _ ho
      rw [h62, if_neg (by decide), if_neg (by decide), if_neg (by decide), if_pos rfl, go (by omega) (by omega), zG_in rfl ho (by decide), zG_in rfl hw16 (by decide), zG_in rfl ho (by decide), cl9 (by omega), co, cw, fa_or]
      refine nx _ ?_ (fun c hc => zUp_ne (by omega))
      rw [h62]
      exact hr.k (O i) _
def aSG (A : zAS) (s : zPS) : zAS := (0, A.2.1, s, A.2.2.2.1, A.2.2.2.2.1, A.2.2.2.2.2)
theorem pr_gossip {F : Nat} (hF : 1100 ≤ F) (x : Int32) : zPair (fX11_gossip F x) (fX12_gossip F x) := by
  refine zPair.mk fun A μ hW hC => ?_
  cases hz : zIn x 1 120
  · refine ⟨-1, A, μ, ?_, hW, hC, fun _ _ => rfl, fun μ' hM => ⟨μ', ?_, hM, fun _ _ => rfl⟩⟩
    · unfold fX11_gossip
      rw [e_isWithin, zBd_s, hz, z_bf]
    · unfold fX12_gossip
      rw [e_in, zBd_s, hz, z_bf]
  · obtain ⟨n, h1n, hn, rfl⟩ := zIn_t (by decide) (by decide) hz
    have hT260 := hW.1.1
    by_cases ht : n ≤ aT A
    · obtain ⟨ok, n', W', V', O', ft, g1, g2, g3⟩ := gossip_k (N := n) (b := aB A) hn hW.1.2 hW.2.1 n 0 0 (fun _ => 0) (fun _ => 0) (fun _ => 0) (by omega) (by omega) (by omega) (fun i hi => by omega)
      obtain ⟨m2, b1, b2, b3, b4⟩ := g2 F F (zUp (zOp μ n) 36 3 (nI 0)) (by omega) (by omega) ((zOp_t hC.1 ht).of (by rw [zUp_ne (by decide)]) (by rw [zUp_ne (by decide)]) (zUp_ne (by decide))) ⟨zUp_s _ _ _ _, fun i hi => by omega⟩
      have ec : ∀ c, c ≠ 1 → c ≠ 36 → c ≠ 37 → c ≠ 38 → c ≠ 39 → m2 c = μ c := fun c h1 h2 h3 h4 h5 => by rw [b4 c h1 h2 h3 h4 h5, zUp_ne h2, zOp_ne h1]
      have hread : fX4_reads F (zOp μ n 3 4) (zOp μ n) = some (zB ok, m2) := by
        unfold fX4_reads
        rw [zOp_ne (by decide), hC.2.1.1]
        exact b1
      have cM : ∀ μ', zRepM A μ' → ∃ m4, fX12_gossip F (nI n) μ' = fX12_gossip_86 F (zB ok) m4 ∧ (ok = true → m4 60 32 = nI n' ∧ zRepN 61 (yDo (aN A) W' V' O' n') m4) ∧ (ok = false → m4 60 12 = ft) ∧ zRepN 62 (aN A) m4 ∧ (∀ j, j = 7 ∨ j = 18 ∨ j = 45 → m4 60 j = μ' 60 j) ∧ ∀ c, c ≠ 60 → c ≠ 61 → c ≠ 62 → m4 c = μ' c := by
        intro μ' hM
        have hr0 : zRepN 61 (aN A) (zUp (zBeg μ' n) 60 32 (nI 0)) := hM.2.1.of (by rw [zUp_ne (by decide), zBeg_ne (by decide)])
        obtain ⟨r3, m3, k1, k2, k3⟩ := e_copies (F := F) (h0 := 61) (h1 := 62) (by omega) (by decide) hW.2.1 hr0
        have hT3 : yTM n (aB A) 0 m3 := (zBeg_t hM.1 ht).of (by rw [k3 60 (by decide), zUp_o (by decide)]) (by rw [k3 60 (by decide), zUp_o (by decide)]) (by rw [k3 68 (by decide), zUp_ne (by decide)])
        have h32 : m3 60 32 = nI 0 := by rw [k3 60 (by decide), zUp_s]
        have hr3 : zRepN 61 (aN A) m3 := hr0.of (k3 61 (by decide))
        obtain ⟨m4, l1, l2, l3, l4, l5⟩ := g3 F F m3 (by omega) (by omega) hT3 h32 hr3
        refine ⟨m4, ?_, l2, l3, k2.of (l5 62 (by decide) (by decide)), fun j hj => by rw [l4 j (by omega) (by omega) (by omega) (by omega), k3 60 (by decide), zUp_o (by omega), zBeg_o (by omega) (by omega) (by omega) (by omega)], fun c h1 h2 h3 => by rw [l5 c h1 h2, k3 c h3, zUp_ne h1, zBeg_ne h1]⟩
        unfold fX12_gossip
        rw [e_in, zBd_s, hz, z_bt, hM.1.1, if_pos ((nI_leI (by omega) (by omega)).mpr ht), e_begins, zBd_s]
        dsimp only [zLt]
        rw [k1, zBd_s, ← l1]
        obtain ⟨ok2, p2, w2, v2, o2, ft2, -, -, q3⟩ := line_ex (N := n) (b := aB A) (p := 0) (n := 0) hn hW.1.2 hW.2.1 (by omega) (by omega)
        obtain ⟨m5, q4, -⟩ := q3 F m3 (by omega) hT3 h32 hr3
        rw [q4, zBd_s, zBd_s]
        cases ok2
        · rw [z_bf]; rfl
        · rw [z_bt]; rfl
      cases ok with
      | false =>
        refine ⟨ft, aST A 0 (aB A), zUp m2 1 1 (nI 0), ?_, hW.tape (by omega) hW.1.2, hC.tape ⟨zUp_s _ _ _ _, fun j hj => by omega⟩ (fun k _ h1 _ h3 => by rw [zUp_ne h1, ec k h1 (by omega) (by omega) (by omega) (by omega)]), fun c hc => by rw [zUp_ne (by omega), ec c (by omega) (by omega) (by omega) (by omega) (by omega)], fun μ' hM => ?_⟩
        · unfold fX11_gossip
          rw [e_isWithin, zBd_s, hz, z_bt, e_opens_t hC.1.1 hW.1.1 ht, zBd_s, z_bt, hread, zBd_s, e_empties, zBd_s, z_bf, zUp_o (by decide), b3 rfl]
        · obtain ⟨m4, q1, q2, q3, q4, q5, q6⟩ := cM μ' hM
          obtain ⟨r5, m5, s1, s2, s3⟩ := e_copies (F := F) (h0 := 62) (h1 := 61) (by omega) (by decide) hW.2.1 (q4.of (show zUp m4 60 9 (nI 0) 62 = m4 62 from zUp_ne (by decide)))
          have e60 : m5 60 = zUp m4 60 9 (nI 0) 60 := s3 60 (by decide)
          have ek : ∀ c, c ≠ 60 → c ≠ 61 → c ≠ 62 → m5 c = μ' c := fun c h1 h2 h3 => by rw [s3 c h2, zUp_ne h1, q6 c h1 h2 h3]
          refine ⟨m5, ?_, ⟨⟨by rw [e60, zUp_s]; rfl, fun j hj => by have hj : j < 0 := hj; omega⟩, s2, hM.2.2.1.of (by rw [e60, zUp_o (by decide), q5 45 (by omega)]) (ek 63 (by decide) (by decide) (by decide)), hM.2.2.2.1.of (by rw [e60, zUp_o (by decide), q5 18 (by omega)]) (fun k h1 h2 => ek k (by omega) (by omega) (by omega)), hM.2.2.2.2.of (by rw [e60, zUp_o (by decide), q5 7 (by omega)]) (ek 64 (by decide) (by decide) (by decide)) (ek 65 (by decide) (by decide) (by decide))⟩, fun c hc => ek c (by omega) (by omega) (by omega)⟩
          rw [q1]
          unfold fX12_gossip_86
          dsimp only [zLt]
          rw [z_bf, s1, zBd_s, e60, zUp_o (by decide), q3 rfl]
      | true =>
        obtain ⟨r1, r2⟩ := g1 rfl
        have hG2 := b2 rfl
        have hr2 : zRepS 3 (aN A) (zUp m2 1 1 (nI 0)) := hC.2.1.of (fun c h1 h2 => by rw [zUp_ne (by omega), ec c (by omega) (by omega) (by omega) (by omega) (by omega)])
        obtain ⟨m3, d1, d2, d3⟩ := done_C (F := F) hW.2.1 r1 r2 n' 0 F (zUp m2 1 1 (nI 0)) (by omega) (by omega) hr2 ⟨by rw [zUp_ne (by decide)]; exact hG2.1, fun i hi => by rw [zUp_ne (by decide), zUp_ne (by decide), zUp_ne (by decide)]; exact hG2.2 i hi⟩
        have e3 : ∀ c, (c < 3 ∨ 7 < c) → c ≠ 1 → c ≠ 36 → c ≠ 37 → c ≠ 38 → c ≠ 39 → m3 c = μ c := fun c h0 h1 h2 h3 h4 h5 => by rw [d3 c h0, zUp_ne h1, ec c h1 h2 h3 h4 h5]
        have e30 := e3 0 (by omega) (by omega) (by omega) (by omega) (by omega) (by omega)
        refine ⟨nI n', aSG A (yDo (aN A) W' V' O' n'), m3, ?_, ⟨⟨by show 0 ≤ 260; omega, hW.1.2⟩, yDo_wf hW.2.1 n' r2, hW.2.2⟩, ⟨⟨by rw [d3 1 (by omega), zUp_s]; rfl, fun j hj => by have hj : j < 0 := hj; omega⟩, d2, hC.2.2.1.of (by rw [e30]) (fun k h1 h2 => e3 k (by omega) (by omega) (by omega) (by omega) (by omega) (by omega)), hC.2.2.2.1.of (fun k h1 h2 => e3 k (by omega) (by omega) (by omega) (by omega) (by omega) (by omega)), hC.2.2.2.2.of (by rw [e30]) (by rw [e30]) (fun k h1 h2 => e3 k (by omega) (by omega) (by omega) (by omega) (by omega) (by omega))⟩, fun c hc => e3 c (by omega) (by omega) (by omega) (by omega) (by omega) (by omega), fun μ' hM => ?_⟩
        · unfold fX11_gossip fX4_isDoneTo
          rw [e_isWithin, zBd_s, hz, z_bt, e_opens_t hC.1.1 hW.1.1 ht, zBd_s, z_bt, hread, zBd_s, e_empties, zBd_s, z_bt, d1, zBd_s, d3 36 (by omega), zUp_ne (by decide), hG2.1]
        · obtain ⟨m4, q1, q2, q3, q4, q5, q6⟩ := cM μ' hM
          obtain ⟨s1, s2⟩ := q2 rfl
          refine ⟨zUp m4 60 9 (nI 0), ?_, ⟨⟨by rw [zUp_s]; rfl, fun j hj => by have hj : j < 0 := hj; omega⟩, s2.of (zUp_ne (by decide)), hM.2.2.1.of (by rw [zUp_o (by decide), q5 45 (by omega)]) (by rw [zUp_ne (by decide), q6 63 (by decide) (by decide) (by decide)]), hM.2.2.2.1.of (by rw [zUp_o (by decide), q5 18 (by omega)]) (fun k h1 h2 => by rw [zUp_ne (by omega), q6 k (by omega) (by omega) (by omega)]), hM.2.2.2.2.of (by rw [zUp_o (by decide), q5 7 (by omega)]) (by rw [zUp_ne (by decide), q6 64 (by decide) (by decide) (by decide)]) (by rw [zUp_ne (by decide), q6 65 (by decide) (by decide) (by decide)])⟩, fun c hc => by rw [zUp_ne (by omega), q6 c (by omega) (by omega) (by omega)]⟩
          rw [q1]
          unfold fX12_gossip_86
          dsimp only [zLt]
          rw [z_bt, zUp_o (by decide), s1]
    · refine ⟨-1, A, μ, ?_, hW, hC, fun _ _ => rfl, fun μ' hM => ⟨μ', ?_, hM, fun _ _ => rfl⟩⟩
      · unfold fX11_gossip
        rw [e_isWithin, zBd_s, hz, z_bt, e_opens_f hC.1.1 hW.1.1 (by omega) (by omega), zBd_s, z_bf]
      · unfold fX12_gossip
        rw [e_in, zBd_s, hz, z_bt, hM.1.1, if_neg (fun z => ht ((nI_leI (by omega) (by omega)).mp z))]
