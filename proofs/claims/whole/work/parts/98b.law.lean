/-! ===== the law is read: rules ===== -/
def yRC (d r : Nat) (RK RV RT RE : Nat → Nat) (μ : zMem) : Prop := μ d 7 = nI r ∧ ∀ i, i < r → μ (d + 3) i = nI (RK i) ∧ μ (d + 4) i = nI (RV i) ∧ μ (d + 5) i = nI (RT i) ∧ μ (d + 6) i = nI (RE i)
def yRM (r : Nat) (RK RV RT RE : Nat → Nat) (μ : zMem) : Prop := μ 60 17 = nI r ∧ ∀ i, i < r → μ 71 i = nI (RK i) ∧ μ 72 i = nI (RV i) ∧ μ 73 i = nI (RT i) ∧ μ 74 i = nI (RE i)
def yKd (x : Nat) : Prop := x = 101 ∨ x = 104 ∨ x = 109 ∨ x = 114
def yRv (k : yCd) (r : Nat) (RK RV RT RE : Nat → Nat) : Prop := ∀ i, i < r → yKd (RK i) ∧ RE i ≤ k.1 ∧ yST (yL k) (RT i) (RE i) 24 ∧ (RK i ≠ 114 → ySV (yL k) (RV i) (RT i) 24)
/-- a condition in its brackets, none around it -/
theorem rcond_ex {N : Nat} {b : Nat → Nat} (hN : N ≤ 240) (hb : ∀ j, b j < 256) {p : Nat} {k : yCd} (hp : p ≤ N) (hk : k.1 ≤ p) : ∃ (ok : Bool) (p' : Nat) (k' : yCd) (ft : Int32), (ok = true → p < p' ∧ p' ≤ N ∧ kE k k' ∧ k'.1 ≤ p' ∧ yST (yL k') k.1 k'.1 24) ∧
    (∀ (F d : Nat) (μ : zMem), 300 ≤ F → (d = 19 ∨ d = 26) → yPC N b p d k μ → ∃ m1, (∀ K : zMem → Option zR, zBd (fX9_needs F (nI 40) μ) (fun r6 m6 => if r6 = 0 then some ((nI 0), m6) else zBd (fX6_readsCondition F 60 (nI 1) m6) (fun r7 m7 => if r7 = 0 then some ((nI 0), m7) else zBd (fX9_needs F (nI 41) m7) (fun r8 m8 => if r8 = 0 then some ((nI 0), m8) else K m8))) = if ok = true then K m1 else some (nI 0, m1)) ∧ (ok = true → yPC N b p' d k' m1) ∧ (ok = false → m1 1 3 = ft) ∧ frC d μ m1) ∧
    ∀ (F o w : Nat) (Wk : Nat → Nat) (μ : zMem), 300 ≤ F → yPM N b p o w Wk k μ → ∃ m1, fX12_readsCondition F μ = some (zB ok, m1) ∧ (ok = true → yPM N b p' 0 0 (fun _ => 0) k' m1) ∧ (ok = false → m1 60 12 = ft) ∧ frM μ m1 := by
  by_cases h40 : p < N ∧ b p = 40
  · obtain ⟨ok, p', k1, or1, an1, ft, g1, g2, g3⟩ := (cond_all hN hb (N - (p + 1)) (p + 1) 1 k (Nat.le_refl _) (by omega) (by omega) (by omega)).2 0 0 k.1 ⟨k.1, Nat.le_refl _, Nat.le_refl _, rfl, rfl⟩
    have cC : ∀ (F d : Nat) (μ : zMem), 300 ≤ F → (d = 19 ∨ d = 26) → yPC N b p d k μ → ∃ m1, fX9_needs F (nI 40) μ = some (nI 1, zUp μ 1 2 (nI (p + 1))) ∧ fX6_readsCondition F 60 (nI 1) (zUp μ 1 2 (nI (p + 1))) = some (zB ok, m1) ∧ (ok = true → yPC N b p' d (yLand (yLand k1 an1) or1) m1) ∧ (ok = false → m1 1 3 = ft) ∧ frC d μ m1 := by
      intro F d μ hF hd hP
      obtain ⟨m1, a1, a2, a3, a4⟩ := g2 F 59 d F 0 (zUp μ 1 2 (nI (p + 1))) hF (by omega) (by omega) (by omega) hd (hP.pos hd)
      refine ⟨m1, e_needs_t hP.1 (by omega) h40.1 h40.2, ?_, a2, a3, (frC_1 hd).trans a4⟩
      unfold fX6_readsCondition
      rw [fGC, if_pos rfl]
      exact a1
    have cM : ∀ (F o w : Nat) (Wk : Nat → Nat) (μ : zMem), 300 ≤ F → yPM N b p o w Wk k μ → ∃ m1, (ok = true → ∃ n' g', 1 < g' ∧ fX12_readsCondition F μ = fX12_readsCondition_92 F (fX12_readsCondition_40 F n') g' m1 ∧ yPM N b p' 1 (yCn 1 or1 an1) (yCk (fun _ => 1048576 * 13) 1 or1 an1) k1 m1) ∧ (ok = false → fX12_readsCondition F μ = some (nI 0, m1) ∧ m1 60 12 = ft) ∧ frM μ m1 := by
      intro F o w Wk μ hF hP
      have h1 := (hP.opn (o' := 0)).pop (Nat.zero_le w)
      obtain ⟨m0, a1, a2, a3⟩ := e_mOpens_t (F := F) (x := 13) h1 (by omega) (by omega)
      obtain ⟨m1, b1, b2, b3⟩ := g3 F F 1 (fun _ => 1048576 * 13) m0 hF (by omega) (by show 1 + 0 + 0 ≤ _; omega) (by omega) (fun i hi => by show 1048576 * 13 < 16777216; decide) (by decide) (a2.wk (fun i hi => by rw [yCk_in hi, show i = 0 by omega, uN_s]))
      have e : fX12_readsCondition F μ = fX12_readsCondition_40 F F m0 := by
        unfold fX12_readsCondition
        rw [e_here hP.1 (by omega) (by omega), zBd_s, ySg_in h40.1, h40.2, if_pos rfl]
        dsimp only [zLt]
        rw [a1, zBd_s, if_neg (show ¬ nI 1 = 0 by decide)]
      rw [e]
      refine ⟨m1, fun h => ?_, b2, (((frM_60 (by omega)).trans (frM_60 (by omega))).trans a3).trans b3⟩
      obtain ⟨n', g', c1, c2, c3, c4⟩ := b1 h
      exact ⟨n', g', c2, c3, c4⟩
    cases ok with
    | false =>
      refine ⟨false, 0, k, ft, fun h => (by cases h), fun F d μ hF hd hP => ?_, fun F o w Wk μ hF hP => ?_⟩
      · obtain ⟨m1, a1, a2, a3, a4, a5⟩ := cC F d μ hF hd hP
        refine ⟨m1, fun K => ?_, fun h => (by cases h), a4, a5⟩
        rw [a1, zBd_s, if_neg (show ¬ nI 1 = 0 by decide), a2, zBd_s, z_bf]
        rfl
      · obtain ⟨m1, a1, a2, a3⟩ := cM F o w Wk μ hF hP
        obtain ⟨b1, b2⟩ := a2 rfl
        exact ⟨m1, b1, fun h => (by cases h), fun _ => b2, a3⟩
    | true =>
      obtain ⟨q1, q2, q3, q4, q5, q6, q7, q8, q9, q10⟩ := g1 rfl
      have hk' : (yLand (yLand k1 an1) or1).1 = k1.1 := by rw [yLand_1, yLand_1]
      by_cases h41 : p' < N ∧ b p' = 41
      · refine ⟨true, p' + 1, yLand (yLand k1 an1) or1, 0, fun _ => ⟨by omega, by omega, ⟨by omega, q9⟩, by omega, by rw [hk']; exact q10⟩, fun F d μ hF hd hP => ?_, fun F o w Wk μ hF hP => ?_⟩
        · obtain ⟨m1, a1, a2, a3, a4, a5⟩ := cC F d μ hF hd hP
          have hP1 := a3 rfl
          refine ⟨zUp m1 1 2 (nI (p' + 1)), fun K => ?_, fun _ => hP1.pos hd, fun h => (by cases h), a5.trans (frC_1 hd)⟩
          rw [a1, zBd_s, if_neg (show ¬ nI 1 = 0 by decide), a2, zBd_s, z_bt, e_needs_t hP1.1 (by omega) h41.1 h41.2, zBd_s, if_neg (show ¬ nI 1 = 0 by decide), if_pos rfl]
        · obtain ⟨m1, a1, a2, a3⟩ := cM F o w Wk μ hF hP
          obtain ⟨n', g', c2, c3, c4⟩ := a1 rfl
          obtain ⟨g2', rfl⟩ : ∃ g2', g' = g2' + 1 := ⟨g' - 1, by omega⟩
          obtain ⟨m2, d1, d2, d3⟩ := ld_all (F := F) (by omega) c4 (by omega) (by omega) (fun i hi => by show 1048576 * 13 < 16777216; decide) (by decide) (by omega) q5 q6 q7
          have e1 := (d2.pop (Nat.zero_le 1)).wk (Wk2 := fun _ => 0) (fun i hi => by omega)
          have e2 := e1.opn (o' := 0)
          have e3 := e2.pos (q := p' + 1)
          refine ⟨_, ?_, fun _ => e3, fun h => (by cases h), (a3.trans d3).trans (((frM_60 (by omega)).trans (frM_60 (by omega))).trans (frM_60 (by omega)))⟩
          rw [c3, fX12_readsCondition_92, e_here c4.1 (by omega) (by omega), zBd_s, ySg_in h41.1, h41.2, if_pos rfl, d1, zBd_s]
          dsimp only [zLt]
          rw [d2.2.2.1, pk_sub (by omega), show 1 - 1 = 0 from rfl, e1.2.1, pk_sub (by omega), show 1 - 1 = 0 from rfl, e2.1.2.1, nI_add, e3.2.2.1, if_pos (show nI 0 = 0 from rfl)]
          rfl
      · refine ⟨false, 0, k, yFt 1 p', fun h => (by cases h), fun F d μ hF hd hP => ?_, fun F o w Wk μ hF hP => ?_⟩
        · obtain ⟨m1, a1, a2, a3, a4, a5⟩ := cC F d μ hF hd hP
          have hP1 := a3 rfl
          refine ⟨zUp m1 1 3 (yFt 1 p'), fun K => ?_, fun h => (by cases h), fun _ => zUp_s _ _ _ _, a5.trans (frC_1 hd)⟩
          rw [a1, zBd_s, if_neg (show ¬ nI 1 = 0 by decide), a2, zBd_s, z_bt, e_needs_f hP1.1 (by omega) (by omega) (hb _) (by decide) h41, zBd_s, if_pos (show nI 0 = 0 from rfl)]
          rfl
        · obtain ⟨m1, a1, a2, a3⟩ := cM F o w Wk μ hF hP
          obtain ⟨n', g', c2, c3, c4⟩ := a1 rfl
          obtain ⟨g2', rfl⟩ : ∃ g2', g' = g2' + 1 := ⟨g' - 1, by omega⟩
          refine ⟨zUp m1 60 12 (yFt 1 p'), ?_, fun h => (by cases h), fun _ => zUp_s _ _ _ _, a3.trans (frM_60 (by omega))⟩
          rw [c3, fX12_readsCondition_92, e_here c4.1 (by omega) (by omega), zBd_s, if_neg (fun z => h41 ((ySg_eq (hb p') (by decide)).mp z)), e_here c4.1 (by omega) (by omega), zBd_s, if_neg (fun z => by obtain ⟨z1, z2⟩ := (ySg_eq (hb p') (by decide)).mp z; exact (q8 z1).1 z2), e_here c4.1 (by omega) (by omega), zBd_s, if_neg (fun z => by obtain ⟨z1, z2⟩ := (ySg_eq (hb p') (by decide)).mp z; exact (q8 z1).2 z2), c4.1.2.1, e_wrongAt, zBd_s, zGb0]
          rfl
  · refine ⟨false, 0, k, yFt 1 p, fun h => (by cases h), fun F d μ hF hd hP => ?_, fun F o w Wk μ hF hP => ?_⟩
    · refine ⟨zUp μ 1 3 (yFt 1 p), fun K => ?_, fun h => (by cases h), fun _ => zUp_s _ _ _ _, frC_1 hd⟩
      rw [e_needs_f hP.1 (by omega) (by omega) (hb _) (by decide) h40, zBd_s, if_pos (show nI 0 = 0 from rfl)]
      rfl
    · refine ⟨zUp μ 60 12 (yFt 1 p), ?_, fun h => (by cases h), fun _ => zUp_s _ _ _ _, frM_60 (by omega)⟩
      unfold fX12_readsCondition
      rw [e_here hP.1 (by omega) (by omega), zBd_s, if_neg (fun z => h40 ((ySg_eq (hb p) (by decide)).mp z)), hP.1.2.1, e_wrongAt, zBd_s, zGb0]
      rfl
/-- what of the class stands while a rule is read -/
def frR (d r : Nat) (μ m1 : zMem) : Prop := (∀ j, j ≠ 6 → j ≠ 7 → m1 d j = μ d j) ∧ (∀ e i, 3 ≤ e → e ≤ 6 → i ≠ r → m1 (d + e) i = μ (d + e) i) ∧ ∀ c, c ≠ 1 → (c < d ∨ d + 6 < c) → m1 c = μ c
def frT (r : Nat) (μ m1 : zMem) : Prop := (∀ j, j ≠ 10 → j ≠ 12 → j ≠ 13 → j ≠ 14 → j ≠ 15 → j ≠ 16 → j ≠ 17 → m1 60 j = μ 60 j) ∧ (∀ c i, 71 ≤ c → c ≤ 74 → i ≠ r → m1 c i = μ c i) ∧ ∀ c, c ≠ 60 → (c < 69 ∨ 74 < c) → m1 c = μ c
/-- the class's tail behind a rule -/
def yTail (F : Nat) (k9 : Int32 → zMem → Option zR) (v2 : Int32) (m16 : zMem) : Option zR := zBd (fX9_isOver F m16) (fun r17 m17 => if r17 = 0 then zBd (fX9_needs F (nI 59) m17) (fun r18 m18 => if r18 = 0 then some ((nI 0), m18) else k9 (v2 + (nI 1)) m18) else zBd (fX6_takesEffect F m17) (fun r19 m19 => some ((nI 1), m19)))
theorem rule_ex {N : Nat} {b : Nat → Nat} (hN : N ≤ 240) (hb : ∀ j, b j < 256) {p r : Nat} {k : yCd} (hp : p ≤ N) (hr : r ≤ 16) (hk : k.1 ≤ p) : ∃ (ok : Bool) (p' : Nat) (k' : yCd) (kd vf tf te : Nat) (ft : Int32), (ok = true → p < p' ∧ p' ≤ N ∧ r < 16 ∧ kE k k' ∧ k'.1 ≤ p' ∧ yKd kd ∧ te = k'.1 ∧ yST (yL k') tf te 24 ∧ (kd ≠ 114 → ySV (yL k') vf tf 24)) ∧
    (∀ (F d f : Nat) (μ : zMem), 300 ≤ F → (d = 19 ∨ d = 26) → yPC N b p d k μ → μ d 7 = nI r → ∃ m1, fX6_reads_9 F (f + 1) (nI r) μ = (if ok = true then yTail F (fX6_reads_9 F f) (nI r) m1 else some (nI 0, m1)) ∧ (ok = true → yPC N b p' d k' m1 ∧ m1 d 7 = nI (r + 1) ∧ m1 (d + 3) r = nI kd ∧ m1 (d + 4) r = nI vf ∧ m1 (d + 5) r = nI tf ∧ m1 (d + 6) r = nI te) ∧ (ok = false → m1 1 3 = ft) ∧ frR d r μ m1) ∧
    ∀ (F o w : Nat) (Wk : Nat → Nat) (μ : zMem), 300 ≤ F → yPM N b p o w Wk k μ → μ 60 17 = nI r → ∃ m1, fX12_readsRule F μ = some (zB ok, m1) ∧ (ok = true → yPM N b p' 0 0 (fun _ => 0) k' m1 ∧ m1 60 17 = nI (r + 1) ∧ m1 71 r = nI kd ∧ m1 72 r = nI vf ∧ m1 73 r = nI tf ∧ m1 74 r = nI te) ∧ (ok = false → m1 60 12 = ft) ∧ frT r μ m1 := by
  have frRof : ∀ {d : Nat} {μ m1 : zMem}, (d = 19 ∨ d = 26) → frC d μ m1 → frR d r μ m1 := fun {d μ m1} hd h => ⟨fun j h6 _ => h.1 j h6, fun e i h1 h2 _ => by rw [h.2 (d + e) (by omega) (by omega) (by omega) (by omega)], fun c h1 h2 => h.2 c h1 (by omega) (by omega) (by omega)⟩
  have frTof : ∀ {μ m1 : zMem}, frM μ m1 → frT r μ m1 := fun {μ m1} h => ⟨fun j a1 a2 a3 a4 a5 a6 _ => h.1 j a1 a2 a3 a4 a5 a6, fun c i h1 h2 _ => by rw [h.2 c (by omega) (by omega) (by omega)], fun c h1 h2 => h.2 c h1 (by omega) (by omega)⟩
  have frRtr : ∀ {d : Nat} {x y z : zMem}, frR d r x y → frR d r y z → frR d r x z := fun {d x y z} h1 h2 => ⟨fun j a1 a2 => (h2.1 j a1 a2).trans (h1.1 j a1 a2), fun e i a1 a2 a3 => (h2.2.1 e i a1 a2 a3).trans (h1.2.1 e i a1 a2 a3), fun c a1 a2 => (h2.2.2 c a1 a2).trans (h1.2.2 c a1 a2)⟩
  have frTtr : ∀ {x y z : zMem}, frT r x y → frT r y z → frT r x z := fun {x y z} h1 h2 => ⟨fun j a1 a2 a3 a4 a5 a6 a7 => (h2.1 j a1 a2 a3 a4 a5 a6 a7).trans (h1.1 j a1 a2 a3 a4 a5 a6 a7), fun c i a1 a2 a3 => (h2.2.1 c i a1 a2 a3).trans (h1.2.1 c i a1 a2 a3), fun c a1 a2 => (h2.2.2 c a1 a2).trans (h1.2.2 c a1 a2)⟩
  have frRst : ∀ {d e : Nat} {μ : zMem} {x : Int32}, (d = 19 ∨ d = 26) → 3 ≤ e → e ≤ 6 → frR d r μ (zUp μ (d + e) r x) := fun {d e μ x} hd h1 h2 => ⟨fun j _ _ => by rw [zUp_ne (by omega)], fun e' i a1 a2 a3 => by
    by_cases he : e' = e
    · rw [he, zUp_o a3]
    · rw [zUp_ne (by omega)], fun c a1 a2 => zUp_ne (by omega)⟩
  have frTst : ∀ {c : Nat} {μ : zMem} {x : Int32}, 71 ≤ c → c ≤ 74 → frT r μ (zUp μ c r x) := fun {c μ x} h1 h2 => ⟨fun j _ _ _ _ _ _ _ => by rw [zUp_ne (by omega)], fun c' i a1 a2 a3 => by
    by_cases he : c' = c
    · rw [he, zUp_o a3]
    · rw [zUp_ne he], fun c' a1 a2 => zUp_ne (by omega)⟩
  have fault : ∀ kk : Nat, (∀ (F d f : Nat) (μ : zMem), 300 ≤ F → (d = 19 ∨ d = 26) → yPC N b p d k μ → fX6_reads_9 F (f + 1) (nI r) μ = some (nI 0, zUp μ 1 3 (yFt kk p))) → (∀ (F o w : Nat) (Wk : Nat → Nat) (μ : zMem), 300 ≤ F → yPM N b p o w Wk k μ → μ 60 17 = nI r → fX12_readsRule F μ = some (nI 0, zUp μ 60 12 (yFt kk p))) → ∃ (ok : Bool) (p' : Nat) (k' : yCd) (kd vf tf te : Nat) (ft : Int32), (ok = true → p < p' ∧ p' ≤ N ∧ r < 16 ∧ kE k k' ∧ k'.1 ≤ p' ∧ yKd kd ∧ te = k'.1 ∧ yST (yL k') tf te 24 ∧ (kd ≠ 114 → ySV (yL k') vf tf 24)) ∧
    (∀ (F d f : Nat) (μ : zMem), 300 ≤ F → (d = 19 ∨ d = 26) → yPC N b p d k μ → μ d 7 = nI r → ∃ m1, fX6_reads_9 F (f + 1) (nI r) μ = (if ok = true then yTail F (fX6_reads_9 F f) (nI r) m1 else some (nI 0, m1)) ∧ (ok = true → yPC N b p' d k' m1 ∧ m1 d 7 = nI (r + 1) ∧ m1 (d + 3) r = nI kd ∧ m1 (d + 4) r = nI vf ∧ m1 (d + 5) r = nI tf ∧ m1 (d + 6) r = nI te) ∧ (ok = false → m1 1 3 = ft) ∧ frR d r μ m1) ∧
    ∀ (F o w : Nat) (Wk : Nat → Nat) (μ : zMem), 300 ≤ F → yPM N b p o w Wk k μ → μ 60 17 = nI r → ∃ m1, fX12_readsRule F μ = some (zB ok, m1) ∧ (ok = true → yPM N b p' 0 0 (fun _ => 0) k' m1 ∧ m1 60 17 = nI (r + 1) ∧ m1 71 r = nI kd ∧ m1 72 r = nI vf ∧ m1 73 r = nI tf ∧ m1 74 r = nI te) ∧ (ok = false → m1 60 12 = ft) ∧ frT r μ m1 := by
    intro kk h1 h2
    refine ⟨false, 0, k, 0, 0, 0, 0, yFt kk p, fun h => (by cases h), fun F d f μ hF hd hP h7 => ⟨zUp μ 1 3 (yFt kk p), ?_, fun h => (by cases h), fun _ => zUp_s _ _ _ _, frRof hd (frC_1 hd)⟩, fun F o w Wk μ hF hP h17 => ⟨zUp μ 60 12 (yFt kk p), ?_, fun h => (by cases h), fun _ => zUp_s _ _ _ _, frTof (frM_60 (by omega))⟩⟩
    · rw [h1 F d f μ hF hd hP, if_neg (by decide)]
    · rw [h2 F o w Wk μ hF hP h17]; rfl
  by_cases hkd : p < N ∧ yKd (b p)
  · obtain ⟨hpN, hkd⟩ := hkd
    have hS : ySg N b p = nI (b p) := ySg_in hpN
    have hbp := hb p
    have c50 : ∀ (F d f : Nat) (μ : zMem), yPC N b p d k μ → fX6_reads_9 F (f + 1) (nI r) μ = fX6_reads_50 F (fX6_reads_9 F f) (nI r) (nI (b p)) μ := by
      intro F d f μ hP
      rw [fX6_reads_9, if_neg (fun z => by have := (nI_ltI (by decide) (by omega)).mp z; omega), e_sign hP.1 (by omega) (by omega), zBd_s, hS]
      rcases hkd with e | e | e | e
      · rw [if_pos (by rw [e])]
      · rw [if_neg (by rw [e]; decide), if_pos (by rw [e])]
      · rw [if_neg (by rw [e]; decide), if_neg (by rw [e]; decide), if_pos (by rw [e])]
      · rw [if_neg (by rw [e]; decide), if_neg (by rw [e]; decide), if_neg (by rw [e]; decide), if_pos (by rw [e])]
    have m39 : ∀ (F o w : Nat) (Wk : Nat → Nat) (μ : zMem), yPM N b p o w Wk k μ → fX12_readsRule F μ = fX12_readsRule_39 F (nI (b p)) μ := by
      intro F o w Wk μ hP
      unfold fX12_readsRule
      rw [e_here hP.1 (by omega) (by omega), zBd_s, hS]
      rcases hkd with e | e | e | e
      · rw [if_pos (by rw [e])]
      · rw [if_neg (by rw [e]; decide), if_pos (by rw [e])]
      · rw [if_neg (by rw [e]; decide), if_neg (by rw [e]; decide), if_pos (by rw [e])]
      · rw [if_neg (by rw [e]; decide), if_neg (by rw [e]; decide), if_neg (by rw [e]; decide), if_pos (by rw [e])]
    by_cases hr16 : r = 16
    · refine fault 4 (fun F d f μ hF hd hP => ?_) (fun F o w Wk μ hF hP h17 => ?_)
      · rw [c50 F d f μ hP]
        unfold fX6_reads_50
        rw [if_pos (by rw [hr16]), e_fails hP.1, zBd_s, zGb0]
      · rw [m39 F o w Wk μ hP]
        unfold fX12_readsRule_39
        rw [h17, if_pos (by rw [hr16]), hP.1.2.1, e_wrongAt, zBd_s, zGb0]
    · have hr15 : r < 16 := by omega
      -- the value, if there is one
      have val : ∃ (ok : Bool) (p1 : Nat) (k1 : yCd) (ft : Int32), (ok = true → p < p1 ∧ p1 ≤ N ∧ kE k k1 ∧ k1.1 ≤ p1 ∧ (b p ≠ 114 → ySV (yL k1) k.1 k1.1 24)) ∧
          (∀ (F d f : Nat) (μ : zMem), 300 ≤ F → (d = 19 ∨ d = 26) → yPC N b p d k μ → ∃ m1, fX6_reads_50 F (fX6_reads_9 F f) (nI r) (nI (b p)) μ = (if ok = true then fX6_reads_115 F (fX6_reads_9 F f) (nI r) m1 else some (nI 0, m1)) ∧ (ok = true → yPC N b p1 d k1 m1 ∧ m1 d 7 = μ d 7 ∧ m1 (d + 3) r = nI (b p) ∧ m1 (d + 4) r = nI k.1) ∧ (ok = false → m1 1 3 = ft) ∧ frR d r μ m1) ∧
          ∀ (F o w : Nat) (Wk : Nat → Nat) (μ : zMem), 300 ≤ F → yPM N b p o w Wk k μ → μ 60 17 = nI r → ∃ m1, fX12_readsRule_39 F (nI (b p)) μ = (if ok = true then fX12_readsRule_116 F m1 else some (nI 0, m1)) ∧ (ok = true → yPM N b p1 0 0 (fun _ => 0) k1 m1 ∧ m1 60 17 = nI r ∧ m1 71 r = nI (b p) ∧ m1 72 r = nI k.1) ∧ (ok = false → m1 60 12 = ft) ∧ frT r μ m1 := by
        -- what both do ahead of the value
        have cA : ∀ (F d f : Nat) (μ : zMem), 300 ≤ F → (d = 19 ∨ d = 26) → yPC N b p d k μ → ∃ m1, yPC N b (p + 1) d k m1 ∧ m1 d 7 = μ d 7 ∧ m1 (d + 3) r = nI (b p) ∧ m1 (d + 4) r = nI k.1 ∧ frR d r μ m1 ∧ fX6_reads_50 F (fX6_reads_9 F f) (nI r) (nI (b p)) μ = if nI (b p) = (nI 114) then fX6_reads_115 F (fX6_reads_9 F f) (nI r) m1 else zBd (fX6_readsValue F 60 (nI 0) m1) (fun r12 m12 => if r12 = 0 then some ((nI 0), m12) else fX6_reads_115 F (fX6_reads_9 F f) (nI r) m12) := by
          intro F d f μ hF hd hP
          have h1 := hP.pos (q := p + 1) hd
          have hP2 : ∀ {m : zMem} {e : Nat} {x : Int32}, 3 ≤ e → e ≤ 6 → yPC N b (p + 1) d k m → yPC N b (p + 1) d k (zUp m (d + e) r x) := fun {m e x} h3 h6 h => ⟨h.1.of (by rw [zUp_ne (by omega)]) (by rw [zUp_ne (by omega)]) (zUp_ne (by omega)), by rw [zUp_ne (by omega)]; exact h.2.1, by rw [zUp_ne (by omega)]; exact h.2.2.1, fun i hi => by rw [zUp_ne (by omega), zUp_ne (by omega)]; exact h.2.2.2 i hi⟩
          have h2 := hP2 (e := 3) (x := nI (b p)) (by omega) (by omega) h1
          have h3 := hP2 (e := 4) (x := nI k.1) (by omega) (by omega) h2
          refine ⟨_, h3, by rw [zUp_ne (by omega), zUp_ne (by omega), zUp_ne (by omega)], by rw [zUp_ne (by omega), zUp_s], zUp_s _ _ _ _, frRtr (frRtr (frRof hd (frC_1 hd)) (frRst hd (by omega) (by omega))) (frRst hd (by omega) (by omega)), ?_⟩
          unfold fX6_reads_50
          rw [if_neg (fun z => hr16 ((nI_eq (by omega) (by decide)).mp z)), hP.1.2.1, nI_add]
          dsimp only [zLt]
          rw [h1.2.1, cl9 (by omega), zGb_t (lw_is hd), zG_in rfl hr15 (by decide), cl9 (by omega), h2.2.1, cl9 (by omega), zGb_t (lw_is hd), zGb_t (lw_is hd), zG_in rfl hr15 (by decide), h2.2.2.1]
        have mA : ∀ (F o w : Nat) (Wk : Nat → Nat) (μ : zMem), 300 ≤ F → yPM N b p o w Wk k μ → μ 60 17 = nI r → ∃ m1, yPM N b (p + 1) 0 0 (fun _ => 0) k m1 ∧ m1 60 17 = nI r ∧ m1 71 r = nI (b p) ∧ m1 72 r = nI k.1 ∧ frT r μ m1 ∧ fX12_readsRule_39 F (nI (b p)) μ = if nI (b p) = (nI 114) then fX12_readsRule_116 F m1 else zBd (fX12_readsSum F m1) (fun r15 m15 => if r15 = 0 then some ((nI 0), m15) else fX12_readsRule_116 F m15) := by
          intro F o w Wk μ hF hP h17
          have hP2 : ∀ {m : zMem} {q c : Nat} {x : Int32}, 71 ≤ c → c ≤ 74 → yPM N b q o w Wk k m → yPM N b q o w Wk k (zUp m c r x) := fun {m q c x} h3 h6 h => ⟨h.1.of (by rw [zUp_ne (by omega)]) (by rw [zUp_ne (by omega)]) (zUp_ne (by omega)), by rw [zUp_ne (by omega)]; exact h.2.1, by rw [zUp_ne (by omega)]; exact h.2.2.1, fun i hi => by rw [zUp_ne (by omega)]; exact h.2.2.2.1 i hi, by rw [zUp_ne (by omega)]; exact h.2.2.2.2.1, fun i hi => by rw [zUp_ne (by omega)]; exact h.2.2.2.2.2 i hi⟩
          have h1 := hP2 (c := 71) (x := nI (b p)) (by omega) (by omega) hP
          have h2 := h1.pos (q := p + 1)
          have h3 := hP2 (c := 72) (x := nI k.1) (by omega) (by omega) h2
          have h4 := ((h3.opn (o' := 0)).pop (Nat.zero_le w)).wk (Wk2 := fun _ => 0) (fun i hi => by omega)
          refine ⟨_, h4, by rw [zUp_o (by decide), zUp_o (by decide), zUp_ne (by decide), zUp_o (by decide), zUp_ne (by decide)]; exact h17, by rw [zUp_ne (by decide), zUp_ne (by decide), zUp_ne (by decide), zUp_ne (by decide), zUp_s], by rw [zUp_ne (by decide), zUp_ne (by decide), zUp_s], frTtr (frTtr (frTtr (frTtr (frTst (by omega) (by omega)) (frTof (frM_60 (by omega)))) (frTst (by omega) (by omega))) (frTof (frM_60 (by omega)))) (frTof (frM_60 (by omega))), ?_⟩
          unfold fX12_readsRule_39
          rw [h17, if_neg (fun z => hr16 ((nI_eq (by omega) (by decide)).mp z)), zG_in rfl hr15 (by decide), cl9 (by omega)]
          dsimp only [zLt]
          rw [h1.1.2.1, nI_add, zUp_o (show (17 : Nat) ≠ 10 by decide), zUp_ne (show (60 : Nat) ≠ 71 by decide), h17, zG_in rfl hr15 (by decide), cl9 (by omega), h2.2.2.2.2.1]
        by_cases h114 : b p = 114
        · refine ⟨true, p + 1, k, 0, fun _ => ⟨by omega, by omega, kE.rfl' k, by omega, fun h => absurd h114 h⟩, fun F d f μ hF hd hP => ?_, fun F o w Wk μ hF hP h17 => ?_⟩
          · obtain ⟨m1, a1, a2, a3, a4, a5, a6⟩ := cA F d f μ hF hd hP
            refine ⟨m1, ?_, fun _ => ⟨a1, a2, a3, a4⟩, fun h => (by cases h), a5⟩
            rw [a6, if_pos (by rw [h114]), if_pos rfl]
          · obtain ⟨m1, a1, a2, a3, a4, a5, a6⟩ := mA F o w Wk μ hF hP h17
            refine ⟨m1, ?_, fun _ => ⟨a1, a2, a3, a4⟩, fun h => (by cases h), a5⟩
            rw [a6, if_pos (by rw [h114]), if_pos rfl]
        · have n114 : ¬ nI (b p) = nI 114 := fun z => h114 ((nI_eq (by omega) (by decide)).mp z)
          obtain ⟨ok, p1, k1, ft, g1, g2, g3⟩ := sum_ex hN hb (p := p + 1) (o := 0) (k := k) (by omega) (by omega) (by omega)
          refine ⟨ok, p1, k1, ft, fun h => ?_, fun F d f μ hF hd hP => ?_, fun F o w Wk μ hF hP h17 => ?_⟩
          · obtain ⟨q1, q2, q3, q4, q5⟩ := g1 h
            exact ⟨by omega, q2, q3, by omega, fun _ => q5.mono (by omega)⟩
          · obtain ⟨m1, a1, a2, a3, a4, a5, a6⟩ := cA F d f μ hF hd hP
            obtain ⟨m2, b1, b2, b3, b4⟩ := g2 F 60 d m1 hF (by omega) hd a1
            refine ⟨m2, ?_, fun h => ⟨b2 h, by rw [b4.1 7 (by decide), a2], by rw [b4.2 (d + 3) (by omega) (by omega) (by omega) (by omega), a3], by rw [b4.2 (d + 4) (by omega) (by omega) (by omega) (by omega), a4]⟩, b3, frRtr a5 (frRof hd b4)⟩
            rw [a6, if_neg n114, show fX6_readsValue F 60 (nI 0) m1 = some (zB ok, m2) from b1, zBd_s]
            cases ok
            · rw [z_bf, if_neg (by decide)]
            · rw [z_bt, if_pos rfl]
          · obtain ⟨m1, a1, a2, a3, a4, a5, a6⟩ := mA F o w Wk μ hF hP h17
            obtain ⟨m2, b1, b2, b3, b4⟩ := g3 F 0 (fun _ => 0) m1 hF (by omega) (fun i hi => by omega) (Or.inl rfl) a1
            refine ⟨m2, ?_, fun h => ⟨b2 h, by rw [b4.1 17 (by decide) (by decide) (by decide) (by decide) (by decide) (by decide), a2], by rw [b4.2 71 (by decide) (by decide) (by decide), a3], by rw [b4.2 72 (by decide) (by decide) (by decide), a4]⟩, b3, frTtr a5 (frTof b4)⟩
            rw [a6, if_neg n114, b1, zBd_s]
            cases ok
            · rw [z_bf, if_neg (by decide)]
            · rw [z_bt, if_pos rfl]
      obtain ⟨ok1, p1, k1, ft1, v1, v2, v3⟩ := val
      cases ok1 with
      | false =>
        refine ⟨false, 0, k, 0, 0, 0, 0, ft1, fun h => (by cases h), fun F d f μ hF hd hP h7 => ?_, fun F o w Wk μ hF hP h17 => ?_⟩
        · obtain ⟨m1, a1, a2, a3, a4⟩ := v2 F d f μ hF hd hP
          refine ⟨m1, ?_, fun h => (by cases h), a3, a4⟩
          rw [c50 F d f μ hP, a1, if_neg (by decide), if_neg (by decide)]
        · obtain ⟨m1, a1, a2, a3, a4⟩ := v3 F o w Wk μ hF hP h17
          refine ⟨m1, ?_, fun h => (by cases h), a3, a4⟩
          rw [m39 F o w Wk μ hP, a1, if_neg (by decide)]
          rfl
      | true =>
        obtain ⟨w1, w2, w3, w4, w5⟩ := v1 rfl
        obtain ⟨ok2, p2, k2, ft2, g1, g2, g3⟩ := rcond_ex hN hb (p := p1) (k := k1) w2 w4
        have hPst : ∀ {d : Nat} {m : zMem} {e : Nat} {x : Int32} {q : Nat} {kk : yCd}, (d = 19 ∨ d = 26) → 3 ≤ e → e ≤ 6 → yPC N b q d kk m → yPC N b q d kk (zUp m (d + e) r x) := fun {d m e x q kk} hd h3 h6 h => ⟨h.1.of (by rw [zUp_ne (by omega)]) (by rw [zUp_ne (by omega)]) (zUp_ne (by omega)), by rw [zUp_ne (by omega)]; exact h.2.1, by rw [zUp_ne (by omega)]; exact h.2.2.1, fun i hi => by rw [zUp_ne (by omega), zUp_ne (by omega)]; exact h.2.2.2 i hi⟩
        have hMst : ∀ {m : zMem} {q c o w : Nat} {Wk : Nat → Nat} {x : Int32} {kk : yCd}, 71 ≤ c → c ≤ 74 → yPM N b q o w Wk kk m → yPM N b q o w Wk kk (zUp m c r x) := fun {m q c o w Wk x kk} h3 h6 h => ⟨h.1.of (by rw [zUp_ne (by omega)]) (by rw [zUp_ne (by omega)]) (zUp_ne (by omega)), by rw [zUp_ne (by omega)]; exact h.2.1, by rw [zUp_ne (by omega)]; exact h.2.2.1, fun i hi => by rw [zUp_ne (by omega)]; exact h.2.2.2.1 i hi, by rw [zUp_ne (by omega)]; exact h.2.2.2.2.1, fun i hi => by rw [zUp_ne (by omega)]; exact h.2.2.2.2.2 i hi⟩
        refine ⟨ok2, p2, k2, b p, k.1, k1.1, k2.1, ft2, fun h => ?_, fun F d f μ hF hd hP h7 => ?_, fun F o w Wk μ hF hP h17 => ?_⟩
        · obtain ⟨q1, q2, q3, q4, q5⟩ := g1 h
          exact ⟨by omega, q2, hr15, w3.trans q3, q4, hkd, rfl, q5, fun hn => (w5 hn).kE q3 (Nat.le_refl _)⟩
        · obtain ⟨m1, a1, a2, a3, a4⟩ := v2 F d f μ hF hd hP
          obtain ⟨b1, b2, b3, b4⟩ := a2 rfl
          have h1 := hPst (e := 5) (x := nI k1.1) hd (by omega) (by omega) b1
          obtain ⟨m2, c1, c2, c3, c4⟩ := g2 F d _ hF hd h1
          have hst : frR d r μ (zUp m1 (d + 5) r (nI k1.1)) := frRtr a4 (frRst hd (by omega) (by omega))
          cases ok2 with
          | false =>
            refine ⟨m2, ?_, fun h => (by cases h), c3, frRtr hst (frRof hd c4)⟩
            rw [c50 F d f μ hP, a1, if_pos rfl, if_neg (by decide)]
            unfold fX6_reads_115
            rw [b1.2.1, cl9 (by omega), zGb_t (lw_is hd), zGb_t (lw_is hd), zG_in rfl hr15 (by decide), cl9 (by omega), b1.2.2.1]
            dsimp only [zLt]
            rw [c1, if_neg (by decide)]
          | true =>
            have h2 := c2 rfl
            have h3 := hPst (e := 6) (x := nI k2.1) hd (by omega) (by omega) h2
            have e7 : m2 d 7 = nI r := by rw [c4.1 7 (by decide), zUp_ne (by omega), b2]; exact h7
            have h4 : yPC N b p2 d k2 (zUp (zUp m2 (d + 6) r (nI k2.1)) d 7 (nI (r + 1))) := ⟨h3.1.of (by rw [zUp_ne (by omega)]) (by rw [zUp_ne (by omega)]) (zUp_ne (by omega)), by rw [zUp_ne (by omega)]; exact h3.2.1, by rw [zUp_o (by decide)]; exact h3.2.2.1, fun i hi => by rw [zUp_ne (show d + 1 ≠ d by omega), zUp_ne (show d + 2 ≠ d by omega)]; exact h3.2.2.2 i hi⟩
            refine ⟨zUp (zUp m2 (d + 6) r (nI k2.1)) d 7 (nI (r + 1)), ?_, fun _ => ⟨h4, zUp_s _ _ _ _, ?_, ?_, ?_, ?_⟩, fun h => (by cases h), ?_⟩
            · rw [c50 F d f μ hP, a1, if_pos rfl, if_pos rfl]
              unfold fX6_reads_115
              rw [b1.2.1, cl9 (by omega), zGb_t (lw_is hd), zGb_t (lw_is hd), zG_in rfl hr15 (by decide), cl9 (by omega), b1.2.2.1]
              dsimp only [zLt]
              rw [c1, if_pos rfl, h2.2.1, cl9 (by omega), zGb_t (lw_is hd), zGb_t (lw_is hd), zG_in rfl hr15 (by decide), h2.2.2.1, h3.2.1, cl9 (by omega), zGb_t (lw_is hd), zUp_ne (show d ≠ d + 6 by omega), e7, nI_add]
              unfold yTail
              rw [nI_add]
            · rw [zUp_ne (by omega), zUp_ne (by omega), c4.2 (d + 3) (by omega) (by omega) (by omega) (by omega), zUp_ne (by omega), b3]
            · rw [zUp_ne (by omega), zUp_ne (by omega), c4.2 (d + 4) (by omega) (by omega) (by omega) (by omega), zUp_ne (by omega), b4]
            · rw [zUp_ne (by omega), zUp_ne (by omega), c4.2 (d + 5) (by omega) (by omega) (by omega) (by omega), zUp_s]
            · rw [zUp_ne (by omega), zUp_s]
            · exact frRtr (frRtr (frRtr hst (frRof hd c4)) (frRst hd (by omega) (by omega))) ⟨fun j _ h7 => zUp_o h7, fun e i h1 h2 _ => by rw [zUp_ne (by omega)], fun c h1 h2 => zUp_ne (by omega)⟩
        · obtain ⟨m1, a1, a2, a3, a4⟩ := v3 F o w Wk μ hF hP h17
          obtain ⟨b1, b2, b3, b4⟩ := a2 rfl
          have h1 := hMst (c := 73) (x := nI k1.1) (by omega) (by omega) b1
          obtain ⟨m2, c1, c2, c3, c4⟩ := g3 F 0 0 (fun _ => 0) _ hF h1
          have hst : frT r μ (zUp m1 73 r (nI k1.1)) := frTtr a4 (frTst (by omega) (by omega))
          have e17 : m2 60 17 = nI r := by rw [c4.1 17 (by decide) (by decide) (by decide) (by decide) (by decide) (by decide), zUp_ne (by decide), b2]
          have k116 : fX12_readsRule_116 F m1 = (if zB ok2 = 0 then some ((nI 0), m2) else some ((nI 1), zUp (zUp m2 74 r (m2 60 15)) 60 17 (nI (r + 1)))) := by
            unfold fX12_readsRule_116
            rw [b2, zG_in rfl hr15 (by decide), cl9 (by omega), b1.2.2.2.2.1]
            dsimp only [zLt]
            rw [c1, zBd_s, e17, zG_in rfl hr15 (by decide), cl9 (by omega), zUp_ne (show (60 : Nat) ≠ 74 by decide), e17, nI_add]
          cases ok2 with
          | false =>
            refine ⟨m2, ?_, fun h => (by cases h), c3, frTtr hst (frTof c4)⟩
            rw [m39 F o w Wk μ hP, a1, if_pos rfl, k116, z_bf]
            rfl
          | true =>
            have h2 := c2 rfl
            have h3 := hMst (c := 74) (x := nI k2.1) (by omega) (by omega) h2
            have h4 : yPM N b p2 0 0 (fun _ => 0) k2 (zUp (zUp m2 74 r (nI k2.1)) 60 17 (nI (r + 1))) := ⟨h3.1.of (zUp_o (by decide)) (zUp_o (by decide)) (zUp_ne (by decide)), by rw [zUp_o (by decide)]; exact h3.2.1, by rw [zUp_o (by decide)]; exact h3.2.2.1, fun i hi => by omega, by rw [zUp_o (by decide)]; exact h3.2.2.2.2.1, fun i hi => by rw [zUp_ne (by decide)]; exact h3.2.2.2.2.2 i hi⟩
            rw [h2.2.2.2.2.1] at k116
            refine ⟨zUp (zUp m2 74 r (nI k2.1)) 60 17 (nI (r + 1)), ?_, fun _ => ⟨h4, zUp_s _ _ _ _, ?_, ?_, ?_, ?_⟩, fun h => (by cases h), ?_⟩
            · rw [m39 F o w Wk μ hP, a1, if_pos rfl, k116, z_bt]
              rfl
            · rw [zUp_ne (by decide), zUp_ne (by decide), c4.2 71 (by decide) (by decide) (by decide), zUp_ne (by decide), b3]
            · rw [zUp_ne (by decide), zUp_ne (by decide), c4.2 72 (by decide) (by decide) (by decide), zUp_ne (by decide), b4]
            · rw [zUp_ne (by decide), zUp_ne (by decide), c4.2 73 (by decide) (by decide) (by decide), zUp_s]
            · rw [zUp_ne (by decide), zUp_s]
            · exact frTtr (frTtr (frTtr hst (frTof c4)) (frTst (by omega) (by omega))) ⟨fun j _ _ _ _ _ _ h7 => zUp_o h7, fun c i h1 h2 _ => by rw [zUp_ne (by omega)], fun c h1 h2 => zUp_ne h1⟩
  · have nn : ∀ c, yKd c → ¬ ySg N b p = nI c := fun c hc z => by
      have hc256 : c < 256 := by unfold yKd at hc; omega
      obtain ⟨z1, z2⟩ := (ySg_eq (hb p) hc256).mp z
      exact hkd ⟨z1, by rw [z2]; exact hc⟩
    have n1 := nn 101 (Or.inl rfl)
    have n2 := nn 104 (Or.inr (Or.inl rfl))
    have n3 := nn 109 (Or.inr (Or.inr (Or.inl rfl)))
    have n4 := nn 114 (Or.inr (Or.inr (Or.inr rfl)))
    refine fault 1 (fun F d f μ hF hd hP => ?_) (fun F o w Wk μ hF hP h17 => ?_)
    · rw [fX6_reads_9, if_neg (fun z => by have := (nI_ltI (by decide) (by omega)).mp z; omega), e_sign hP.1 (by omega) (by omega), zBd_s, if_neg n1, if_neg n2, if_neg n3, if_neg n4, e_fails hP.1, zBd_s, zGb0]
    · unfold fX12_readsRule
      rw [e_here hP.1 (by omega) (by omega), zBd_s, if_neg n1, if_neg n2, if_neg n3, if_neg n4, hP.1.2.1, e_wrongAt, zBd_s, zGb0]
