/-! ===== one has his turn ===== -/
def yGb (s : zPS) (p : Nat) (v : Int32) : Prop := v = -1 ∨ ∃ b, b < 16 ∧ v = nI b ∧ b ≠ p ∧ (pT s).testBit b = true ∧ nAn (pK s p) (pK s b) ≠ 0
theorem choice_k {s : zPS} {l : zLS} (hw : zWFS s) (hl : zWFL l) {p q : Nat} (hp : p < 16) (hq : q = pw s % 20) : ∀ m k v most, k + m = 16 → yGb s p v → most ≤ 9999 → ∃ best, yGb s p best ∧
    (∀ (F h a f : Nat) (μ : zMem), 300 ≤ F → m < f → (h = 3 ∨ h = 13) → (a = 19 ∨ a = 26) → zRepS h s μ → yLw l a μ → yBs s p q μ → ∃ μ1, fX10_choice_9 F h a f (nI p) v (nI most) (nI k) μ = some (best, μ1) ∧ yBs s p q μ1 ∧ ∀ c, c ≠ 34 → c ≠ 35 → μ1 c = μ c) ∧
    ∀ (F f : Nat) (μ : zMem), 300 ≤ F → m < f → zRepN 61 s μ → zLawM l μ → ∃ μ1, fX12_chosenBy_7 F f (nI p) v (nI most) (nI k) μ = some (best, μ1) ∧ ∀ c, c ≠ 80 → c ≠ 81 → μ1 c = μ c := by
  intro m
  induction m with
  | zero =>
    intro k v most hk hv hm
    refine ⟨v, hv, fun F h a f μ hF hf hh ha hr hL hb => ⟨μ, ?_, hb, fun _ _ _ => rfl⟩, fun F f μ hF hf hr hL => ⟨μ, ?_, fun _ _ _ => rfl⟩⟩
    · obtain ⟨f, rfl⟩ := z_s hf
      rw [fX10_choice_9, z_done (by omega) (by omega)]
    · obtain ⟨f, rfl⟩ := z_s hf
      rw [fX12_chosenBy_7, z_done (by omega) (by omega)]
  | succ m ih =>
    intro k v most hk hv hm
    have hK := hw.2.2.2.1 p hp
    by_cases hkp : k = p
    · obtain ⟨best, g1, g2, g3⟩ := ih (k + 1) v most (by omega) hv hm
      refine ⟨best, g1, fun F h a f μ hF hf hh ha hr hL hb => ?_, fun F f μ hF hf hr hL => ?_⟩
      · obtain ⟨f, rfl⟩ := z_s hf
        rw [fX10_choice_9, z_more (by omega) (by decide), if_pos (by rw [hkp]), nI_add]
        exact g2 F h a f μ hF (by omega) hh ha hr hL hb
      · obtain ⟨f, rfl⟩ := z_s hf
        rw [fX12_chosenBy_7, z_more (by omega) (by decide), if_pos (by rw [hkp]), nI_add]
        exact g3 F f μ hF (by omega) hr hL
    · have hkp2 : ¬ nI k = nI p := fun z => hkp ((nI_eq (by omega) (by omega)).mp z)
      cases ht : (pT s).testBit k with
      | false =>
        obtain ⟨best, g1, g2, g3⟩ := ih (k + 1) v most (by omega) hv hm
        refine ⟨best, g1, fun F h a f μ hF hf hh ha hr hL hb => ?_, fun F f μ hF hf hr hL => ?_⟩
        · obtain ⟨f, rfl⟩ := z_s hf
          rw [fX10_choice_9, z_more (by omega) (by decide), if_neg hkp2, e_isTold hr hw, zBd_s, zTold_n (by omega), ht, z_bf, nI_add]
          exact g2 F h a f μ hF (by omega) hh ha hr hL hb
        · obtain ⟨f, rfl⟩ := z_s hf
          rw [fX12_chosenBy_7, z_more (by omega) (by decide), if_neg hkp2, e_mTold hr, zBd_s, zTold_n (by omega), ht, z_bf, nI_add]
          exact g3 F f μ hF (by omega) hr hL
      | true =>
        by_cases hn : nAn (pK s p) (pK s k) = 0
        · obtain ⟨best, g1, g2, g3⟩ := ih (k + 1) v most (by omega) hv hm
          refine ⟨best, g1, fun F h a f μ hF hf hh ha hr hL hb => ?_, fun F f μ hF hf hr hL => ?_⟩
          · obtain ⟨f, rfl⟩ := z_s hf
            rw [fX10_choice_9, z_more (by omega) (by decide), if_neg hkp2, e_isTold hr hw, zBd_s, zTold_n (by omega), ht, z_bt, zG_in rfl hp (by decide), zG_in rfl (by omega) (by decide), cl9 (by omega), cl9 (by omega), hr.2.2.2.2.1 p hp, hr.2.2.2.2.1 k (by omega), zq_andn hK, hn, if_pos (show nI 0 = 0 from rfl), nI_add]
            exact g2 F h a f μ hF (by omega) hh ha hr hL hb
          · obtain ⟨f, rfl⟩ := z_s hf
            rw [fX12_chosenBy_7, z_more (by omega) (by decide), if_neg hkp2, e_mTold hr, zBd_s, zTold_n (by omega), ht, z_bt, nI_add, nI_add, zG_in rfl (by omega) (by decide), zG_in rfl (by omega) (by decide), cl9 (by omega), cl9 (by omega), hr.2.1 p hp, hr.2.1 k (by omega), zq_andn hK, hn, if_pos (show nI 0 = 0 from rfl), nI_add]
            exact g3 F f μ hF (by omega) hr hL
        · have hn2 : ¬ nI (nAn (pK s p) (pK s k)) = 0 := fun z => hn ((nI_z (by have := nAn_lt (b := pK s k) hK; omega)).mp z)
          obtain ⟨v1, hv1, t1, t2⟩ := ask_ex (yF1 s p q k) hl (kind := 101) (most := 9999) (by omega) (by omega)
          by_cases hgt : most < v1
          · obtain ⟨best, g1, g2, g3⟩ := ih (k + 1) (nI k) v1 (by omega) (Or.inr ⟨k, by omega, rfl, hkp, ht, hn⟩) hv1
            refine ⟨best, g1, fun F h a f μ hF hf hh ha hr hL hb => ?_, fun F f μ hF hf hr hL => ?_⟩
            · obtain ⟨f, rfl⟩ := z_s hf
              obtain ⟨r0, m0, a1, a2, a3⟩ := e_looksAtOther (F := F) (k := k) hh hr hw hp (by omega) hb
              obtain ⟨m1, b1, b2⟩ := t1 F a m0 hF ha (hL.of (fun c h1 h2 => a3 c (by omega))) a2
              obtain ⟨m2, c1, c2, c3⟩ := g2 F h a f m1 hF (by omega) hh ha (hr.of (fun c h1 h2 => by rw [b2 c (by omega), a3 c (by omega)])) (hL.of (fun c h1 h2 => by rw [b2 c (by omega), a3 c (by omega)])) (yBs.of1 (fun j hj => by rw [b2 34 (by decide)]; exact a2 j hj))
              refine ⟨m2, ?_, c2, fun c h1 h2 => by rw [c3 c h1 h2, b2 c h2, a3 c h1]⟩
              rw [fX10_choice_9, z_more (by omega) (by decide), if_neg hkp2, e_isTold hr hw, zBd_s, zTold_n (by omega), ht, z_bt, zG_in rfl hp (by decide), zG_in rfl (by omega) (by decide), cl9 (by omega), cl9 (by omega), hr.2.2.2.2.1 p hp, hr.2.2.2.2.1 k (by omega), zq_andn hK, if_neg hn2, a1, zBd_s, b1, zBd_s, if_neg (fun z => by have := (nI_leI (by omega) (by omega)).mp z; omega), nI_add]
              exact c1
            · obtain ⟨f, rfl⟩ := z_s hf
              obtain ⟨r0, m0, a1, a2, a3⟩ := e_feels1 (F := F) (q := q) (k := k) (by omega) hr hw hq hp (by omega)
              obtain ⟨m1, b1, b2⟩ := t2 F m0 hF (hL.of (by rw [a3 60 (by decide)]) (fun c h1 h2 => a3 c (by omega))) a2
              obtain ⟨m2, c1, c3⟩ := g3 F f m1 hF (by omega) (hr.of (by rw [b2 61 (by decide), a3 61 (by decide)])) (hL.of (by rw [b2 60 (by decide), a3 60 (by decide)]) (fun c h1 h2 => by rw [b2 c (by omega), a3 c (by omega)]))
              refine ⟨m2, ?_, fun c h1 h2 => by rw [c3 c h1 h2, b2 c h1, a3 c h2]⟩
              rw [fX12_chosenBy_7, z_more (by omega) (by decide), if_neg hkp2, e_mTold hr, zBd_s, zTold_n (by omega), ht, z_bt, nI_add, nI_add, zG_in rfl (by omega) (by decide), zG_in rfl (by omega) (by decide), cl9 (by omega), cl9 (by omega), hr.2.1 p hp, hr.2.1 k (by omega), zq_andn hK, if_neg hn2, a1, zBd_s, b1, zBd_s, if_pos ((nI_ltI (by omega) (by omega)).mpr hgt), nI_add]
              exact c1
          · obtain ⟨best, g1, g2, g3⟩ := ih (k + 1) v most (by omega) hv hm
            refine ⟨best, g1, fun F h a f μ hF hf hh ha hr hL hb => ?_, fun F f μ hF hf hr hL => ?_⟩
            · obtain ⟨f, rfl⟩ := z_s hf
              obtain ⟨r0, m0, a1, a2, a3⟩ := e_looksAtOther (F := F) (k := k) hh hr hw hp (by omega) hb
              obtain ⟨m1, b1, b2⟩ := t1 F a m0 hF ha (hL.of (fun c h1 h2 => a3 c (by omega))) a2
              obtain ⟨m2, c1, c2, c3⟩ := g2 F h a f m1 hF (by omega) hh ha (hr.of (fun c h1 h2 => by rw [b2 c (by omega), a3 c (by omega)])) (hL.of (fun c h1 h2 => by rw [b2 c (by omega), a3 c (by omega)])) (yBs.of1 (fun j hj => by rw [b2 34 (by decide)]; exact a2 j hj))
              refine ⟨m2, ?_, c2, fun c h1 h2 => by rw [c3 c h1 h2, b2 c h2, a3 c h1]⟩
              rw [fX10_choice_9, z_more (by omega) (by decide), if_neg hkp2, e_isTold hr hw, zBd_s, zTold_n (by omega), ht, z_bt, zG_in rfl hp (by decide), zG_in rfl (by omega) (by decide), cl9 (by omega), cl9 (by omega), hr.2.2.2.2.1 p hp, hr.2.2.2.2.1 k (by omega), zq_andn hK, if_neg hn2, a1, zBd_s, b1, zBd_s, if_pos ((nI_leI (by omega) (by omega)).mpr (by omega)), nI_add]
              exact c1
            · obtain ⟨f, rfl⟩ := z_s hf
              obtain ⟨r0, m0, a1, a2, a3⟩ := e_feels1 (F := F) (q := q) (k := k) (by omega) hr hw hq hp (by omega)
              obtain ⟨m1, b1, b2⟩ := t2 F m0 hF (hL.of (by rw [a3 60 (by decide)]) (fun c h1 h2 => a3 c (by omega))) a2
              obtain ⟨m2, c1, c3⟩ := g3 F f m1 hF (by omega) (hr.of (by rw [b2 61 (by decide), a3 61 (by decide)])) (hL.of (by rw [b2 60 (by decide), a3 60 (by decide)]) (fun c h1 h2 => by rw [b2 c (by omega), a3 c (by omega)]))
              refine ⟨m2, ?_, fun c h1 h2 => by rw [c3 c h1 h2, b2 c h1, a3 c h2]⟩
              rw [fX12_chosenBy_7, z_more (by omega) (by decide), if_neg hkp2, e_mTold hr, zBd_s, zTold_n (by omega), ht, z_bt, nI_add, nI_add, zG_in rfl (by omega) (by decide), zG_in rfl (by omega) (by decide), cl9 (by omega), cl9 (by omega), hr.2.1 p hp, hr.2.1 k (by omega), zq_andn hK, if_neg hn2, a1, zBd_s, b1, zBd_s, if_neg (fun z => hgt ((nI_ltI (by omega) (by omega)).mp z)), nI_add]
              exact c1
theorem pK_sX (s : zPS) (x : Nat) : pK (sX s x) = pK s := rfl
theorem pB_sX (s : zPS) (x : Nat) : pB (sX s x) = pB s := rfl
theorem pT_sX (s : zPS) (x : Nat) : pT (sX s x) = pT s := rfl
theorem pP_sX (s : zPS) (x : Nat) : pP (sX s x) = pP s := rfl
theorem pw_sX (s : zPS) (x : Nat) : pw (sX s x) = pw s := rfl
theorem pB_sK (s : zPS) (p v : Nat) : pB (sK s p v) = pB s := rfl
theorem pT_sK (s : zPS) (p v : Nat) : pT (sK s p v) = pT s := rfl
theorem pP_sK (s : zPS) (p v : Nat) : pP (sK s p v) = pP s := rfl
theorem pw_sK (s : zPS) (p v : Nat) : pw (sK s p v) = pw s := rfl
theorem px_sK (s : zPS) (p v : Nat) : px (sK s p v) = px s := rfl
theorem pT_sB (s : zPS) (p v : Nat) : pT (sB s p v) = pT s := rfl
theorem pP_sB (s : zPS) (p v : Nat) : pP (sB s p v) = pP s := rfl
theorem pw_sB (s : zPS) (p v : Nat) : pw (sB s p v) = pw s := rfl
theorem px_sB (s : zPS) (p v : Nat) : px (sB s p v) = px s := rfl
/-- the state behind a whisper -/
def sWh (s : zPS) (p q o c to : Nat) : zPS := sPr (sX (sB (sK (sX s (yX s)) o (pK s o ||| 2 ^ c)) p (min (pB s p + 1) 9999)) (yX (sX s (yX s)))) q (p + 16 * to + 256 * c)
theorem yNt_T {s s2 : zPS} {p o : Nat} (h : pT s2 = pT s) : ∀ m st, yNt s2 p o m st = yNt s p o m st
  | 0, _ => rfl
  | m + 1, st => by unfold yNt; rw [h, yNt_T h m (st + 1)]
theorem pT_sPr (s : zPS) (q w : Nat) : pT (sPr s q w) = pT s := rfl
theorem pw_sPr (s : zPS) (q w : Nat) : pw (sPr s q w) = pw s := rfl
theorem pP_sPr (s : zPS) (q w : Nat) : pP (sPr s q w) = uN (pP s) q (pP s q + 1) := rfl
theorem sWh_T (s : zPS) (p q o c to : Nat) : pT (sWh s p q o c to) = pT s := by unfold sWh; rw [pT_sPr, pT_sX, pT_sB, pT_sK, pT_sX]
theorem sWh_w (s : zPS) (p q o c to : Nat) : pw (sWh s p q o c to) = pw s := by unfold sWh; rw [pw_sPr, pw_sX, pw_sB, pw_sK, pw_sX]
theorem sWh_P (s : zPS) (p q o c to : Nat) : pP (sWh s p q o c to) q = pP s q + 1 := by unfold sWh; rw [pP_sPr, uN_s, pP_sX, pP_sB, pP_sK, pP_sX]
theorem wh_skip {F p o vm c : Nat} {s : zPS} {μ : zMem} (hr : zRepN 61 s μ) (hw : zWFS s) (hp : p < 16) (ho : o < 16) (hc : c < 16) (hlo : ∀ i, i < c → (nAn (pK s p) (pK s o)).testBit i = false) : ∀ m i f, i + m = c → fX12_whispers_49 F (f + m) (nI p) (nI o) (nI vm) (nI i) μ = fX12_whispers_49 F f (nI p) (nI o) (nI vm) (nI c) μ := by
  intro m
  have hK := hw.2.2.2.1 p hp
  have hA := nAn_lt (b := pK s o) hK
  induction m with
  | zero => intro i f hi; rw [show i = c by omega]; rfl
  | succ m ih =>
    intro i f hi
    rw [show f + (m + 1) = (f + m) + 1 by omega, fX12_whispers_49, nI_add, nI_add, zG_in rfl (by omega) (by decide), zG_in rfl (by omega) (by decide), cl9 (by omega), cl9 (by omega), hr.2.1 p hp, hr.2.1 o ho, zq_andn hK, e_has (by omega) (by omega), zBd_s, hlo i (by omega), z_bf, nI_add]
    exact ih (i + 1) f (by omega)
theorem turn_C {F h a p q o c vm e to : Nat} {s : zPS} {l : zLS} {μ : zMem} (hF : 300 ≤ F) (hh : h = 3 ∨ h = 13) (hr : zRepS h (sX s (yX s)) μ) (hw : zWFS s) (hp : p < 16) (hq : q < 20) (ho : o < 16) (hop : o ≠ p) (htp : (pT s).testBit p = true) (hP : pP s q < 16) (hc : c < 16) (hvm : vm ≤ 10)
    (hto : (yX (sX s (yX s)) % 10 < vm ∧ to = yNt s p o 15 1 ∧ e = 1) ∨ (vm ≤ yX (sX s (yX s)) % 10 ∧ to = o ∧ e = 0)) (hz : ∀ μ' : zMem, fJ6_numberOfTrailingZeros_0f7a4 F (nI (nAn (pK s p) (pK s o))) μ' = some (nI c, μ')) :
    zTo (zG (nI p) 16 (zG (nI o) 16 (zBd (fJ6_numberOfTrailingZeros_0f7a4 F ((μ (h + 1) (nI p).toNatClampNeg) &&& ((μ (h + 1) (nI o).toNatClampNeg) ^^^ (-1 : Int32))) μ) (fun r10 m10 => zG (nI o) 16 (zG (nI o) 16 (zLt (zUp m10 (h + 1) (nI o).toNatClampNeg ((m10 (h + 1) (nI o).toNatClampNeg) ||| ((nI 1) <<< (r10 &&& 31)))) (fun m12 => zG (nI p) 16 (zBd (fJ9_min_7cf53 F ((m12 (h + 2) (nI p).toNatClampNeg) + (nI 1)) (nI 9999) m12) (fun r15 m15 => zG (nI p) 16 (zLt (zUp m15 (h + 2) (nI p).toNatClampNeg r15) (fun m16 => zBd (fX8_draw F h m16) (fun r17 m17 => if (nI vm) ≤ r17 then fX10_hasHisTurn_152 F h a (nI p) (nI q) r10 (nI o) m17 else zBd (fX10_nextTold F h (nI p) (nI o) m17) (fun r18 m18 => zLt (zUp m18 33 2 ((m18 33 2) + (nI 1))) (fun m20 => fX10_hasHisTurn_152 F h a (nI p) (nI q) r10 r18 m20)))))))))))))) (fun _ m => zRepS h (sWh s p q o c to) m ∧ m 33 2 = μ 33 2 + nI e ∧ ∀ c, (c < h ∨ h + 4 < c) → c ≠ 33 → m c = μ c) := by
  have hK := hw.2.2.2.1 p hp
  have hKo := hw.2.2.2.1 o ho
  have hB := hw.2.2.2.2.1 p hp
  have hw1 : zWFS (sX s (yX s)) := sX_wf hw (yX_lt s)
  have vp : μ (h + 1) (nI p).toNatClampNeg = nI (pK s p) := by have z := hr.2.2.2.2.1 p hp; rw [pK_sX] at z; rw [cl9 (by omega)]; exact z
  have vo : μ (h + 1) (nI o).toNatClampNeg = nI (pK s o) := by have z := hr.2.2.2.2.1 o ho; rw [pK_sX] at z; rw [cl9 (by omega)]; exact z
  refine zTo_G rfl hp (by decide) (zTo_G rfl ho (by decide) ?_)
  rw [vp, vo, zq_andn hK, hz, zBd_s]
  refine zTo_G rfl ho (by decide) (zTo_G rfl ho (by decide) (zTo_let fun m1 e1 => ?_))
  rw [vo, zq_1shl (by omega), fa_or, cl9 (by omega)] at e1
  have hr1 := hr.k o (pK s o ||| 2 ^ c)
  rw [← e1] at hr1
  have hw2 := sK_wf (p := o) hw1 (or2_lt hKo hc)
  have vb : m1 (h + 2) (nI p).toNatClampNeg = nI (pB s p) := by have z := hr1.2.2.2.2.2.1 p hp; rw [pB_sK, pB_sX] at z; rw [cl9 (by omega)]; exact z
  refine zTo_G rfl hp (by decide) ?_
  rw [vb, nI_add, e_min (by omega) (by decide), zBd_s]
  refine zTo_G rfl hp (by decide) (zTo_let fun m2 e2 => ?_)
  rw [cl9 (by omega)] at e2
  have hr2 := hr1.b p (min (pB s p + 1) 9999)
  rw [← e2] at hr2
  have hw3 := sB_wf (p := p) (v := min (pB s p + 1) 9999) hw2 (by rw [pT_sK, pT_sX]; exact htp) (Nat.min_le_right _ _)
  rw [e_draw hr2, zBd_s]
  obtain ⟨m3, e3⟩ : ∃ m3, m3 = zUp m2 h 7 (nI (yX (sB (sK (sX s (yX s)) o (pK s o ||| 2 ^ c)) p (min (pB s p + 1) 9999)))) := ⟨_, rfl⟩
  have hr3 := hr2.x (yX (sX s (yX s)))
  have hw4 := sX_wf (x := yX (sX s (yX s))) hw3 (yX_lt _)
  have eX : yX (sB (sK (sX s (yX s)) o (pK s o ||| 2 ^ c)) p (min (pB s p + 1) 9999)) = yX (sX s (yX s)) := by unfold yX; rw [px_sB, px_sK]
  rw [eX] at e3 ⊢
  rw [← e3] at hr3 ⊢
  have e33 : ∀ c, (c < h ∨ h + 4 < c) → m3 c = μ c := fun c hc => by rw [e3, zUp_ne (by omega), e2, zUp_ne (by omega), e1, zUp_ne (by omega)]
  have hxl := yX_lt (sX s (yX s))
  have hP4 : pP (sX (sB (sK (sX s (yX s)) o (pK s o ||| 2 ^ c)) p (min (pB s p + 1) 9999)) (yX (sX s (yX s)))) q < 16 := by rw [pP_sX, pP_sB, pP_sK, pP_sX]; exact hP
  have fin : ∀ (m4 : zMem) (to' : Nat), to' < 16 → zRepS h (sX (sB (sK (sX s (yX s)) o (pK s o ||| 2 ^ c)) p (min (pB s p + 1) 9999)) (yX (sX s (yX s)))) m4 → zTo (fX10_hasHisTurn_152 F h a (nI p) (nI q) (nI c) (nI to') m4) (fun _ m => zRepS h (sWh s p q o c to') m ∧ ∀ c, (c < h ∨ h + 4 < c) → m c = m4 c) := by
    intro m4 to' hto' hr4
    unfold fX10_hasHisTurn_152
    rw [e_packed hp hto' hc, zBd_s, e_prints hr4 hq hP4, zBd_s]
    exact zTo_ret ⟨hr4.pr hw4 hq hP4 _, fun c hc => by rw [zUp_ne (by omega), zUp_ne (by omega)]⟩
  rcases hto with ⟨h1, rfl, rfl⟩ | ⟨h1, rfl, rfl⟩
  · rw [if_neg (fun z => by have := (nI_leI (by omega) (by omega)).mp z; omega)]
    have hnt := e_nextTold_2 (F := F) hr3 hw4 hp ho 15 1 F rfl (by omega)
    have eN : yNt (sX (sB (sK (sX s (yX s)) o (pK s o ||| 2 ^ c)) p (min (pB s p + 1) 9999)) (yX (sX s (yX s)))) p o 15 1 = yNt s p o 15 1 := yNt_T (by rw [pT_sX, pT_sB, pT_sK, pT_sX]) 15 1
    rw [eN] at hnt
    unfold fX10_nextTold
    rw [hnt, zBd_s]
    refine zTo_let fun m4 e4 => ?_
    refine (fin m4 _ (yNt_lt ho 15 1) (hr3.of (fun c h1 h2 => by rw [e4, zUp_ne (by omega)]))).mono fun r m ⟨g1, g2⟩ => ⟨g1, ?_, fun c h1 h2 => ?_⟩
    · rw [g2 33 (by omega), e4, zUp_s, e33 33 (by omega)]
    · rw [g2 c h1, e4, zUp_ne h2, e33 c h1]
  · rw [if_pos ((nI_leI (by omega) (by omega)).mpr h1)]
    refine (fin m3 _ ho hr3).mono fun r m ⟨g1, g2⟩ => ⟨g1, ?_, fun c h1 h2 => ?_⟩
    · rw [g2 33 (by omega), e33 33 (by omega)]
      show _ = μ 33 2 + 0
      rw [Int32.add_zero]
    · rw [g2 c h1, e33 c h1]
theorem turn_M {F p q o c vm e to : Nat} {s : zPS} {μ : zMem} (hF : 300 ≤ F) (hr : zRepN 61 (sX s (yX s)) μ) (hw : zWFS s) (hp : p < 16) (hq : q = pw s % 20) (ho : o < 16) (hop : o ≠ p) (htp : (pT s).testBit p = true) (hto2 : (pT s).testBit o = true) (hP : pP s q < 16) (hc : c < 16) (hvm : vm ≤ 10)
    (hto : (yX (sX s (yX s)) % 10 < vm ∧ to = yNt s p o 15 1 ∧ e = 1) ∨ (vm ≤ yX (sX s (yX s)) % 10 ∧ to = o ∧ e = 0)) (hb : (nAn (pK s p) (pK s o)).testBit c = true) (hlo : ∀ i, i < c → (nAn (pK s p) (pK s o)).testBit i = false) :
    zTo (fX12_whispers_49 F F (nI p) (nI o) (nI vm) (nI 0) μ) (fun _ m => zRepN 61 (sWh s p q o c to) m ∧ m 60 34 = μ 60 34 + nI 1 ∧ m 60 35 = μ 60 35 + nI e ∧ (∀ j, j ≠ 34 → j ≠ 35 → m 60 j = μ 60 j) ∧ ∀ c, c ≠ 60 → c ≠ 61 → m c = μ c) := by
  have hK := hw.2.2.2.1 p hp
  have hA := nAn_lt (b := pK s o) hK
  have hKo := hw.2.2.2.1 o ho
  have hB := hw.2.2.2.2.1 p hp
  have hw1 : zWFS (sX s (yX s)) := sX_wf hw (yX_lt s)
  have sk := wh_skip (F := F) (vm := vm) hr hw1 hp ho hc (by rw [pK_sX]; exact hlo) c 0 (F - c - 1 + 1) (by omega)
  rw [show F - c - 1 + 1 + c = F by omega] at sk
  rw [sk, fX12_whispers_49, nI_add, nI_add, nI_add]
  refine zTo_G rfl (by omega) (by decide) (zTo_G rfl (by omega) (by decide) ?_)
  have vp : μ 61 (nI (16 + p)).toNatClampNeg = nI (pK s p) := by have z := hr.2.1 p hp; rw [pK_sX] at z; rw [cl9 (by omega)]; exact z
  have vo : μ 61 (nI (16 + o)).toNatClampNeg = nI (pK s o) := by have z := hr.2.1 o ho; rw [pK_sX] at z; rw [cl9 (by omega)]; exact z
  rw [vp, vo, zq_andn hK, e_has (by omega) (by omega), zBd_s, hb, z_bt]
  refine zTo_G rfl (by omega) (by decide) (zTo_G rfl (by omega) (by decide) (zTo_let fun m1 e1 => ?_))
  rw [vo, zq_1shl (by omega), fa_or, cl9 (by omega)] at e1
  have hr1 := hr.k ho (pK s o ||| 2 ^ c)
  rw [← e1] at hr1
  have hw2 := sK_wf (p := o) hw1 (or2_lt hKo hc)
  have vb : m1 61 (nI (48 + p)).toNatClampNeg = nI (pB s p) := by have z := hr1.2.2.2.1 p hp; rw [pB_sK, pB_sX] at z; rw [cl9 (by omega)]; exact z
  have e48 : nI 48 + nI p = nI (48 + p) := nI_add 48 p
  rw [e48]
  refine zTo_G rfl (by omega) (by decide) ?_
  rw [vb, nI_add, e_mmin (by decide) (by omega), zBd_s, Nat.min_comm]
  refine zTo_G rfl (by omega) (by decide) (zTo_let fun m2 e2 => ?_)
  rw [cl9 (by omega)] at e2
  have hr2 := hr1.b hp (min (pB s p + 1) 9999)
  rw [← e2] at hr2
  have hw3 := sB_wf (p := p) (v := min (pB s p + 1) 9999) hw2 (by rw [pT_sK, pT_sX]; exact htp) (Nat.min_le_right _ _)
  rw [e_draws hr2 hw3, zBd_s]
  obtain ⟨m3, e3⟩ : ∃ m3, m3 = zUp m2 61 1046 (nI (yX (sB (sK (sX s (yX s)) o (pK s o ||| 2 ^ c)) p (min (pB s p + 1) 9999)))) := ⟨_, rfl⟩
  have hr3 := hr2.x hw3 (yX (sX s (yX s)))
  have hw4 := sX_wf (x := yX (sX s (yX s))) hw3 (yX_lt _)
  have eX : yX (sB (sK (sX s (yX s)) o (pK s o ||| 2 ^ c)) p (min (pB s p + 1) 9999)) = yX (sX s (yX s)) := by unfold yX; rw [px_sB, px_sK]
  rw [eX] at e3 ⊢
  rw [← e3] at hr3 ⊢
  have e33 : ∀ c, c ≠ 61 → m3 c = μ c := fun c hc => by rw [e3, zUp_ne hc, e2, zUp_ne hc, e1, zUp_ne hc]
  have hxl := yX_lt (sX s (yX s))
  have hP4 : pP (sX (sB (sK (sX s (yX s)) o (pK s o ||| 2 ^ c)) p (min (pB s p + 1) 9999)) (yX (sX s (yX s)))) q < 16 := by rw [pP_sX, pP_sB, pP_sK, pP_sX]; exact hP
  have hq4 : q = pw (sX (sB (sK (sX s (yX s)) o (pK s o ||| 2 ^ c)) p (min (pB s p + 1) 9999)) (yX (sX s (yX s)))) % 20 := by rw [pw_sX, pw_sB, pw_sK, pw_sX]; exact hq
  have ht4 : (pT (sX (sB (sK (sX s (yX s)) o (pK s o ||| 2 ^ c)) p (min (pB s p + 1) 9999)) (yX (sX s (yX s))))).testBit o = true := by rw [pT_sX, pT_sB, pT_sK, pT_sX]; exact hto2
  rcases hto with ⟨h1, rfl, rfl⟩ | ⟨h1, rfl, rfl⟩
  · rw [if_neg (fun z => by have := (nI_leI (by omega) (by omega)).mp z; omega)]
    unfold fX12_whispers_150
    rw [if_neg (show ¬ nI 1 = 0 by decide)]
    refine zTo_let fun m4 e4 => ?_
    unfold fX12_whispers_167
    rw [if_neg (show ¬ nI 1 = 0 by decide)]
    have hr4 := hr3.of (show m4 61 = m3 61 by rw [e4, zUp_ne (by decide)])
    have hnt := e_mNextTold_7 (F := F) hr4 hp ho hop ht4 15 1 F rfl (by omega)
    have eN : yNt (sX (sB (sK (sX s (yX s)) o (pK s o ||| 2 ^ c)) p (min (pB s p + 1) 9999)) (yX (sX s (yX s)))) p o 15 1 = yNt s p o 15 1 := yNt_T (by rw [pT_sX, pT_sB, pT_sK, pT_sX]) 15 1
    rw [eN] at hnt
    unfold fX12_nextTold
    rw [zGz_in (by decide), nI_add, nI_mod (by omega) (by decide) (by decide), hnt, zBd_s]
    refine zTo_bd (e_mPrints (c := c) hr4 hw4 hq4 hP4 hp (yNt_lt ho 15 1)) fun r m5 ⟨g1, g2, g3, g4⟩ => zTo_ret ⟨g1, ?_, ?_, fun j h1 h2 => ?_, fun c h1 h2 => ?_⟩
    · rw [g2, e4, zUp_o (by decide), e33 60 (by decide)]
    · rw [g3 35 (by decide), e4, zUp_s, e33 60 (by decide)]
    · rw [g3 j h1, e4, zUp_o h2, e33 60 (by decide)]
    · rw [g4 c h1 h2, e4, zUp_ne h1, e33 c h2]
  · rw [if_pos ((nI_leI (by omega) (by omega)).mpr h1)]
    unfold fX12_whispers_150 fX12_whispers_167
    rw [if_pos (show nI 0 = 0 from rfl), if_pos (show nI 0 = 0 from rfl)]
    refine zTo_bd (e_mPrints (c := c) hr3 hw4 hq4 hP4 hp ho) fun r m5 ⟨g1, g2, g3, g4⟩ => zTo_ret ⟨g1, ?_, ?_, fun j h1 h2 => ?_, fun c h1 h2 => ?_⟩
    · rw [g2, e33 60 (by decide)]
    · rw [g3 35 (by decide), e33 60 (by decide)]
      show _ = μ 60 35 + 0
      rw [Int32.add_zero]
    · rw [g3 j h1, e33 60 (by decide)]
    · rw [g4 c h1 h2, e33 c h2]
theorem turn_ex {s : zPS} {l : zLS} (hw : zWFS s) (hl : zWFL l) {p q : Nat} (hp : p < 16) (hq : q = pw s % 20) (htp : (pT s).testBit p = true) (hP : pP s q ≤ p) : ∃ (s' : zPS) (d e : Nat), zWFS s' ∧ pT s' = pT s ∧ pw s' = pw s ∧ pP s' q = pP s q + d ∧ d ≤ 1 ∧ e ≤ 1 ∧
    (∀ (F h a : Nat) (μ : zMem), 300 ≤ F → (h = 3 ∨ h = 13) → (a = 19 ∨ a = 26) → zRepS h s μ → yLw l a μ → zTo (fX10_hasHisTurn F h a (nI p) (nI q) μ) (fun _ m => zRepS h s' m ∧ m 33 2 = μ 33 2 + nI e ∧ ∀ c, (c < h ∨ h + 4 < c) → c ≠ 33 → c ≠ 34 → c ≠ 35 → m c = μ c)) ∧
    ∀ (F : Nat) (μ : zMem), 300 ≤ F → zRepN 61 s μ → zLawM l μ → zTo (fX12_whispers F (nI p) μ) (fun _ m => zRepN 61 s' m ∧ m 60 34 = μ 60 34 + nI d ∧ m 60 35 = μ 60 35 + nI e ∧ (∀ j, j ≠ 34 → j ≠ 35 → m 60 j = μ 60 j) ∧ ∀ c, c ≠ 60 → c ≠ 61 → c ≠ 80 → c ≠ 81 → m c = μ c) := by
  have hq20 : q < 20 := by omega
  have hxl := yX_lt s
  obtain ⟨best, hb, g1, g2⟩ := choice_k hw hl hp hq 16 0 (-1) 0 rfl (Or.inl rfl) (by omega)
  have cC : ∀ (F h a : Nat) (μ : zMem), 300 ≤ F → (h = 3 ∨ h = 13) → (a = 19 ∨ a = 26) → zRepS h s μ → yLw l a μ → ∃ (r : Int32) (m0 m1 : zMem), fX10_looksAt F h (nI p) (nI (pP s q)) μ = some (r, m0) ∧ fX10_choice F h a (nI p) m0 = some (best, m1) ∧ yBs s p q m1 ∧ ∀ c, c ≠ 34 → c ≠ 35 → m1 c = μ c := by
    intro F h a μ hF hh ha hr hL
    obtain ⟨r0, m0, a1, a2, a3⟩ := e_looksAt (F := F) (q := q) hh hr hw hp
    obtain ⟨m1, b1, b2, b3⟩ := g1 F h a F m0 hF (by omega) hh ha (hr.of (fun c h1 h2 => a3 c (by omega))) (hL.of (fun c h1 h2 => a3 c (by omega))) (yBs.of0 a2)
    exact ⟨r0, m0, m1, a1, b1, b2, fun c h1 h2 => by rw [b3 c h1 h2, a3 c h1]⟩
  rcases hb with rfl | ⟨o, ho, rfl, hop, hto, hno⟩
  · refine ⟨s, 0, 0, hw, rfl, rfl, rfl, by omega, by omega, fun F h a μ hF hh ha hr hL => ?_, fun F μ hF hr hL => ?_⟩
    · obtain ⟨r0, m0, m1, a1, a2, a3, a4⟩ := cC F h a μ hF hh ha hr hL
      unfold fX10_hasHisTurn
      refine zTo_G rfl hq20 (by decide) ?_
      rw [cl9 (by omega), hr.2.2.2.2.2.2.1 q hq20, a1, zBd_s, a2, zBd_s, if_pos rfl]
      refine zTo_ret ⟨hr.of (fun c h1 h2 => a4 c (by omega) (by omega)), ?_, fun c h1 h2 h3 h4 => a4 c h3 h4⟩
      rw [a4 33 (by decide) (by decide)]
      show _ = μ 33 2 + 0
      rw [Int32.add_zero]
    · obtain ⟨m1, b1, b2⟩ := g2 F F μ hF (by omega) hr hL
      unfold fX12_whispers fX12_chosenBy
      rw [b1, zBd_s, if_pos rfl]
      refine zTo_ret ⟨hr.of (b2 61 (by decide) (by decide)), ?_, ?_, fun j _ _ => by rw [b2 60 (by decide) (by decide)], fun c h1 h2 h3 h4 => b2 c h3 h4⟩
      · rw [b2 60 (by decide) (by decide)]
        show _ = μ 60 34 + 0
        rw [Int32.add_zero]
      · rw [b2 60 (by decide) (by decide)]
        show _ = μ 60 35 + 0
        rw [Int32.add_zero]
  · obtain ⟨vm, hvm, u1, u2⟩ := ask_ex (yF1 s p q o) hl (kind := 109) (most := 10) (by omega) (by omega)
    obtain ⟨vh, hvh, w1, w2⟩ := ask_ex (yF1 s p q o) hl (kind := 104) (most := 10) (by omega) (by omega)
    have hm1 : ¬ nI o = (-1 : Int32) := nI_m1 (by omega)
    have cC2 : ∀ (F h a : Nat) (μ : zMem), 300 ≤ F → (h = 3 ∨ h = 13) → (a = 19 ∨ a = 26) → zRepS h s μ → yLw l a μ → ∃ (m7 : zMem), zRepS h (sX s (yX s)) m7 ∧ (∀ c, (c < h ∨ h + 4 < c) → c ≠ 34 → c ≠ 35 → m7 c = μ c) ∧ ∃ (r0 r2 : Int32) (m0 m1 m2 m3 m4 : zMem), fX10_looksAt F h (nI p) (nI (pP s q)) μ = some (r0, m0) ∧ fX10_choice F h a (nI p) m0 = some (nI o, m1) ∧ fX10_looksAtOther F h (nI p) (nI o) m1 = some (r2, m2) ∧ fX10_asked F a (nI 109) (nI 10) m2 = some (nI vm, m3) ∧ fX8_draw F h m3 = some (nI (yX s % 10), m4) ∧ fX10_asked F a (nI 104) (nI 10) m4 = some (nI vh, m7) := by
      intro F h a μ hF hh ha hr hL
      obtain ⟨r0, m0, m1, a1, a2, a3, a4⟩ := cC F h a μ hF hh ha hr hL
      have hr1 : zRepS h s m1 := hr.of (fun c h1 h2 => a4 c (by omega) (by omega))
      have hL1 : yLw l a m1 := hL.of (fun c h1 h2 => a4 c (by omega) (by omega))
      obtain ⟨r2, m2, b1, b2, b3⟩ := e_looksAtOther (F := F) (k := o) hh hr1 hw hp ho a3
      have hL2 : yLw l a m2 := hL1.of (fun c h1 h2 => b3 c (by omega))
      obtain ⟨m3, c1, c2⟩ := u1 F a m2 hF ha hL2 b2
      have hr3 : zRepS h s m3 := hr1.of (fun c h1 h2 => by rw [c2 c (by omega), b3 c (by omega)])
      obtain ⟨m4, hm4⟩ : ∃ m4, m4 = zUp m3 h 7 (nI (yX s)) := ⟨_, rfl⟩
      have hr4 := hr3.x (yX s)
      rw [← hm4] at hr4
      have hL4 : yLw l a m4 := hL2.of (fun c h1 h2 => by rw [hm4, zUp_ne (by omega), c2 c (by omega)])
      obtain ⟨m5, d1, d2⟩ := w1 F a m4 hF ha hL4 (fun j hj => by rw [hm4, zUp_ne (by omega), c2 34 (by decide)]; exact b2 j hj)
      refine ⟨m5, hr4.of (fun c h1 h2 => d2 c (by omega)), fun c h1 h3 h4 => by rw [d2 c h4, hm4, zUp_ne (by omega), c2 c h4, b3 c h3, a4 c h3 h4], r0, r2, m0, m1, m2, m3, m4, a1, a2, b1, c1, ?_, d1⟩
      rw [e_draw hr3, hm4]
    have cM2 : ∀ (F : Nat) (μ : zMem), 300 ≤ F → zRepN 61 s μ → zLawM l μ → ∃ (m7 : zMem), zRepN 61 (sX s (yX s)) m7 ∧ (∀ c, c ≠ 61 → c ≠ 80 → c ≠ 81 → m7 c = μ c) ∧ fX12_whispers F (nI p) μ = if nI (yX s % 10) < nI vh then fX12_whispers_49 F F (nI p) (nI o) (nI vm) (nI 0) m7 else some ((nI 0), m7) := by
      intro F μ hF hr hL
      obtain ⟨m1, a1, a2⟩ := g2 F F μ hF (by omega) hr hL
      have hr1 := hr.of (a2 61 (by decide) (by decide))
      obtain ⟨r2, m2, b1, b2, b3⟩ := e_feels1 (F := F) (q := q) (k := o) (by omega) hr1 hw hq hp ho
      have hL2 : zLawM l m2 := hL.of (by rw [b3 60 (by decide), a2 60 (by decide) (by decide)]) (fun c h1 h2 => by rw [b3 c (by omega), a2 c (by omega) (by omega)])
      obtain ⟨m3, c1, c2⟩ := w2 F m2 hF hL2 b2
      have hL3 : zLawM l m3 := hL2.of (by rw [c2 60 (by decide)]) (fun c h1 h2 => c2 c (by omega))
      obtain ⟨m4, d1, d2⟩ := u2 F m3 hF hL3 (fun j hj => by rw [c2 81 (by decide)]; exact b2 j hj)
      have hr4 : zRepN 61 s m4 := hr1.of (by rw [d2 61 (by decide), c2 61 (by decide), b3 61 (by decide)])
      refine ⟨zUp m4 61 1046 (nI (yX s)), hr4.x hw (yX s), fun c h1 h2 h3 => by rw [zUp_ne h1, d2 c h2, c2 c h2, b3 c h3, a2 c h2 h3], ?_⟩
      unfold fX12_whispers fX12_chosenBy
      rw [a1, zBd_s, if_neg hm1, b1, zBd_s, c1, zBd_s, d1, zBd_s, e_draws hr4 hw, zBd_s]
    by_cases hdr : yX s % 10 < vh
    · obtain ⟨c, hc, hcb, hclo, -⟩ := e_ntz (F := 0) (μ := z0) (nAn_lt (b := pK s o) (hw.2.2.2.1 p hp)) hno
      have hz : ∀ (F : Nat) (μ' : zMem), fJ6_numberOfTrailingZeros_0f7a4 F (nI (nAn (pK s p) (pK s o))) μ' = some (nI c, μ') := by
        intro F μ'
        obtain ⟨c2, hc2, hcb2, hclo2, hz2⟩ := e_ntz (F := F) (μ := μ') (nAn_lt (b := pK s o) (hw.2.2.2.1 p hp)) hno
        have : c2 = c := by
          rcases Nat.lt_trichotomy c2 c with h | h | h
          · rw [hclo c2 h] at hcb2; cases hcb2
          · exact h
          · rw [hclo2 c h] at hcb; cases hcb
        rw [hz2, this]
      have hx2 := yX_lt (sX s (yX s))
      have key : ∃ to e : Nat, e ≤ 1 ∧ ((yX (sX s (yX s)) % 10 < vm ∧ to = yNt s p o 15 1 ∧ e = 1) ∨ (vm ≤ yX (sX s (yX s)) % 10 ∧ to = o ∧ e = 0)) := by
        by_cases h : yX (sX s (yX s)) % 10 < vm
        · exact ⟨_, 1, by omega, Or.inl ⟨h, rfl, rfl⟩⟩
        · exact ⟨_, 0, by omega, Or.inr ⟨by omega, rfl, rfl⟩⟩
      obtain ⟨to, e, he, hte⟩ := key
      have hto16 : to < 16 := by
        rcases hte with ⟨-, rfl, -⟩ | ⟨-, rfl, -⟩
        · exact yNt_lt ho 15 1
        · exact ho
      have hw5 : zWFS (sWh s p q o c to) := sPr_wf (sX_wf (sB_wf (sK_wf (sX_wf hw (yX_lt s)) (or2_lt (hw.2.2.2.1 o ho) hc)) (by rw [pT_sK, pT_sX]; exact htp) (Nat.min_le_right _ _)) (yX_lt _)) (by omega) (by rw [pP_sX, pP_sB, pP_sK, pP_sX]; omega)
      refine ⟨sWh s p q o c to, 1, e, hw5, sWh_T _ _ _ _ _ _, sWh_w _ _ _ _ _ _, sWh_P _ _ _ _ _ _, by omega, he, fun F h a μ hF hh ha hr hL => ?_, fun F μ hF hr hL => ?_⟩
      · obtain ⟨m7, k1, k2, r0, r2, m0, m1, m2, m3, m4, b1, b2, b3, b4, b5, b6⟩ := cC2 F h a μ hF hh ha hr hL
        have ht := turn_C (a := a) (l := l) hF hh k1 hw hp hq20 ho hop htp (by omega) hc hvm hte (hz F)
        have e33 := k2 33 (by omega) (by decide) (by decide)
        rw [e33] at ht
        have ht2 : zTo _ (fun _ m => zRepS h (sWh s p q o c to) m ∧ m 33 2 = μ 33 2 + nI e ∧ ∀ c, (c < h ∨ h + 4 < c) → c ≠ 33 → c ≠ 34 → c ≠ 35 → m c = μ c) := ht.mono fun r m ⟨g1, g2, g3⟩ => ⟨g1, g2, fun c h1 h2 h3 h4 => by rw [g3 c h1 h2, k2 c h1 h3 h4]⟩
        unfold fX10_hasHisTurn
        refine zTo_G rfl hq20 (by decide) ?_
        rw [cl9 (by omega), hr.2.2.2.2.2.2.1 q hq20, b1, zBd_s, b2, zBd_s, if_neg hm1, b3, zBd_s, b4, zBd_s, b5, zBd_s, b6, zBd_s, if_pos ((nI_ltI (by omega) (by omega)).mpr hdr)]
        exact ht2
      · obtain ⟨m7, k1, k2, k3⟩ := cM2 F μ hF hr hL
        rw [k3, if_pos ((nI_ltI (by omega) (by omega)).mpr hdr)]
        refine (turn_M hF k1 hw hp hq ho hop htp hto (by omega) hc hvm hte hcb hclo).mono fun r m ⟨g1, g2, g3, g4, g5⟩ => ⟨g1, ?_, ?_, ?_, ?_⟩
        · rw [g2, k2 60 (by decide) (by decide) (by decide)]
        · rw [g3, k2 60 (by decide) (by decide) (by decide)]
        · intro j h1 h2; rw [g4 j h1 h2, k2 60 (by decide) (by decide) (by decide)]
        · intro c h1 h2 h3 h4; rw [g5 c h1 h2, k2 c h2 h3 h4]
    · refine ⟨sX s (yX s), 0, 0, sX_wf hw (yX_lt s), pT_sX _ _, pw_sX _ _, by rw [pP_sX]; rfl, by omega, by omega, fun F h a μ hF hh ha hr hL => ?_, fun F μ hF hr hL => ?_⟩
      · obtain ⟨m7, k1, k2, r0, r2, m0, m1, m2, m3, m4, b1, b2, b3, b4, b5, b6⟩ := cC2 F h a μ hF hh ha hr hL
        unfold fX10_hasHisTurn
        refine zTo_G rfl hq20 (by decide) ?_
        rw [cl9 (by omega), hr.2.2.2.2.2.2.1 q hq20, b1, zBd_s, b2, zBd_s, if_neg hm1, b3, zBd_s, b4, zBd_s, b5, zBd_s, b6, zBd_s, if_neg (fun z => hdr ((nI_ltI (by omega) (by omega)).mp z))]
        refine zTo_ret ⟨k1, ?_, fun c h1 h2 h3 h4 => k2 c h1 h3 h4⟩
        rw [k2 33 (by omega) (by decide) (by decide)]
        show _ = μ 33 2 + 0
        rw [Int32.add_zero]
      · obtain ⟨m7, k1, k2, k3⟩ := cM2 F μ hF hr hL
        rw [k3, if_neg (fun z => hdr ((nI_ltI (by omega) (by omega)).mp z))]
        refine zTo_ret ⟨k1, ?_, ?_, fun j _ _ => by rw [k2 60 (by decide) (by decide) (by decide)], fun c h1 h2 h3 h4 => k2 c h2 h3 h4⟩
        · rw [k2 60 (by decide) (by decide) (by decide)]
          show _ = μ 60 34 + 0
          rw [Int32.add_zero]
        · rw [k2 60 (by decide) (by decide) (by decide)]
          show _ = μ 60 35 + 0
          rw [Int32.add_zero]
