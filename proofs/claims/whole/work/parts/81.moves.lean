/-! ===== small changes of the state, in both memories ===== -/
def sK (s : zPS) (p v : Nat) : zPS := (pT s, pR s, uN (pK s) p v, pB s, pP s, pW s, pw s, px s)
def sB (s : zPS) (p v : Nat) : zPS := (pT s, pR s, pK s, uN (pB s) p v, pP s, pW s, pw s, px s)
def sP0 (s : zPS) (q : Nat) : zPS := (pT s, pR s, pK s, pB s, uN (pP s) q 0, pW s, pw s, px s)
def sPr (s : zPS) (q w : Nat) : zPS := (pT s, pR s, pK s, pB s, uN (pP s) q (pP s q + 1), (fun a j => if a = q ∧ j = pP s q then w else pW s a j), pw s, px s)
def sWk (s : zPS) : zPS := (pT s, pR s, pK s, pB s, pP s, pW s, pw s + 1, px s)
theorem sX_wf {s : zPS} {x : Nat} (h : zWFS s) (hx : x < 65536) : zWFS (sX s x) := by
  obtain ⟨w1, w2, w3, w4, w5, w6, w7, w8, w9, w10⟩ := h
  exact ⟨w1, w2, w3, w4, w5, w6, w7, w8, w9, hx⟩
theorem sK_wf {s : zPS} {p v : Nat} (h : zWFS s) (hv : v < 65536) : zWFS (sK s p v) := by
  obtain ⟨w1, w2, w3, w4, w5, w6, w7, w8, w9, w10⟩ := h
  refine ⟨w1, w2, w3, fun i hi => ?_, w5, w6, w7, w8, w9, w10⟩
  show uN (pK s) p v i < 65536
  by_cases e : i = p
  · rw [e, uN_s]; exact hv
  · rw [uN_o e]; exact w4 i hi
theorem sB_wf {s : zPS} {p v : Nat} (h : zWFS s) (hp : (pT s).testBit p = true) (hv : v ≤ 9999) : zWFS (sB s p v) := by
  obtain ⟨w1, w2, w3, w4, w5, w6, w7, w8, w9, w10⟩ := h
  refine ⟨w1, w2, w3, w4, fun i hi => ?_, fun i hi ht => ?_, w7, w8, w9, w10⟩
  · show uN (pB s) p v i ≤ 9999
    by_cases e : i = p
    · rw [e, uN_s]; exact hv
    · rw [uN_o e]; exact w5 i hi
  · show uN (pB s) p v i = 0
    have ht : (pT s).testBit i = false := ht
    by_cases e : i = p
    · rw [e, hp] at ht; cases ht
    · rw [uN_o e]; exact w6 i hi ht
theorem sP0_wf {s : zPS} {q : Nat} (h : zWFS s) : zWFS (sP0 s q) := by
  obtain ⟨w1, w2, w3, w4, w5, w6, w7, w8, w9, w10⟩ := h
  refine ⟨w1, w2, w3, w4, w5, w6, fun i hi => ?_, fun i j hi hj => ?_, w9, w10⟩
  · show uN (pP s) q 0 i ≤ 16
    by_cases e : i = q
    · rw [e, uN_s]; omega
    · rw [uN_o e]; exact w7 i hi
  · have hj : j < uN (pP s) q 0 i := hj
    show pW s i j < 4096
    by_cases e : i = q
    · rw [e, uN_s] at hj; omega
    · rw [uN_o e] at hj; exact w8 i j hi hj
theorem sPr_wf {s : zPS} {q w : Nat} (h : zWFS s) (hw : w < 4096) (hq : pP s q < 16) : zWFS (sPr s q w) := by
  obtain ⟨w1, w2, w3, w4, w5, w6, w7, w8, w9, w10⟩ := h
  refine ⟨w1, w2, w3, w4, w5, w6, fun i hi => ?_, fun i j hi hj => ?_, w9, w10⟩
  · show uN (pP s) q (pP s q + 1) i ≤ 16
    by_cases e : i = q
    · rw [e, uN_s]; omega
    · rw [uN_o e]; exact w7 i hi
  · have hj : j < uN (pP s) q (pP s q + 1) i := hj
    show (if i = q ∧ j = pP s q then w else pW s i j) < 4096
    by_cases e : i = q ∧ j = pP s q
    · rw [if_pos e]; exact hw
    · rw [if_neg e]
      refine w8 i j hi ?_
      by_cases e2 : i = q
      · rw [e2, uN_s] at hj; rw [e2]; omega
      · rw [uN_o e2] at hj; exact hj
theorem sWk_wf {s : zPS} (h : zWFS s) (hw : pw s < 9999) : zWFS (sWk s) := by
  obtain ⟨w1, w2, w3, w4, w5, w6, w7, w8, w9, w10⟩ := h
  exact ⟨w1, w2, w3, w4, w5, w6, w7, w8, by show pw s + 1 ≤ 9999; omega, w10⟩
theorem zRepS.x {h : Nat} {s : zPS} {μ : zMem} (hr : zRepS h s μ) (x : Nat) : zRepS h (sX s x) (zUp μ h 7 (nI x)) := by
  obtain ⟨r1, r2, r3, r4, r5, r6, r7, r8⟩ := hr
  refine ⟨by rw [zUp_o (by decide)]; exact r1, by rw [zUp_o (by decide)]; exact r2, by rw [zUp_o (by decide)]; exact r3, by rw [zUp_s]; rfl, ?_, ?_, ?_, ?_⟩
  · intro p hp; rw [zUp_ne (by omega)]; exact r5 p hp
  · intro p hp; rw [zUp_ne (by omega)]; exact r6 p hp
  · intro p hp; rw [zUp_ne (by omega)]; exact r7 p hp
  · intro q j hq hj; rw [zUp_ne (by omega)]; exact r8 q j hq hj
theorem zRepS.k {h : Nat} {s : zPS} {μ : zMem} (hr : zRepS h s μ) (p v : Nat) : zRepS h (sK s p v) (zUp μ (h + 1) p (nI v)) := by
  obtain ⟨r1, r2, r3, r4, r5, r6, r7, r8⟩ := hr
  refine ⟨by rw [zUp_ne (by omega)]; exact r1, by rw [zUp_ne (by omega)]; exact r2, by rw [zUp_ne (by omega)]; exact r3, by rw [zUp_ne (by omega)]; exact r4, ?_, ?_, ?_, ?_⟩
  · intro i hi
    show _ = nI (uN (pK s) p v i)
    by_cases e : i = p
    · rw [e, zUp_s, uN_s]
    · rw [zUp_o e, uN_o e]; exact r5 i hi
  · intro p hp; rw [zUp_ne (by omega)]; exact r6 p hp
  · intro p hp; rw [zUp_ne (by omega)]; exact r7 p hp
  · intro q j hq hj; rw [zUp_ne (by omega)]; exact r8 q j hq hj
theorem zRepS.b {h : Nat} {s : zPS} {μ : zMem} (hr : zRepS h s μ) (p v : Nat) : zRepS h (sB s p v) (zUp μ (h + 2) p (nI v)) := by
  obtain ⟨r1, r2, r3, r4, r5, r6, r7, r8⟩ := hr
  refine ⟨by rw [zUp_ne (by omega)]; exact r1, by rw [zUp_ne (by omega)]; exact r2, by rw [zUp_ne (by omega)]; exact r3, by rw [zUp_ne (by omega)]; exact r4, ?_, ?_, ?_, ?_⟩
  · intro p hp; rw [zUp_ne (by omega)]; exact r5 p hp
  · intro i hi
    show _ = nI (uN (pB s) p v i)
    by_cases e : i = p
    · rw [e, zUp_s, uN_s]
    · rw [zUp_o e, uN_o e]; exact r6 i hi
  · intro p hp; rw [zUp_ne (by omega)]; exact r7 p hp
  · intro q j hq hj; rw [zUp_ne (by omega)]; exact r8 q j hq hj
theorem zRepS.p0 {h : Nat} {s : zPS} {μ : zMem} (hr : zRepS h s μ) (q : Nat) : zRepS h (sP0 s q) (zUp μ (h + 3) q (nI 0)) := by
  obtain ⟨r1, r2, r3, r4, r5, r6, r7, r8⟩ := hr
  refine ⟨by rw [zUp_ne (by omega)]; exact r1, by rw [zUp_ne (by omega)]; exact r2, by rw [zUp_ne (by omega)]; exact r3, by rw [zUp_ne (by omega)]; exact r4, ?_, ?_, ?_, ?_⟩
  · intro p hp; rw [zUp_ne (by omega)]; exact r5 p hp
  · intro p hp; rw [zUp_ne (by omega)]; exact r6 p hp
  · intro i hi
    show _ = nI (uN (pP s) q 0 i)
    by_cases e : i = q
    · rw [e, zUp_s, uN_s]
    · rw [zUp_o e, uN_o e]; exact r7 i hi
  · intro i j hi hj
    have hj : j < uN (pP s) q 0 i := hj
    rw [zUp_ne (by omega)]
    by_cases e : i = q
    · rw [e, uN_s] at hj; omega
    · rw [uN_o e] at hj; exact r8 i j hi hj
theorem zRepS.pr {h : Nat} {s : zPS} {μ : zMem} (hr : zRepS h s μ) (hws : zWFS s) {q : Nat} (hq : q < 20) (hP : pP s q < 16) (w : Nat) : zRepS h (sPr s q w) (zUp (zUp μ (h + 4) (16 * q + pP s q) (nI w)) (h + 3) q (nI (pP s q + 1))) := by
  obtain ⟨r1, r2, r3, r4, r5, r6, r7, r8⟩ := hr
  refine ⟨by rw [zUp_ne (by omega), zUp_ne (by omega)]; exact r1, by rw [zUp_ne (by omega), zUp_ne (by omega)]; exact r2, by rw [zUp_ne (by omega), zUp_ne (by omega)]; exact r3, by rw [zUp_ne (by omega), zUp_ne (by omega)]; exact r4, ?_, ?_, ?_, ?_⟩
  · intro p hp; rw [zUp_ne (by omega), zUp_ne (by omega)]; exact r5 p hp
  · intro p hp; rw [zUp_ne (by omega), zUp_ne (by omega)]; exact r6 p hp
  · intro i hi
    show _ = nI (uN (pP s) q (pP s q + 1) i)
    by_cases e : i = q
    · rw [e, zUp_s, uN_s]
    · rw [zUp_o e, zUp_ne (by omega), uN_o e]; exact r7 i hi
  · intro i j hi hj
    have hj : j < uN (pP s) q (pP s q + 1) i := hj
    show _ = nI (if i = q ∧ j = pP s q then w else pW s i j)
    rw [zUp_ne (by omega)]
    by_cases e : i = q ∧ j = pP s q
    · rw [if_pos e, e.1, e.2, zUp_s]
    · rw [if_neg e]
      by_cases e2 : i = q
      · rw [e2, uN_s] at hj
        rw [zUp_o (by omega)]
        exact r8 i j hi (by rw [e2]; omega)
      · rw [uN_o e2] at hj
        have := hws.2.2.2.2.2.2.1 i hi
        rw [zUp_o (by omega)]
        exact r8 i j hi hj
theorem zRepS.wk {h : Nat} {s : zPS} {μ : zMem} (hr : zRepS h s μ) : zRepS h (sWk s) (zUp μ h 6 (nI (pw s + 1))) := by
  obtain ⟨r1, r2, r3, r4, r5, r6, r7, r8⟩ := hr
  refine ⟨by rw [zUp_o (by decide)]; exact r1, by rw [zUp_o (by decide)]; exact r2, by rw [zUp_s]; rfl, by rw [zUp_o (by decide)]; exact r4, ?_, ?_, ?_, ?_⟩
  · intro p hp; rw [zUp_ne (by omega)]; exact r5 p hp
  · intro p hp; rw [zUp_ne (by omega)]; exact r6 p hp
  · intro p hp; rw [zUp_ne (by omega)]; exact r7 p hp
  · intro q j hq hj; rw [zUp_ne (by omega)]; exact r8 q j hq hj
/-- a change of one place of the reference's row -/
theorem zRepN.x {s : zPS} {μ : zMem} (hr : zRepN 61 s μ) (hws : zWFS s) (x : Nat) : zRepN 61 (sX s x) (zUp μ 61 1046 (nI x)) := by
  obtain ⟨r1, r2, r3, r4, r5, r6, r7, r8, r9⟩ := hr
  refine ⟨?_, ?_, ?_, ?_, ?_, ?_, by rw [zUp_o (by decide)]; exact r7, by rw [zUp_o (by decide)]; exact r8, by rw [zUp_s]; rfl⟩
  · intro p hp; rw [zUp_o (by omega)]; exact r1 p hp
  · intro p hp; rw [zUp_o (by omega)]; exact r2 p hp
  · intro p hp; rw [zUp_o (by omega)]; exact r3 p hp
  · intro p hp; rw [zUp_o (by omega)]; exact r4 p hp
  · intro p hp; rw [zUp_o (by omega)]; exact r5 p hp
  · intro q j hq hj
    have := hws.2.2.2.2.2.2.1 q hq
    have hj2 : j < pP s q := hj
    rw [zUp_o (by omega), zUp_o (by omega), zUp_o (by omega)]; exact r6 q j hq hj
theorem zRepN.k {s : zPS} {μ : zMem} (hr : zRepN 61 s μ) {p : Nat} (hp : p < 16) (v : Nat) : zRepN 61 (sK s p v) (zUp μ 61 (16 + p) (nI v)) := by
  obtain ⟨r1, r2, r3, r4, r5, r6, r7, r8, r9⟩ := hr
  refine ⟨?_, ?_, ?_, ?_, ?_, ?_, by rw [zUp_o (by omega)]; exact r7, by rw [zUp_o (by omega)]; exact r8, by rw [zUp_o (by omega)]; exact r9⟩
  · intro p hp; rw [zUp_o (by omega)]; exact r1 p hp
  · intro i hi
    show _ = nI (uN (pK s) p v i)
    by_cases e : i = p
    · rw [e, zUp_s, uN_s]
    · rw [zUp_o (by omega), uN_o e]; exact r2 i hi
  · intro p hp; rw [zUp_o (by omega)]; exact r3 p hp
  · intro p hp; rw [zUp_o (by omega)]; exact r4 p hp
  · intro p hp; rw [zUp_o (by omega)]; exact r5 p hp
  · intro q j hq hj; rw [zUp_o (by omega), zUp_o (by omega), zUp_o (by omega)]; exact r6 q j hq hj
theorem zRepN.b {s : zPS} {μ : zMem} (hr : zRepN 61 s μ) {p : Nat} (hp : p < 16) (v : Nat) : zRepN 61 (sB s p v) (zUp μ 61 (48 + p) (nI v)) := by
  obtain ⟨r1, r2, r3, r4, r5, r6, r7, r8, r9⟩ := hr
  refine ⟨?_, ?_, ?_, ?_, ?_, ?_, by rw [zUp_o (by omega)]; exact r7, by rw [zUp_o (by omega)]; exact r8, by rw [zUp_o (by omega)]; exact r9⟩
  · intro p hp; rw [zUp_o (by omega)]; exact r1 p hp
  · intro p hp; rw [zUp_o (by omega)]; exact r2 p hp
  · intro p hp; rw [zUp_o (by omega)]; exact r3 p hp
  · intro i hi
    show _ = nI (uN (pB s) p v i)
    by_cases e : i = p
    · rw [e, zUp_s, uN_s]
    · rw [zUp_o (by omega), uN_o e]; exact r4 i hi
  · intro p hp; rw [zUp_o (by omega)]; exact r5 p hp
  · intro q j hq hj; rw [zUp_o (by omega), zUp_o (by omega), zUp_o (by omega)]; exact r6 q j hq hj
theorem zRepN.p0 {s : zPS} {μ : zMem} (hr : zRepN 61 s μ) {q : Nat} (hq : q < 20) : zRepN 61 (sP0 s q) (zUp μ 61 (64 + q) (nI 0)) := by
  obtain ⟨r1, r2, r3, r4, r5, r6, r7, r8, r9⟩ := hr
  refine ⟨?_, ?_, ?_, ?_, ?_, ?_, by rw [zUp_o (by omega)]; exact r7, by rw [zUp_o (by omega)]; exact r8, by rw [zUp_o (by omega)]; exact r9⟩
  · intro p hp; rw [zUp_o (by omega)]; exact r1 p hp
  · intro p hp; rw [zUp_o (by omega)]; exact r2 p hp
  · intro p hp; rw [zUp_o (by omega)]; exact r3 p hp
  · intro p hp; rw [zUp_o (by omega)]; exact r4 p hp
  · intro i hi
    show _ = nI (uN (pP s) q 0 i)
    by_cases e : i = q
    · rw [e, zUp_s, uN_s]
    · rw [zUp_o (by omega), uN_o e]; exact r5 i hi
  · intro i j hi hj
    have hj : j < uN (pP s) q 0 i := hj
    rw [zUp_o (by omega), zUp_o (by omega), zUp_o (by omega)]
    by_cases e : i = q
    · rw [e, uN_s] at hj; omega
    · rw [uN_o e] at hj; exact r6 i j hi hj
theorem zRepN.pr {s : zPS} {μ : zMem} (hr : zRepN 61 s μ) (hws : zWFS s) {q : Nat} (hq : q < 20) (hP : pP s q < 16) {a b c : Nat} (ha : a < 16) (hb : b < 16) : zRepN 61 (sPr s q (a + 16 * b + 256 * c)) (zUp (zUp (zUp (zUp μ 61 (84 + 48 * q + 3 * pP s q) (nI a)) 61 (84 + 48 * q + 3 * pP s q + 1) (nI b)) 61 (84 + 48 * q + 3 * pP s q + 2) (nI c)) 61 (64 + q) (nI (pP s q + 1))) := by
  obtain ⟨r1, r2, r3, r4, r5, r6, r7, r8, r9⟩ := hr
  refine ⟨?_, ?_, ?_, ?_, ?_, ?_, by rw [zUp_o (by omega), zUp_o (by omega), zUp_o (by omega), zUp_o (by omega)]; exact r7, by rw [zUp_o (by omega), zUp_o (by omega), zUp_o (by omega), zUp_o (by omega)]; exact r8, by rw [zUp_o (by omega), zUp_o (by omega), zUp_o (by omega), zUp_o (by omega)]; exact r9⟩
  · intro p hp; rw [zUp_o (by omega), zUp_o (by omega), zUp_o (by omega), zUp_o (by omega)]; exact r1 p hp
  · intro p hp; rw [zUp_o (by omega), zUp_o (by omega), zUp_o (by omega), zUp_o (by omega)]; exact r2 p hp
  · intro p hp; rw [zUp_o (by omega), zUp_o (by omega), zUp_o (by omega), zUp_o (by omega)]; exact r3 p hp
  · intro p hp; rw [zUp_o (by omega), zUp_o (by omega), zUp_o (by omega), zUp_o (by omega)]; exact r4 p hp
  · intro i hi
    show _ = nI (uN (pP s) q (pP s q + 1) i)
    by_cases e : i = q
    · rw [e, zUp_s, uN_s]
    · rw [zUp_o (by omega), zUp_o (by omega), zUp_o (by omega), zUp_o (by omega), uN_o e]; exact r5 i hi
  · intro i j hi hj
    have hj : j < uN (pP s) q (pP s q + 1) i := hj
    show _ = nI ((if i = q ∧ j = pP s q then a + 16 * b + 256 * c else pW s i j) % 16) ∧ _ = nI ((if i = q ∧ j = pP s q then a + 16 * b + 256 * c else pW s i j) / 16 % 16) ∧ _ = nI ((if i = q ∧ j = pP s q then a + 16 * b + 256 * c else pW s i j) / 256)
    by_cases e : i = q ∧ j = pP s q
    · rw [if_pos e, e.1, e.2]
      refine ⟨?_, ?_, ?_⟩
      · rw [zUp_o (by omega), zUp_o (by omega), zUp_o (by omega), zUp_s]; congr 1; omega
      · rw [zUp_o (by omega), zUp_o (by omega), zUp_s]; congr 1; omega
      · rw [zUp_o (by omega), zUp_s]; congr 1; omega
    · rw [if_neg e]
      have hi16 := hws.2.2.2.2.2.2.1 i hi
      have hj2 : j < pP s i := by
        by_cases e2 : i = q
        · rw [e2, uN_s] at hj; rw [e2]; omega
        · rw [uN_o e2] at hj; exact hj
      have ne : ∀ d d' : Nat, d < 3 → d' < 3 → 84 + 48 * i + 3 * j + d ≠ 84 + 48 * q + 3 * pP s q + d' := by
        intro d d' hd hd' z
        have h1 : i = q := by omega
        exact e ⟨h1, by rw [h1] at z; omega⟩
      have n0 := ne 0; have n1 := ne 1; have n2 := ne 2
      obtain ⟨g0, g1, g2⟩ := r6 i j hi hj2
      refine ⟨?_, ?_, ?_⟩
      · rw [zUp_o (by omega), zUp_o (by have := n0 2 (by omega) (by omega); omega), zUp_o (by have := n0 1 (by omega) (by omega); omega), zUp_o (by have := n0 0 (by omega) (by omega); omega)]; exact g0
      · rw [zUp_o (by omega), zUp_o (by have := n1 2 (by omega) (by omega); omega), zUp_o (by have := n1 1 (by omega) (by omega); omega), zUp_o (by have := n1 0 (by omega) (by omega); omega)]; exact g1
      · rw [zUp_o (by omega), zUp_o (by have := n2 2 (by omega) (by omega); omega), zUp_o (by have := n2 1 (by omega) (by omega); omega), zUp_o (by have := n2 0 (by omega) (by omega); omega)]; exact g2
theorem zRepN.wk {s : zPS} {μ : zMem} (hr : zRepN 61 s μ) (hws : zWFS s) : zRepN 61 (sWk s) (zUp (zUp μ 61 1044 (nI (pw s + 1))) 61 1045 (nI (pw s + 1))) := by
  obtain ⟨r1, r2, r3, r4, r5, r6, r7, r8, r9⟩ := hr
  refine ⟨?_, ?_, ?_, ?_, ?_, ?_, by rw [zUp_o (by decide), zUp_s]; rfl, by rw [zUp_s]; rfl, by rw [zUp_o (by decide), zUp_o (by decide)]; exact r9⟩
  · intro p hp; rw [zUp_o (by omega), zUp_o (by omega)]; exact r1 p hp
  · intro p hp; rw [zUp_o (by omega), zUp_o (by omega)]; exact r2 p hp
  · intro p hp; rw [zUp_o (by omega), zUp_o (by omega)]; exact r3 p hp
  · intro p hp; rw [zUp_o (by omega), zUp_o (by omega)]; exact r4 p hp
  · intro p hp; rw [zUp_o (by omega), zUp_o (by omega)]; exact r5 p hp
  · intro q j hq hj
    have := hws.2.2.2.2.2.2.1 q hq
    have hj2 : j < pP s q := hj
    rw [zUp_o (by omega), zUp_o (by omega), zUp_o (by omega), zUp_o (by omega), zUp_o (by omega), zUp_o (by omega)]; exact r6 q j hq hj
/-! ===== the lowest bit ===== -/
theorem odd_part : ∀ n x : Nat, x ≤ n → 0 < x → ∃ c t, x = 2 ^ c * (2 * t + 1) := by
  intro n
  induction n with
  | zero => intro x h1 h2; omega
  | succ n ih =>
    intro x h1 h2
    by_cases h : x % 2 = 1
    · exact ⟨0, x / 2, by rw [Nat.pow_zero, Nat.one_mul]; omega⟩
    · obtain ⟨c, t, hc⟩ := ih (x / 2) (by omega) (by omega)
      exact ⟨c + 1, t, by rw [Nat.pow_succ, Nat.mul_right_comm, ← hc]; omega⟩
theorem odd_bit (c t i : Nat) : (2 ^ c * (2 * t + 1)).testBit i = if i < c then false else if i = c then true else t.testBit (i - c - 1) := by
  have h := Nat.testBit_two_pow_mul_add (2 * t + 1) (show 0 < 2 ^ c from Nat.two_pow_pos c) i
  rw [Nat.add_zero] at h
  rw [h]
  by_cases h1 : i < c
  · rw [if_pos h1, if_pos h1]; simp
  · rw [if_neg h1, if_neg h1]
    by_cases h2 : i = c
    · rw [if_pos h2, h2, Nat.sub_self, Nat.testBit_zero]; simp
    · rw [if_neg h2, show i - c = (i - c - 1) + 1 by omega, Nat.testBit_succ]
      congr 1; omega
theorem pred_bit (c t i : Nat) : (2 ^ c * (2 * t + 1) - 1).testBit i = if i < c then true else if i = c then false else t.testBit (i - c - 1) := by
  have hp := Nat.two_pow_pos c
  have e : 2 ^ c * (2 * t + 1) - 1 = 2 ^ c * (2 * t) + (2 ^ c - 1) := by rw [Nat.mul_add, Nat.mul_one]; omega
  rw [e, Nat.testBit_two_pow_mul_add (2 * t) (show 2 ^ c - 1 < 2 ^ c by omega) i]
  by_cases h1 : i < c
  · rw [if_pos h1, if_pos h1, Nat.testBit_two_pow_sub_one]; simp [h1]
  · rw [if_neg h1, if_neg h1]
    by_cases h2 : i = c
    · rw [if_pos h2, h2, Nat.sub_self, Nat.testBit_zero]; simp
    · rw [if_neg h2, show i - c = (i - c - 1) + 1 by omega, Nat.testBit_succ]
      congr 1; omega
theorem ntz_m : ∀ c, c < 16 → (if 0 < nI (2 ^ c - 1) then if nI (2 ^ c - 1) ≤ (nI 65536) then fJ6_numberOfTrailingZeros_0f7a4_34 0 (nI (2 ^ c - 1)) (nI 1) z0 else fJ6_numberOfTrailingZeros_0f7a4_34 0 (zUsh (nI (2 ^ c - 1)) (nI 16)) ((nI 1) + (nI 16)) z0 else some ((nI (2 ^ c - 1) &&& (nI 32)), z0)).map (fun r => r.1) = some (nI c) := by decide +kernel
theorem ntz_i (F : Nat) (x y : Int32) (μ : zMem) : fJ6_numberOfTrailingZeros_0f7a4_34 F x y μ = (fJ6_numberOfTrailingZeros_0f7a4_34 0 x y z0).map (fun r => (r.1, μ)) := by
  unfold fJ6_numberOfTrailingZeros_0f7a4_34 fJ6_numberOfTrailingZeros_0f7a4_49 fJ6_numberOfTrailingZeros_0f7a4_62
  repeat' split
  all_goals rfl
/-- the lowest bit, as the class finds it -/
theorem e_ntz {F x : Nat} {μ : zMem} (hx : x < 65536) (h0 : x ≠ 0) : ∃ c, c < 16 ∧ x.testBit c = true ∧ (∀ i, i < c → x.testBit i = false) ∧ fJ6_numberOfTrailingZeros_0f7a4 F (nI x) μ = some (nI c, μ) := by
  obtain ⟨c, t, hc⟩ := odd_part x x (Nat.le_refl _) (by omega)
  have hc16 : c < 16 := by
    apply Classical.byContradiction
    intro h
    have h1 : 2 ^ 16 ≤ 2 ^ c := Nat.pow_le_pow_right (by decide) (by omega)
    have h2 : 2 ^ c * 1 ≤ 2 ^ c * (2 * t + 1) := Nat.mul_le_mul_left _ (by omega)
    omega
  refine ⟨c, hc16, ?_, ?_, ?_⟩
  · rw [hc, odd_bit]; simp
  · intro i hi
    rw [hc, odd_bit, if_pos hi]
  · have e1 : (nI x ^^^ (-1 : Int32)) &&& (nI x - nI 1) = nI (2 ^ c - 1) := by
      rw [pk_sub (by omega), Int32.and_comm, zq_andn (by omega)]
      congr 1
      apply Nat.eq_of_testBit_eq
      intro i
      rw [nAn_bit (by omega), hc, odd_bit, pred_bit, Nat.testBit_two_pow_sub_one]
      by_cases h1 : i < c
      · simp [h1]
      · by_cases h2 : i = c
        · simp [h1, h2]
        · simp [h1, h2]
    have hm := ntz_m c hc16
    unfold fJ6_numberOfTrailingZeros_0f7a4
    rw [e1]
    generalize nI (2 ^ c - 1) = y at hm
    rw [ntz_i F y (nI 1) μ, ntz_i F (zUsh y (nI 16)) (nI 1 + nI 16) μ]
    by_cases a1 : 0 < y
    · rw [if_pos a1] at hm ⊢
      by_cases a2 : y ≤ nI 65536
      · rw [if_pos a2] at hm ⊢
        cases hq : fJ6_numberOfTrailingZeros_0f7a4_34 0 y (nI 1) z0 with
        | none => rw [hq] at hm; cases hm
        | some r => rw [hq] at hm; show some (r.1, μ) = _; rw [show r.1 = nI c from Option.some.inj hm]
      · rw [if_neg a2] at hm ⊢
        cases hq : fJ6_numberOfTrailingZeros_0f7a4_34 0 (zUsh y (nI 16)) (nI 1 + nI 16) z0 with
        | none => rw [hq] at hm; cases hm
        | some r => rw [hq] at hm; show some (r.1, μ) = _; rw [show r.1 = nI c from Option.some.inj hm]
    · rw [if_neg a1] at hm ⊢
      rw [show (y &&& nI 32) = nI c from Option.some.inj hm]
