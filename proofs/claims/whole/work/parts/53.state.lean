/-! ===== the state that both hold, as plain numbers ===== -/
/-- PEOPLE and BACK NUMBERS: told ones (bits), readers (bits), secrets, breath, how many are printed in a slot, each whisper (from + 16 to + 256 secret), the week, X -/
abbrev zPS : Type := Nat × Nat × (Nat → Nat) × (Nat → Nat) × (Nat → Nat) × (Nat → Nat → Nat) × Nat × Nat
def pT (s : zPS) : Nat := s.1
def pR (s : zPS) : Nat := s.2.1
def pK (s : zPS) : Nat → Nat := s.2.2.1
def pB (s : zPS) : Nat → Nat := s.2.2.2.1
def pP (s : zPS) : Nat → Nat := s.2.2.2.2.1
def pW (s : zPS) : Nat → Nat → Nat := s.2.2.2.2.2.1
def pw (s : zPS) : Nat := s.2.2.2.2.2.2.1
def px (s : zPS) : Nat := s.2.2.2.2.2.2.2
def zRepS (h : Nat) (s : zPS) (μ : zMem) : Prop :=
  μ h 4 = nI (pT s) ∧ μ h 5 = nI (pR s) ∧ μ h 6 = nI (pw s) ∧ μ h 7 = nI (px s) ∧ (∀ p, p < 16 → μ (h + 1) p = nI (pK s p)) ∧ (∀ p, p < 16 → μ (h + 2) p = nI (pB s p)) ∧ (∀ q, q < 20 → μ (h + 3) q = nI (pP s q)) ∧ ∀ q j, q < 20 → j < pP s q → μ (h + 4) (16 * q + j) = nI (pW s q j)
def zRepN (a : Nat) (s : zPS) (μ : zMem) : Prop :=
  (∀ p, p < 16 → μ a p = nI ((pT s).testBit p).toNat) ∧ (∀ p, p < 16 → μ a (16 + p) = nI (pK s p)) ∧ (∀ p, p < 16 → μ a (32 + p) = nI ((pR s).testBit p).toNat) ∧ (∀ p, p < 16 → μ a (48 + p) = nI (pB s p)) ∧ (∀ q, q < 20 → μ a (64 + q) = nI (pP s q)) ∧ (∀ q j, q < 20 → j < pP s q → μ a (84 + 48 * q + 3 * j) = nI (pW s q j % 16) ∧ μ a (84 + 48 * q + 3 * j + 1) = nI (pW s q j / 16 % 16) ∧ μ a (84 + 48 * q + 3 * j + 2) = nI (pW s q j / 256)) ∧ μ a 1044 = nI (pw s) ∧ μ a 1045 = nI (pw s) ∧ μ a 1046 = nI (px s)
def zWFS (s : zPS) : Prop :=
  pT s < 65536 ∧ pR s < 65536 ∧ (∀ p, (pR s).testBit p = true → (pT s).testBit p = true) ∧ (∀ p, p < 16 → pK s p < 65536) ∧ (∀ p, p < 16 → pB s p ≤ 9999) ∧ (∀ p, p < 16 → (pT s).testBit p = false → pB s p = 0) ∧ (∀ q, q < 20 → pP s q ≤ 16) ∧ (∀ q j, q < 20 → j < pP s q → pW s q j < 4096) ∧ pw s ≤ 9999 ∧ px s < 65536
theorem zRepS.of {h : Nat} {s : zPS} {μ μ1 : zMem} (hr : zRepS h s μ) (e : ∀ k, h ≤ k → k ≤ h + 4 → μ1 k = μ k) : zRepS h s μ1 := by
  unfold zRepS
  rw [e h (by omega) (by omega), e (h + 1) (by omega) (by omega), e (h + 2) (by omega) (by omega), e (h + 3) (by omega) (by omega), e (h + 4) (by omega) (by omega)]
  exact hr
theorem zRepN.of {a : Nat} {s : zPS} {μ μ1 : zMem} (hr : zRepN a s μ) (e : μ1 a = μ a) : zRepN a s μ1 := by
  unfold zRepN
  rw [e]
  exact hr
/-- the law: how many rules; of each its letter, where its value, its test begin, where that ends; the codes' kinds and numbers; how many codes -/
abbrev zLS : Type := Nat × (Nat → Nat) × (Nat → Nat) × (Nat → Nat) × (Nat → Nat) × (Nat → Nat) × (Nat → Nat) × Nat
def lR (l : zLS) : Nat := l.1
def lK (l : zLS) : Nat → Nat := l.2.1
def lV (l : zLS) : Nat → Nat := l.2.2.1
def lT (l : zLS) : Nat → Nat := l.2.2.2.1
def lE (l : zLS) : Nat → Nat := l.2.2.2.2.1
def lO (l : zLS) : Nat → Nat := l.2.2.2.2.2.1
def lA (l : zLS) : Nat → Nat := l.2.2.2.2.2.2.1
def lN0 (l : zLS) : Nat := l.2.2.2.2.2.2.2
/-- the class's sign of a kind of code: a number, a fact, + - * / % < > = ! & | -/
def zSign (o : Nat) : Nat := [0, 1, 43, 45, 42, 47, 37, 60, 62, 61, 33, 38, 124].getD o 0
def zLawC (l : zLS) (μ : zMem) : Prop := ∃ h, zIsLw h = true ∧ μ 18 0 = nI h ∧ μ 18 1 = nI (45 - h) ∧ μ h 7 = nI (lR l) ∧ (∀ r, r < lR l → μ (h + 3) r = nI (lK l r) ∧ μ (h + 4) r = nI (lV l r) ∧ μ (h + 5) r = nI (lT l r) ∧ μ (h + 6) r = nI (lE l r)) ∧ ∀ i, i < lN0 l → μ (h + 1) i = nI (zSign (lO l i)) ∧ μ (h + 2) i = nI (lA l i)
def zLawM (l : zLS) (μ : zMem) : Prop := μ 60 18 = nI (lR l) ∧ (∀ r, r < lR l → μ 76 r = nI (lK l r) ∧ μ 77 r = nI (lV l r) ∧ μ 78 r = nI (lT l r) ∧ μ 79 r = nI (lE l r)) ∧ ∀ i, i < lN0 l → μ 75 i = nI (1048576 * lO l i + lA l i)
/-- codes from a up to e that push one number, d places at the most: a number, a fact, two such and a sign behind them -/
def ySV (l : zLS) (a e d : Nat) : Prop := ∀ P : Nat → Nat → Nat → Prop, (∀ a d, lO l a = 0 → lA l a < 100000 → 1 ≤ d → P a (a + 1) d) → (∀ a d, lO l a = 1 → lA l a < 9 → 1 ≤ d → P a (a + 1) d) → (∀ a m f d d2, P a m d → P m f d2 → d2 + 1 ≤ d → 2 ≤ lO l f → lO l f ≤ 6 → lA l f = 0 → P a (f + 1) d) → P a e d
/-- that push a truth: two numbers and a sign behind them, one such and a not, two such and a jump between them -/
def yST (l : zLS) (a e d : Nat) : Prop := ∀ P : Nat → Nat → Nat → Prop, (∀ a m f d d2, ySV l a m d → ySV l m f d2 → d2 + 1 ≤ d → 7 ≤ lO l f → lO l f ≤ 9 → lA l f = 0 → P a (f + 1) d) → (∀ a f d, P a f d → lO l f = 10 → lA l f = 0 → P a (f + 1) d) → (∀ a m e d, P a m d → (lO l m = 11 ∨ lO l m = 12) → lA l m = e → P (m + 1) e d → P a e d) → P a e d
def zWFL (l : zLS) : Prop := lR l ≤ 16 ∧ lN0 l ≤ 240 ∧ ∀ r, r < lR l → (lK l r = 101 ∨ lK l r = 104 ∨ lK l r = 109 ∨ lK l r = 114) ∧ lE l r ≤ lN0 l ∧ yST l (lT l r) (lE l r) 24 ∧ (lK l r ≠ 114 → ySV l (lV l r) (lT l r) 24)
/-- copy: how many words, how long each is, how often each letter stands -/
abbrev zCS : Type := Nat × (Nat → Nat) × (Nat → Nat)
def cW (c : zCS) : Nat := c.1
def cL (c : zCS) : Nat → Nat := c.2.1
def cU (c : zCS) : Nat → Nat := c.2.2
def zCopyC (c : zCS) (μ : zMem) : Prop := ∃ h, zIsCp h = true ∧ μ 0 8 = nI h ∧ μ 0 9 = nI (83 - h) ∧ μ h 2 = nI (cW c) ∧ (∀ i, i < cW c → μ (h + 1) i = nI (cL c i)) ∧ ∀ i, i < 26 → μ (h + 2) i = nI (cU c i)
def zCopyM (c : zCS) (μ : zMem) : Prop := μ 60 7 = nI (cW c) ∧ (∀ i, i < cW c → μ 64 i = nI (cL c i)) ∧ ∀ i, i < 26 → μ 65 i = nI (cU c i)
def zWFC (c : zCS) : Prop := cW c ≤ 60 ∧ (∀ i, i < cW c → 1 ≤ cL c i ∧ cL c i ≤ 12) ∧ (∀ i, i < 26 → cU c i ≤ 720) ∧ fb_sm (cL c) (cW c) = fb_sm (cU c) 26
/-- all of it: the tape's length and bytes; now; what was kept; the law; copy -/
abbrev zAS : Type := Nat × (Nat → Nat) × zPS × Option zPS × zLS × zCS
def aT (A : zAS) : Nat := A.1
def aB (A : zAS) : Nat → Nat := A.2.1
def aN (A : zAS) : zPS := A.2.2.1
def aK (A : zAS) : Option zPS := A.2.2.2.1
def aL (A : zAS) : zLS := A.2.2.2.2.1
def aC (A : zAS) : zCS := A.2.2.2.2.2
def zTapeC (n : Nat) (b : Nat → Nat) (μ : zMem) : Prop := μ 1 1 = nI n ∧ ∀ j, j < n → μ 2 j = nI (b j)
def zTapeM (n : Nat) (b : Nat → Nat) (μ : zMem) : Prop := μ 60 9 = nI n ∧ ∀ j, j < n → μ 68 j &&& nI 255 = nI (b j)
def zKeptC (k : Option zPS) (μ : zMem) : Prop := match k with
  | none => μ 0 4 = nI 0
  | some s => μ 0 4 = nI 1 ∧ zRepS 8 s μ
def zKeptM (k : Option zPS) (μ : zMem) : Prop := match k with
  | none => μ 60 45 = nI 0
  | some s => μ 60 45 = nI 1 ∧ zRepN 63 s μ
def zRepC (A : zAS) (μ : zMem) : Prop := zTapeC (aT A) (aB A) μ ∧ zRepS 3 (aN A) μ ∧ zKeptC (aK A) μ ∧ zLawC (aL A) μ ∧ zCopyC (aC A) μ
def zRepM (A : zAS) (μ : zMem) : Prop := zTapeM (aT A) (aB A) μ ∧ zRepN 61 (aN A) μ ∧ zKeptM (aK A) μ ∧ zLawM (aL A) μ ∧ zCopyM (aC A) μ
def zWF (A : zAS) : Prop := (aT A ≤ 260 ∧ ∀ j, aB A j < 256) ∧ zWFS (aN A) ∧ (∀ s, aK A = some s → zWFS s) ∧ zWFL (aL A) ∧ zWFC (aC A)
theorem zTapeC.of {n : Nat} {b : Nat → Nat} {μ μ1 : zMem} (h : zTapeC n b μ) (e1 : μ1 1 1 = μ 1 1) (e2 : μ1 2 = μ 2) : zTapeC n b μ1 := ⟨by rw [e1]; exact h.1, fun j hj => by rw [e2]; exact h.2 j hj⟩
theorem zTapeM.of {n : Nat} {b : Nat → Nat} {μ μ1 : zMem} (h : zTapeM n b μ) (e1 : μ1 60 9 = μ 60 9) (e2 : μ1 68 = μ 68) : zTapeM n b μ1 := ⟨by rw [e1]; exact h.1, fun j hj => by rw [e2]; exact h.2 j hj⟩
theorem zKeptC.of {k : Option zPS} {μ μ1 : zMem} (h : zKeptC k μ) (e1 : μ1 0 4 = μ 0 4) (e2 : ∀ k, 8 ≤ k → k ≤ 12 → μ1 k = μ k) : zKeptC k μ1 := by
  cases k with
  | none => exact e1.trans h
  | some s => exact ⟨e1.trans h.1, h.2.of (fun k h1 h2 => e2 k h1 h2)⟩
theorem zKeptM.of {k : Option zPS} {μ μ1 : zMem} (h : zKeptM k μ) (e1 : μ1 60 45 = μ 60 45) (e2 : μ1 63 = μ 63) : zKeptM k μ1 := by
  cases k with
  | none => exact e1.trans h
  | some s => exact ⟨e1.trans h.1, h.2.of e2⟩
theorem zLawC.of {l : zLS} {μ μ1 : zMem} (h : zLawC l μ) (e : ∀ k, 18 ≤ k → k ≤ 32 → μ1 k = μ k) : zLawC l μ1 := by
  obtain ⟨a, h1, h2⟩ := h
  refine ⟨a, h1, ?_⟩
  have : a = 19 ∨ a = 26 := zIsLw_or h1
  rw [e 18 (by omega) (by omega), e a (by omega) (by omega), e (a + 1) (by omega) (by omega), e (a + 2) (by omega) (by omega), e (a + 3) (by omega) (by omega), e (a + 4) (by omega) (by omega), e (a + 5) (by omega) (by omega), e (a + 6) (by omega) (by omega)]
  exact h2
theorem zLawM.of {l : zLS} {μ μ1 : zMem} (h : zLawM l μ) (e0 : μ1 60 18 = μ 60 18) (e : ∀ k, 75 ≤ k → k ≤ 79 → μ1 k = μ k) : zLawM l μ1 := by
  unfold zLawM
  rw [e0, e 75 (by omega) (by omega), e 76 (by omega) (by omega), e 77 (by omega) (by omega), e 78 (by omega) (by omega), e 79 (by omega) (by omega)]
  exact h
theorem zCopyC.of {c : zCS} {μ μ1 : zMem} (h : zCopyC c μ) (e8 : μ1 0 8 = μ 0 8) (e9 : μ1 0 9 = μ 0 9) (e : ∀ k, 40 ≤ k → k ≤ 45 → μ1 k = μ k) : zCopyC c μ1 := by
  obtain ⟨a, h1, h2⟩ := h
  refine ⟨a, h1, ?_⟩
  have : a = 40 ∨ a = 43 := zIsCp_or h1
  rw [e8, e9, e a (by omega) (by omega), e (a + 1) (by omega) (by omega), e (a + 2) (by omega) (by omega)]
  exact h2
theorem zCopyM.of {c : zCS} {μ μ1 : zMem} (h : zCopyM c μ) (e0 : μ1 60 7 = μ 60 7) (e1 : μ1 64 = μ 64) (e2 : μ1 65 = μ 65) : zCopyM c μ1 := by
  unfold zCopyM
  rw [e0, e1, e2]
  exact h
theorem zRepC.of {A : zAS} {μ μ1 : zMem} (h : zRepC A μ) (e : ∀ k, k < 60 → μ1 k = μ k) : zRepC A μ1 :=
  ⟨h.1.of (by rw [e 1 (by omega)]) (e 2 (by omega)), h.2.1.of (fun k h1 h2 => e k (by omega)), h.2.2.1.of (by rw [e 0 (by omega)]) (fun k h1 h2 => e k (by omega)), h.2.2.2.1.of (fun k h1 h2 => e k (by omega)), h.2.2.2.2.of (by rw [e 0 (by omega)]) (by rw [e 0 (by omega)]) (fun k h1 h2 => e k (by omega))⟩
theorem zRepM.of {A : zAS} {μ μ1 : zMem} (h : zRepM A μ) (e : ∀ k, 60 ≤ k → μ1 k = μ k) : zRepM A μ1 :=
  ⟨h.1.of (by rw [e 60 (by omega)]) (e 68 (by omega)), h.2.1.of (e 61 (by omega)), h.2.2.1.of (by rw [e 60 (by omega)]) (e 63 (by omega)), h.2.2.2.1.of (by rw [e 60 (by omega)]) (fun k h1 h2 => e k (by omega)), h.2.2.2.2.of (by rw [e 60 (by omega)]) (e 64 (by omega)) (e 65 (by omega))⟩
/-- a call of the class and one of the reference: they answer alike, and both hold one state again -/
def zPair (f g : zMem → Option zR) : Prop := ∀ (A : zAS) (μ : zMem), zWF A → zRepC A μ → zRepM A μ → ∃ (r : Int32) (μ1 μ2 : zMem) (A' : zAS), f μ = some (r, μ1) ∧ g μ1 = some (r, μ2) ∧ zWF A' ∧ zRepC A' μ2 ∧ zRepM A' μ2
theorem zPair.mk {f g : zMem → Option zR} (h : ∀ (A : zAS) (μ : zMem), zWF A → zRepC A μ → ∃ (r : Int32) (A' : zAS) (μ1 : zMem), f μ = some (r, μ1) ∧ zWF A' ∧ zRepC A' μ1 ∧ (∀ k, 60 ≤ k → μ1 k = μ k) ∧ ∀ μ', zRepM A μ' → ∃ μ2, g μ' = some (r, μ2) ∧ zRepM A' μ2 ∧ ∀ k, k < 60 → μ2 k = μ' k) : zPair f g := by
  intro A μ hW hC hM
  obtain ⟨r, A', μ1, h1, h2, h3, h4, h5⟩ := h A μ hW hC
  obtain ⟨μ2, h6, h7, h8⟩ := h5 μ1 (hM.of h4)
  exact ⟨r, μ1, μ2, A', h1, h6, h2, h3.of h8, h7⟩
/-- calls that change nothing -/
theorem zPair.ro {f g : zMem → Option zR} (v : zAS → Int32) (h1 : ∀ (A : zAS) (μ : zMem), zWF A → zRepC A μ → f μ = some (v A, μ)) (h2 : ∀ (A : zAS) (μ : zMem), zWF A → zRepM A μ → g μ = some (v A, μ)) : zPair f g := zPair.mk fun A μ hW hC => ⟨v A, A, μ, h1 A μ hW hC, hW, hC, fun _ _ => rfl, fun μ' hM => ⟨μ', h2 A μ' hW hM, hM, fun _ _ => rfl⟩⟩
/-! told ones -/
def zTold (s : zPS) (x : Int32) : Bool := zIn x 0 15 && (pT s).testBit x.toNatClampNeg
theorem zTold_n {s : zPS} {p : Nat} (hp : p < 16) : zTold s (nI p) = (pT s).testBit p := by
  unfold zTold
  rw [zIn_nI (by omega) (by decide) (by decide), nI_clamp (by omega)]
  simp; omega
theorem e_isTold {F h : Nat} {s : zPS} {μ : zMem} (hr : zRepS h s μ) (hw : zWFS s) (x : Int32) : fX8_isTold F h x μ = some (zB (zTold s x), μ) := by
  unfold fX8_isTold zTold
  rw [e_isPerson, zBd_s]
  cases hz : zIn x 0 15
  · rw [if_pos (zB_0.mpr rfl)]; rfl
  · rw [if_neg (fun z => by cases zB_0.mp z)]
    obtain ⟨j, -, hj, rfl⟩ := zIn_t (by decide) (by decide) hz
    rw [hr.1, e_hasBit (by have := hw.1; omega) (by omega), zBd_s, nI_clamp (by omega)]
    cases (pT s).testBit j
    · rw [if_pos (zB_0.mpr rfl)]; rfl
    · rw [if_neg (fun z => by cases zB_0.mp z)]; rfl
theorem e_mTold {F : Nat} {s : zPS} {μ : zMem} (hr : zRepN 61 s μ) (x : Int32) : fX12_isTold F x μ = some (zB (zTold s x), μ) := by
  unfold fX12_isTold zTold
  rw [e_in, zBd_s]
  cases hz : zIn x 0 15
  · rw [if_pos (zB_0.mpr rfl)]; rfl
  · rw [if_neg (fun z => by cases zB_0.mp z)]
    obtain ⟨j, -, hj, rfl⟩ := zIn_t (by decide) (by decide) hz
    have e : nI 0 + nI j = nI j := by rw [nI_add, Nat.zero_add]
    rw [e, zG_in rfl (by omega) (by decide), nI_clamp (by omega), hr.1 j (by omega)]
    cases (pT s).testBit j
    · rw [if_neg (by decide)]; rfl
    · rw [if_pos (by decide)]; rfl
theorem e_isReader {F h : Nat} {s : zPS} {μ : zMem} (hr : zRepS h s μ) (hw : zWFS s) {p : Nat} (hp : p < 16) : fX8_isReader F h (nI p) μ = some (zB ((pR s).testBit p), μ) := by
  unfold fX8_isReader
  rw [e_isPerson, zBd_s, zIn_nI (by omega) (by decide) (by decide), if_neg (by rw [zB_0]; simp; omega), hr.2.1, e_hasBit (by have := hw.2.1; omega) (by omega), zBd_s]
  cases (pR s).testBit p
  · rw [if_pos (zB_0.mpr rfl)]; rfl
  · rw [if_neg (fun z => by cases zB_0.mp z)]; rfl
def zSec (s : zPS) (p : Nat) : Nat := if (pT s).testBit p then pK s p else 0
theorem e_secretsOf {F h : Nat} {s : zPS} {μ : zMem} (hr : zRepS h s μ) (hw : zWFS s) {p : Nat} (hp : p < 16) : fX8_secretsOf F h (nI p) μ = some (nI (zSec s p), μ) := by
  unfold fX8_secretsOf zSec
  rw [e_isTold hr hw, zBd_s, zTold_n hp]
  cases (pT s).testBit p
  · rw [if_pos (zB_0.mpr rfl)]; rfl
  · rw [if_neg (fun z => by cases zB_0.mp z), zG_in rfl hp (by decide), nI_clamp (by omega), hr.2.2.2.2.1 p hp]; rfl
