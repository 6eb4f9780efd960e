/-! ===== the memory of the press and of the reference: 89 cells at addresses that are variables, each a row of ints ===== -/
abbrev zMem : Type := Nat → Nat → Int32
abbrev zR : Type := Int32 × zMem
def zRow (μ : zMem) (k : Nat) (g : Nat → Int32) : zMem := fun a => if a = k then g else μ a
def zUp (μ : zMem) (k j : Nat) (x : Int32) : zMem := zRow μ k (upd (μ k) j x)
/-- what a cell is: an array (of bytes or not, its length), or an object (its class, its fields: 0 an int, 1 a cell that may change, t + 2 the cell t) -/
abbrev zLK : Type := (Bool × Nat) ⊕ (Nat × List Nat)
def zLayL : List zLK := [
  .inr (11, [3, 5, 10, 15, 0, 20, 35, 38, 1, 1, 48, 52, 56, 58]),
  .inr (9, [4, 0, 0, 0]),
  .inl (false, 260),
  .inr (8, [6, 7, 8, 9, 0, 0, 0, 0]),
  .inl (false, 16),
  .inl (false, 16),
  .inl (false, 20),
  .inl (false, 320),
  .inr (8, [11, 12, 13, 14, 0, 0, 0, 0]),
  .inl (false, 16),
  .inl (false, 16),
  .inl (false, 20),
  .inl (false, 320),
  .inr (8, [16, 17, 18, 19, 0, 0, 0, 0]),
  .inl (false, 16),
  .inl (false, 16),
  .inl (false, 20),
  .inl (false, 320),
  .inr (6, [1, 1]),
  .inr (5, [22, 23, 24, 25, 26, 27, 0, 0]),
  .inl (false, 240),
  .inl (false, 240),
  .inl (false, 16),
  .inl (false, 16),
  .inl (false, 16),
  .inl (false, 16),
  .inr (5, [29, 30, 31, 32, 33, 34, 0, 0]),
  .inl (false, 240),
  .inl (false, 240),
  .inl (false, 16),
  .inl (false, 16),
  .inl (false, 16),
  .inl (false, 16),
  .inr (10, [36, 37, 0]),
  .inl (false, 9),
  .inl (false, 24),
  .inr (4, [39, 40, 41, 0]),
  .inl (false, 20),
  .inl (false, 20),
  .inl (false, 20),
  .inr (1, [43, 44, 0]),
  .inl (false, 60),
  .inl (false, 26),
  .inr (1, [46, 47, 0]),
  .inl (false, 60),
  .inl (false, 26),
  .inr (7, [49, 50, 51]),
  .inl (false, 61),
  .inl (false, 61),
  .inl (false, 61),
  .inr (2, [53, 54, 55, 0]),
  .inl (false, 20),
  .inl (false, 20),
  .inl (false, 20),
  .inr (0, [57]),
  .inl (false, 256),
  .inr (3, [59, 0, 60, 61]),
  .inl (false, 3),
  .inl (false, 16),
  .inl (false, 169),
  .inr (12, [63, 64, 65, 66, 67, 68, 69, 0, 70, 0, 0, 0, 0, 0, 0, 0, 0, 0, 0, 71, 72, 73, 74, 75, 76, 77, 78, 79, 80, 81, 82, 83, 0, 0, 0, 0, 84, 85, 0, 0, 86, 87, 88, 89, 90, 0]),
  .inl (false, 1047),
  .inl (false, 1047),
  .inl (false, 1047),
  .inl (false, 60),
  .inl (false, 26),
  .inl (false, 60),
  .inl (false, 26),
  .inl (true, 260),
  .inl (false, 260),
  .inl (false, 260),
  .inl (false, 16),
  .inl (false, 16),
  .inl (false, 16),
  .inl (false, 16),
  .inl (false, 260),
  .inl (false, 16),
  .inl (false, 16),
  .inl (false, 16),
  .inl (false, 16),
  .inl (false, 260),
  .inl (false, 9),
  .inl (false, 65536),
  .inl (true, 65536),
  .inl (false, 61),
  .inl (false, 61),
  .inl (false, 61),
  .inl (false, 169),
  .inl (false, 16)]
def zLay (k : Nat) : zLK := zLayL.getD k (.inl (false, 0))
def zLY (k : Nat) (x : zLK) : Prop := k < 89 ∧ zLay k = x
theorem zLY_of {k : Nat} {x : zLK} (h : (zLayL[k]? = some x)) : zLY k x := by
  have hl : zLayL.length = 89 := by decide +kernel
  refine ⟨?_, ?_⟩
  · have := (List.getElem?_eq_some_iff.mp h).1
    omega
  · unfold zLay; rw [List.getD_eq_getElem?_getD, h]; rfl
theorem zL0 : zLY 0 (.inr (11, [3, 5, 10, 15, 0, 20, 35, 38, 1, 1, 48, 52, 56, 58])) := zLY_of rfl
theorem zL1 : zLY 1 (.inr (9, [4, 0, 0, 0])) := zLY_of rfl
theorem zL2 : zLY 2 (.inl (false, 260)) := zLY_of rfl
theorem zL3 : zLY 3 (.inr (8, [6, 7, 8, 9, 0, 0, 0, 0])) := zLY_of rfl
theorem zL4 : zLY 4 (.inl (false, 16)) := zLY_of rfl
theorem zL5 : zLY 5 (.inl (false, 16)) := zLY_of rfl
theorem zL6 : zLY 6 (.inl (false, 20)) := zLY_of rfl
theorem zL7 : zLY 7 (.inl (false, 320)) := zLY_of rfl
theorem zL8 : zLY 8 (.inr (8, [11, 12, 13, 14, 0, 0, 0, 0])) := zLY_of rfl
theorem zL9 : zLY 9 (.inl (false, 16)) := zLY_of rfl
theorem zL10 : zLY 10 (.inl (false, 16)) := zLY_of rfl
theorem zL11 : zLY 11 (.inl (false, 20)) := zLY_of rfl
theorem zL12 : zLY 12 (.inl (false, 320)) := zLY_of rfl
theorem zL13 : zLY 13 (.inr (8, [16, 17, 18, 19, 0, 0, 0, 0])) := zLY_of rfl
theorem zL14 : zLY 14 (.inl (false, 16)) := zLY_of rfl
theorem zL15 : zLY 15 (.inl (false, 16)) := zLY_of rfl
theorem zL16 : zLY 16 (.inl (false, 20)) := zLY_of rfl
theorem zL17 : zLY 17 (.inl (false, 320)) := zLY_of rfl
theorem zL18 : zLY 18 (.inr (6, [1, 1])) := zLY_of rfl
theorem zL19 : zLY 19 (.inr (5, [22, 23, 24, 25, 26, 27, 0, 0])) := zLY_of rfl
theorem zL20 : zLY 20 (.inl (false, 240)) := zLY_of rfl
theorem zL21 : zLY 21 (.inl (false, 240)) := zLY_of rfl
theorem zL22 : zLY 22 (.inl (false, 16)) := zLY_of rfl
theorem zL23 : zLY 23 (.inl (false, 16)) := zLY_of rfl
theorem zL24 : zLY 24 (.inl (false, 16)) := zLY_of rfl
theorem zL25 : zLY 25 (.inl (false, 16)) := zLY_of rfl
theorem zL26 : zLY 26 (.inr (5, [29, 30, 31, 32, 33, 34, 0, 0])) := zLY_of rfl
theorem zL27 : zLY 27 (.inl (false, 240)) := zLY_of rfl
theorem zL28 : zLY 28 (.inl (false, 240)) := zLY_of rfl
theorem zL29 : zLY 29 (.inl (false, 16)) := zLY_of rfl
theorem zL30 : zLY 30 (.inl (false, 16)) := zLY_of rfl
theorem zL31 : zLY 31 (.inl (false, 16)) := zLY_of rfl
theorem zL32 : zLY 32 (.inl (false, 16)) := zLY_of rfl
theorem zL33 : zLY 33 (.inr (10, [36, 37, 0])) := zLY_of rfl
theorem zL34 : zLY 34 (.inl (false, 9)) := zLY_of rfl
theorem zL35 : zLY 35 (.inl (false, 24)) := zLY_of rfl
theorem zL36 : zLY 36 (.inr (4, [39, 40, 41, 0])) := zLY_of rfl
theorem zL37 : zLY 37 (.inl (false, 20)) := zLY_of rfl
theorem zL38 : zLY 38 (.inl (false, 20)) := zLY_of rfl
theorem zL39 : zLY 39 (.inl (false, 20)) := zLY_of rfl
theorem zL40 : zLY 40 (.inr (1, [43, 44, 0])) := zLY_of rfl
theorem zL41 : zLY 41 (.inl (false, 60)) := zLY_of rfl
theorem zL42 : zLY 42 (.inl (false, 26)) := zLY_of rfl
theorem zL43 : zLY 43 (.inr (1, [46, 47, 0])) := zLY_of rfl
theorem zL44 : zLY 44 (.inl (false, 60)) := zLY_of rfl
theorem zL45 : zLY 45 (.inl (false, 26)) := zLY_of rfl
theorem zL46 : zLY 46 (.inr (7, [49, 50, 51])) := zLY_of rfl
theorem zL47 : zLY 47 (.inl (false, 61)) := zLY_of rfl
theorem zL48 : zLY 48 (.inl (false, 61)) := zLY_of rfl
theorem zL49 : zLY 49 (.inl (false, 61)) := zLY_of rfl
theorem zL50 : zLY 50 (.inr (2, [53, 54, 55, 0])) := zLY_of rfl
theorem zL51 : zLY 51 (.inl (false, 20)) := zLY_of rfl
theorem zL52 : zLY 52 (.inl (false, 20)) := zLY_of rfl
theorem zL53 : zLY 53 (.inl (false, 20)) := zLY_of rfl
theorem zL54 : zLY 54 (.inr (0, [57])) := zLY_of rfl
theorem zL55 : zLY 55 (.inl (false, 256)) := zLY_of rfl
theorem zL56 : zLY 56 (.inr (3, [59, 0, 60, 61])) := zLY_of rfl
theorem zL57 : zLY 57 (.inl (false, 3)) := zLY_of rfl
theorem zL58 : zLY 58 (.inl (false, 16)) := zLY_of rfl
theorem zL59 : zLY 59 (.inl (false, 169)) := zLY_of rfl
theorem zL60 : zLY 60 (.inr (12, [63, 64, 65, 66, 67, 68, 69, 0, 70, 0, 0, 0, 0, 0, 0, 0, 0, 0, 0, 71, 72, 73, 74, 75, 76, 77, 78, 79, 80, 81, 82, 83, 0, 0, 0, 0, 84, 85, 0, 0, 86, 87, 88, 89, 90, 0])) := zLY_of rfl
theorem zL61 : zLY 61 (.inl (false, 1047)) := zLY_of rfl
theorem zL62 : zLY 62 (.inl (false, 1047)) := zLY_of rfl
theorem zL63 : zLY 63 (.inl (false, 1047)) := zLY_of rfl
theorem zL64 : zLY 64 (.inl (false, 60)) := zLY_of rfl
theorem zL65 : zLY 65 (.inl (false, 26)) := zLY_of rfl
theorem zL66 : zLY 66 (.inl (false, 60)) := zLY_of rfl
theorem zL67 : zLY 67 (.inl (false, 26)) := zLY_of rfl
theorem zL68 : zLY 68 (.inl (true, 260)) := zLY_of rfl
theorem zL69 : zLY 69 (.inl (false, 260)) := zLY_of rfl
theorem zL70 : zLY 70 (.inl (false, 260)) := zLY_of rfl
theorem zL71 : zLY 71 (.inl (false, 16)) := zLY_of rfl
theorem zL72 : zLY 72 (.inl (false, 16)) := zLY_of rfl
theorem zL73 : zLY 73 (.inl (false, 16)) := zLY_of rfl
theorem zL74 : zLY 74 (.inl (false, 16)) := zLY_of rfl
theorem zL75 : zLY 75 (.inl (false, 260)) := zLY_of rfl
theorem zL76 : zLY 76 (.inl (false, 16)) := zLY_of rfl
theorem zL77 : zLY 77 (.inl (false, 16)) := zLY_of rfl
theorem zL78 : zLY 78 (.inl (false, 16)) := zLY_of rfl
theorem zL79 : zLY 79 (.inl (false, 16)) := zLY_of rfl
theorem zL80 : zLY 80 (.inl (false, 260)) := zLY_of rfl
theorem zL81 : zLY 81 (.inl (false, 9)) := zLY_of rfl
theorem zL82 : zLY 82 (.inl (false, 65536)) := zLY_of rfl
theorem zL83 : zLY 83 (.inl (true, 65536)) := zLY_of rfl
theorem zL84 : zLY 84 (.inl (false, 61)) := zLY_of rfl
theorem zL85 : zLY 85 (.inl (false, 61)) := zLY_of rfl
theorem zL86 : zLY 86 (.inl (false, 61)) := zLY_of rfl
theorem zL87 : zLY 87 (.inl (false, 169)) := zLY_of rfl
theorem zL88 : zLY 88 (.inl (false, 16)) := zLY_of rfl
abbrev zClasses : List vw_C := [(RX0, TX0, 1), (RX1, TX1, 3), (RX2, TX2, 4), (RX3, TX3, 4), (RX4, TX4, 4), (RX5, TX5, 8), (RX6, TX6, 2), (RX7, TX7, 3), (RX8, TX8, 8), (RX9, TX9, 4), (RX10, TX10, 3), (RX11, TX11, 14), (RX12, TX12, 46)]
def zFv (ad : Nat → Nat) (q : Nat) (x : Int32) : Value := match q with
  | 0 => .int x
  | 1 => .ref (ad x.toNatClampNeg)
  | t + 2 => .ref (ad t)
def zFs (ad : Nat → Nat) (fks : List Nat) (f : Nat → Int32) : List Value := fks.zipIdx.map (fun q => zFv ad q.1 (f q.2))
def zCell (cyI cyB : ClassId) (ad : Nat → Nat) (x : zLK) (f : Nat → Int32) : va_E := match x with
  | .inl (b, n) => .inl (bif b then cyB else cyI, n, .inl f)
  | .inr (ci, fks) => .inr (ci, zFs ad fks f)
def zConc (cyI cyB : ClassId) (ad : Nat → Nat) (μ : zMem) : va_W := (List.range 89).map fun k => (ad k, zCell cyI cyB ad (zLay k) (μ k))
theorem zConc_at {cyI cyB : ClassId} {ad : Nat → Nat} {μ : zMem} {k : Nat} {x : zLK} (h : zLY k x) : (zConc cyI cyB ad μ)[k]? = some (ad k, zCell cyI cyB ad x (μ k)) := by
  obtain ⟨h1, h2⟩ := h
  subst h2
  simp [zConc, h1]
theorem zConc_set {cyI cyB : ClassId} {ad : Nat → Nat} {μ : zMem} {k : Nat} {x : zLK} (h : zLY k x) (g : Nat → Int32) : (zConc cyI cyB ad μ).set k (ad k, zCell cyI cyB ad x g) = zConc cyI cyB ad (zRow μ k g) := by
  obtain ⟨h1, h2⟩ := h
  subst h2
  apply List.ext_getElem?
  intro i
  by_cases hi : i = k
  · subst hi
    rw [List.getElem?_set_self (by simp [zConc, h1])]
    simp [zConc, h1, zRow]
  · rw [List.getElem?_set_ne (Ne.symm hi)]
    by_cases hl : i < 89
    · simp [zConc, hl, zRow, hi]
    · simp [zConc, hl]
theorem zFs_at {ad : Nat → Nat} {fks : List Nat} {f : Nat → Int32} {j q : Nat} (h : fks[j]? = some q) : (zFs ad fks f)[j]? = some (zFv ad q (f j)) := by
  simp [zFs, List.getElem?_zipIdx, h]
theorem zFs_set {ad : Nat → Nat} {fks : List Nat} {f : Nat → Int32} {j q : Nat} (h : fks[j]? = some q) (x : Int32) : (zFs ad fks f).set j (zFv ad q x) = zFs ad fks (upd f j x) := by
  apply List.ext_getElem?
  intro i
  have hj : j < fks.length := (List.getElem?_eq_some_iff.mp h).1
  by_cases hi : i = j
  · subst hi
    rw [List.getElem?_set_self (by simp [zFs, hj])]
    simp [zFs, List.getElem?_zipIdx, h, upd]
  · rw [List.getElem?_set_ne (Ne.symm hi)]
    simp only [zFs, List.getElem?_map, List.getElem?_zipIdx]
    cases fks[i]? with
    | none => rfl
    | some a => simp [upd, hi]
theorem zFs_len {ad : Nat → Nat} {fks : List Nat} {f : Nat → Int32} : (zFs ad fks f).length = fks.length := by simp [zFs]
/-- which addresses are the system's -/
def zA (ad : Nat → Nat) : Nat → Prop := fun q => ∃ k, k < 89 ∧ q = ad k
def zOK (ad : Nat → Nat) : Prop := ∀ i j, i < 89 → j < 89 → ad i = ad j → i = j
theorem zD {cyI cyB : ClassId} {ad : Nat → Nat} (h : zOK ad) (μ : zMem) : va_D (zA ad) (zConc cyI cyB ad μ) := by
  have key : ∀ (k : Nat) (q : Nat × va_E), (zConc cyI cyB ad μ)[k]? = some q → k < 89 ∧ q.1 = ad k := by
    intro k q hk
    have hl : k < 89 := by
      have := (List.getElem?_eq_some_iff.mp hk).1
      simpa [zConc] using this
    refine ⟨hl, ?_⟩
    rw [zConc_at ⟨hl, rfl⟩] at hk
    cases hk
    rfl
  refine ⟨fun i j x y hi hj hxy => ?_, fun k q hk => ?_⟩
  · obtain ⟨a1, a2⟩ := key i x hi
    obtain ⟨b1, b2⟩ := key j y hj
    exact h i j a1 b1 (by rw [← a2, ← b2, hxy])
  · obtain ⟨a1, a2⟩ := key k q hk
    exact ⟨k, a1, a2⟩
abbrev zTys (cyI cyB : ClassId) : List (ClassId × FieldType) := [(cyI, .int), (cyB, .byte)]
/-- the surroundings of all calls: the launch, the classes' numbers, the arrays' classes, the addresses -/
abbrev zEV : Type := Launch × va_G × ClassId × ClassId × (Nat → Nat)
/-- links to private methods of a nest mate -/
def zNL : List (String × Nat × MethodName × String) := [
  ("WhisperPress", 9, ⟨"WhisperPress$Tape", "<init>", "()V"⟩, "WhisperPress"),
  ("WhisperPress", 18, ⟨"WhisperPress$State", "<init>", "()V"⟩, "WhisperPress"),
  ("WhisperPress", 35, ⟨"WhisperPress$LawBook", "<init>", "()V"⟩, "WhisperPress"),
  ("WhisperPress$LawBook", 11, ⟨"WhisperPress$Law", "<init>", "()V"⟩, "WhisperPress"),
  ("WhisperPress", 42, ⟨"WhisperPress$Week", "<init>", "()V"⟩, "WhisperPress"),
  ("WhisperPress", 49, ⟨"WhisperPress$GossipSheet", "<init>", "()V"⟩, "WhisperPress"),
  ("WhisperPress", 56, ⟨"WhisperPress$CopySheet", "<init>", "()V"⟩, "WhisperPress"),
  ("WhisperPress", 66, ⟨"WhisperPress$Setting", "<init>", "()V"⟩, "WhisperPress"),
  ("WhisperPress", 73, ⟨"WhisperPress$Cover", "<init>", "()V"⟩, "WhisperPress"),
  ("WhisperPress", 80, ⟨"WhisperPress$Archive", "<init>", "()V"⟩, "WhisperPress"),
  ("WhisperPress", 87, ⟨"WhisperPress$Desk", "<init>", "()V"⟩, "WhisperPress"),
  ("WhisperPress$Tape", 19, ⟨"WhisperPress", "isWithin", "(III)Z"⟩, "WhisperPress"),
  ("WhisperPress$Law", 41, ⟨"WhisperPress", "isWithin", "(III)Z"⟩, "WhisperPress"),
  ("WhisperPress$GossipSheet", 46, ⟨"WhisperPress", "isPerson", "(I)Z"⟩, "WhisperPress"),
  ("WhisperPress$GossipSheet", 52, ⟨"WhisperPress", "hasBit", "(II)Z"⟩, "WhisperPress"),
  ("WhisperPress$GossipSheet", 70, ⟨"WhisperPress", "isSecret", "(I)Z"⟩, "WhisperPress"),
  ("WhisperPress$CopySheet", 43, ⟨"WhisperPress", "isWithin", "(III)Z"⟩, "WhisperPress"),
  ("WhisperPress$CopySheet", 55, ⟨"WhisperPress", "isLetter", "(I)Z"⟩, "WhisperPress"),
  ("WhisperPress$State", 47, ⟨"WhisperPress", "isPerson", "(I)Z"⟩, "WhisperPress"),
  ("WhisperPress$State", 51, ⟨"WhisperPress", "hasBit", "(II)Z"⟩, "WhisperPress"),
  ("WhisperPress$Week", 119, ⟨"WhisperPress", "hasBit", "(II)Z"⟩, "WhisperPress"),
  ("WhisperPress$Week", 90, ⟨"WhisperPress", "packedWhisper", "(III)I"⟩, "WhisperPress"),
  ("WhisperPress$State", 75, ⟨"WhisperPress", "secretOf", "(I)I"⟩, "WhisperPress"),
  ("WhisperPress$Archive", 28, ⟨"WhisperPress", "fromOf", "(I)I"⟩, "WhisperPress"),
  ("WhisperPress$Archive", 32, ⟨"WhisperPress", "toOf", "(I)I"⟩, "WhisperPress"),
  ("WhisperPress$Archive", 41, ⟨"WhisperPress", "hasBit", "(II)Z"⟩, "WhisperPress"),
  ("WhisperPress$Desk", 41, ⟨"WhisperPress", "isWithin", "(III)Z"⟩, "WhisperPress"),
  ("WhisperPress$Desk", 53, ⟨"WhisperPress", "hasBit", "(II)Z"⟩, "WhisperPress")]
def zNs (U : State) : Prop := ∀ q ∈ zNL, va_Nw (.methodLinkNest q.1 q.2.1 q.2.2.1 q.2.2.2) U
theorem zNs.warm {s U : State} (hW : s.WarmedH U.vm) (h : zNs s) : zNs U := fun q hq => va_Nw.warmM hW (h q hq)
theorem zNs.same {s U : State} (hv : s.vm = U.vm) (h : zNs s) : zNs U := fun q hq => va_Nw.same rfl hv (h q hq)
/-- the tables' words that go along with calls -/
def zT : List Cond := lw_tbl.filter goodWord
theorem zT_mem {w : Cond} (i : Nat) (h : lw_tbl[i]? = some w) (hg : goodWord w = true) : w ∈ zT := List.mem_filter.mpr ⟨List.mem_of_getElem? h, hg⟩
theorem zT_in : GoodIn zT zT := fun w hw => ⟨hw, good_of_word (List.mem_filter.mp hw).2⟩
def zWd (E : zEV) (μ : zMem) (U : State) : Prop := va_P E.2.1 zClasses (zConc E.2.2.1 E.2.2.2.1 E.2.2.2.2 μ) U.heap ∧ va_K E.2.1 zClasses (zTys E.2.2.1 E.2.2.2.1) U ∧ zNs U
def zRm (d : Nat) : Room := { frames := d, cells := 0, slots := 0, locals := 64 * d }
def zRv (ret : Option FieldType) (r : Int32) : Option Value := match ret with
  | none => none
  | some _ => some (.int r)
def zQ (E : zEV) (ret : Option FieldType) (out : zR) : Array Value → State → Outcome → State → Prop := fun _ st o t => o = .returned (zRv ret out.1) ∧ zWd E out.2 t ∧ va_F (zA E.2.2.2.2) st t
def zV (ad : Nat → Nat) (v : Value) : Value := match v with
  | .ref k => .ref (ad k)
  | v => v
def zLs (ad : Nat → Nat) (la : Array Slot) (nL : Nat) (ls : List (Option Value)) : Prop := la.size = nL ∧ lv_wf la ∧ ∀ (i : Nat) (v : Value), ls[i]? = some (some v) → la[i]? = some (.val (zV ad v))
/-- one run of one method: the machine, the frame; the room, the cells that were made, what it must come to; its locals, its return type, what it gives -/
abbrev zX : Type := zEV × (Program × Env × State × MethodId × Array Value × List Frame × Method × Code) × (Room × Nat × Nat × (State → Prop)) × (Nat × Option FieldType × zR)
def zPr (X : zX) : Program := X.2.1.1
def zEn (X : zX) : Env := X.2.1.2.1
def zS (X : zX) : State := X.2.1.2.2.1
def zM (X : zX) : MethodId := X.2.1.2.2.2.1
def zArgs (X : zX) : Array Value := X.2.1.2.2.2.2.1
def zBel (X : zX) : List Frame := X.2.1.2.2.2.2.2.1
def zMeth (X : zX) : Method := X.2.1.2.2.2.2.2.2.1
def zCo (X : zX) : Code := X.2.1.2.2.2.2.2.2.2
def zRo (X : zX) : Room := X.2.2.1.1
def zNc (X : zX) : Nat := X.2.2.1.2.1
def zNl (X : zX) : Nat := X.2.2.1.2.2.1
def zGoal (X : zX) : State → Prop := X.2.2.1.2.2.2
def znL (X : zX) : Nat := X.2.2.2.1
def zRet (X : zX) : Option FieldType := X.2.2.2.2.1
def zOut (X : zX) : zR := X.2.2.2.2.2
def zWX (X : zX) (H : Heap) (locs : List Loc) (g : JFrame) : Prop := W (zPr X) X.1.1 (zEn X) (zRo X) (zS X) (zM X) (zArgs X) (zBel X) (zMeth X) (zCo X) H locs (zNc X) (zNl X) (zGoal X) g
def zAW (X : zX) (pc : Nat) (ls : List (Option Value)) (st : List Value) (μ : zMem) : Prop :=
  ∀ (H : Heap) (locs : List Loc) (la : Array Slot), va_P X.1.2.1 zClasses (zConc X.1.2.2.1 X.1.2.2.2.1 X.1.2.2.2.2 μ) H → va_S (zA X.1.2.2.2.2) (zS X).heap H locs → zLs X.1.2.2.2.2 la (znL X) ls →
    zWX X H locs (F0 (zM X) pc la (st.map (zV X.1.2.2.2.2)))
/-- what holds in a method of the class 'own', of the bytes cc, that needs lv frames -/
def zCx (X : zX) (own : String) (cc : ByteArray) (nL lv : Nat) : Prop :=
  (zPr X).tables.exec = Jvm.exec ∧ (zCo X).code = cc ∧ (zCo X).maxLocals = nL ∧ (zS X).vm.findClass own = some (zM X).cls ∧ (∀ w ∈ zT, w.before (zArgs X) (zS X) = true) ∧ va_K X.1.2.1 zClasses (zTys X.1.2.2.1 X.1.2.2.2.1) (zS X) ∧ (zMeth X).sig.returnType = zRet X ∧ (zMeth X).locks = false ∧ zOK X.1.2.2.2.2 ∧ (lv ≤ (zRo X).frames ∧ 64 * lv ≤ (zRo X).locals ∧ zNc X ≤ (zRo X).cells ∧ zNl X ≤ (zRo X).slots) ∧ zNs (zS X) ∧ znL X = nL
/-- an ordinary method: its end -/
def zRt (X : zX) (ret : Option FieldType) : Prop := zRet X = ret ∧ zNc X = 0 ∧ zNl X = 0 ∧ zGoal X = MQ (zBel X) (zQ X.1 (zRet X) (zOut X)) (zArgs X) (zS X) 0 0 (zA X.1.2.2.2.2)
/-- a method's contract: from a memory μ and these arguments it comes to 'out' -/
def zCt (E : zEV) (y : MethodName) (bytes : ByteArray) (maxL : Nat) (ret : Option FieldType) (lv : Nat) (av : List Value) (μ : zMem) (out : zR) : Prop :=
  zOK E.2.2.2.2 → ∀ d, lv ≤ d → Met E.1 y (.code y bytes maxL ret :: zT) (zRm d) (va_Pc (av.map (zV E.2.2.2.2)) (fun U => zWd E μ U)) (zQ E ret out) 0 0 (zA E.2.2.2.2)
theorem zArgs_at : ∀ (av : List Value) (ad : Nat → Nat) (k i : Nat) (v : Value), (∀ w ∈ av, w.category = 1) → av[i]? = some v → (k + i, zV ad v) ∈ lv_args k (av.map (zV ad))
  | [], _, _, i, v, _, h => by simp at h
  | w :: av, ad, k, i, v, hc, h => by
    have hw : (zV ad w).category = 1 := by
      have := hc w List.mem_cons_self
      cases w <;> first | exact this | rfl
    show (k + i, zV ad v) ∈ (k, zV ad w) :: lv_args (if (zV ad w).category = 2 then k + 2 else k + 1) (av.map (zV ad))
    cases i with
    | zero =>
      have e : w = v := by simpa using h
      subst e
      exact List.mem_cons_self
    | succ i =>
      rw [if_neg (by rw [hw]; decide)]
      have := zArgs_at av ad (k + 1) i v (fun x hx => hc x (List.mem_cons_of_mem _ hx)) (by simpa using h)
      rw [show k + (i + 1) = k + 1 + i by omega]
      exact List.mem_cons_of_mem _ this
theorem zOfW {l : Launch} {y : MethodName} {ws ws' : List Cond} {rm : Room} {Pc : Array Value → State → Prop} {Qc : Array Value → State → Outcome → State → Prop} {mc ms : Nat} {free : Addr → Prop} {cc : ByteArray} {maxL : Nat} {ret : Option FieldType}
    (hy : plainFor y = true) (hw : ws = Cond.code y cc maxL ret :: ws')
    (body : ∀ p e s m args below meth c s₁, BodyLoose p l y (headSpec ws rm) cc maxL ret e s m args below meth c s₁ → c.maxLocals = maxL → Pc args s →
      W p l e (headSpec ws rm).room s m args below meth c s.heap [] 0 0 (MQ below Qc args s mc ms free) (entryFrame m args maxL)) : Met l y ws rm Pc Qc mc ms free := by
  refine MetFree.of_bodySF (code := cc) (maxLocals := maxL) (ret := ret) hy ?_ ?_
  · intro args s m h hn
    obtain ⟨meth, c, h1, h2, h3, h4, h5, h6, -, -⟩ := Cond.code_spec hn (atoms_spec (ws := ws) h _ (by rw [hw]; exact List.mem_cons_self))
    exact ⟨meth, c, h1, h2, h3, h4, h5, h6⟩
  · intro p e s m args below meth c s₁ B hml hP _
    have hh0 : s₁.heap = s.heap := by rw [B.state]; rfl
    obtain ⟨t, a1, o, b1, b2, b3⟩ := body p e s m args below meth c s₁ B hml hP s₁ hh0 (Stand.of_body B)
    exact ⟨t, o, a1, b1, b2, ⟨b3.1, b3.2⟩⟩
theorem zCt.of0 {E : zEV} {y : MethodName} {bytes : ByteArray} {maxL lv : Nat} {ret : Option FieldType} {av : List Value} {μ : zMem} {out : zR} (ls : List (Option Value)) (hy : plainFor y = true) (hn : (lg_sl (av.map (zV E.2.2.2.2))).length ≤ maxL)
    (hls : ∀ (i : Nat) (v : Value), ls[i]? = some (some v) → (i, zV E.2.2.2.2 v) ∈ lv_args 0 (av.map (zV E.2.2.2.2)))
    (h : ∀ X : zX, X.1 = E → zOut X = out → zRt X ret → zCx X y.cls bytes maxL lv → zAW X 0 ls [] μ) : zCt E y bytes maxL ret lv av μ out := by
  intro hok d hd
  refine zOfW (cc := bytes) (maxL := maxL) (ret := ret) hy rfl ?_
  intro p e s m args below meth c s₁ B hml hv
  obtain ⟨rfl, hP, hK, hN⟩ := hv
  have hts := atoms_spec (ws := .code y bytes maxL ret :: zT) B.pre
  have hown : s.vm.findClass y.cls = some m.cls := findClass_of_methodNamed B.named
  have hl := lv_entry (av.map (zV E.2.2.2.2)) (n := maxL) hn
  rw [lg_entry_eq]
  exact h (E, (p, e, s, m, _, below, meth, c), (zRm d, 0, 0, MQ below (zQ E ret out) _ s 0 0 (zA E.2.2.2.2)), (maxL, ret, out)) rfl rfl ⟨rfl, rfl, rfl, rfl⟩ ⟨B.exec, B.bytes, hml, hown, fun w hw => hts w (List.mem_cons_of_mem _ hw), hK, B.returns, B.notSynchronized, hok, ⟨hd, Nat.mul_le_mul_left 64 hd, Nat.le_refl _, Nat.le_refl _⟩, hN, rfl⟩ s.heap [] _ hP va_S.rf ⟨hl.1, hl.2.1, fun i v hi => hl.2.2 (i, _) (hls i v hi)⟩
