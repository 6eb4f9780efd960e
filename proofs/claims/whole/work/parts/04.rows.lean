/-! ===== one row an instruction, over the memory ===== -/
/-- guards of the functions that tell what methods do: an index, a divisor, a truth, a cell; a call -/
def zG (i : Int32) (n : Nat) (B : Option zR) : Option zR := if ¬ (i < 0 ∨ n ≤ i.toNatClampNeg) then B else none
def zGz (y : Int32) (B : Option zR) : Option zR := if y = 0 then none else B
def zGb (b : Bool) (B : Option zR) : Option zR := if b = true then B else none
def zBd (x : Option zR) (K : Int32 → zMem → Option zR) : Option zR := match x with
  | none => none
  | some q => K q.1 q.2
theorem zG_some {i : Int32} {n : Nat} {B : Option zR} {o : zR} (h : zG i n B = some o) : vp_in i n ∧ B = some o := by
  unfold zG at h
  by_cases hc : ¬ (i < 0 ∨ n ≤ i.toNatClampNeg)
  · rw [if_pos hc] at h; exact ⟨hc, h⟩
  · rw [if_neg hc] at h; cases h
theorem zGz_some {y : Int32} {B : Option zR} {o : zR} (h : zGz y B = some o) : ¬ y = 0 ∧ B = some o := by
  unfold zGz at h
  by_cases hc : y = 0
  · rw [if_pos hc] at h; cases h
  · rw [if_neg hc] at h; exact ⟨hc, h⟩
theorem zGb_some {b : Bool} {B : Option zR} {o : zR} (h : zGb b B = some o) : b = true ∧ B = some o := by
  unfold zGb at h
  by_cases hc : b = true
  · rw [if_pos hc] at h; exact ⟨hc, h⟩
  · rw [if_neg hc] at h; cases h
theorem zBd_some {x : Option zR} {K : Int32 → zMem → Option zR} {o : zR} (h : zBd x K = some o) : ∃ r μ, x = some (r, μ) ∧ K r μ = some o := by
  cases x with
  | none => cases h
  | some q => exact ⟨q.1, q.2, rfl, h⟩
/-- fewer locals are known -/
def zLw : List (Option Value) → List (Option Value) → Prop
  | [], _ => True
  | none :: a, b => zLw a b.tail
  | some v :: a, b => b.head? = some (some v) ∧ zLw a b.tail
theorem zLw_at : ∀ (a b : List (Option Value)), zLw a b → ∀ (i : Nat) (v : Value), a[i]? = some (some v) → b[i]? = some (some v)
  | [], _, _, i, v, h => by simp at h
  | none :: a, b, h, i, v, hi => by
    cases i with
    | zero => simp at hi
    | succ i =>
      have h2 := zLw_at a b.tail h i v (by simpa using hi)
      simpa [List.getElem?_tail] using h2
  | some w :: a, b, h, i, v, hi => by
    cases i with
    | zero =>
      have e : w = v := by simpa using hi
      subst e
      rw [← List.head?_eq_getElem?]
      exact h.1
    | succ i =>
      have h2 := zLw_at a b.tail h.2 i v (by simpa using hi)
      simpa [List.getElem?_tail] using h2
theorem zLs.weak {ad : Nat → Nat} {la : Array Slot} {nL : Nat} {ls ls' : List (Option Value)} (h : zLs ad la nL ls) (hw : zLw ls' ls) : zLs ad la nL ls' := ⟨h.1, h.2.1, fun i v hi => h.2.2 i v (zLw_at _ _ hw i v hi)⟩
theorem zAW.weak {X : zX} {pc : Nat} {ls ls' : List (Option Value)} {st : List Value} {μ : zMem} (h : zAW X pc ls' st μ) (hw : zLw ls' ls) : zAW X pc ls st μ := fun H locs la hP hS hl => h H locs la hP hS (hl.weak hw)
theorem zV_cat (ad : Nat → Nat) (v : Value) : (zV ad v).category = v.category := by cases v <;> rfl
/-- the pairs of a list of locals -/
def zPs (ad : Nat → Nat) (ls : List (Option Value)) : List (Nat × Value) := ls.zipIdx.filterMap (fun q => q.1.map (fun v => (q.2, zV ad v)))
theorem zPs_mem {ad : Nat → Nat} {ls : List (Option Value)} {i : Nat} {v : Value} (h : ls[i]? = some (some v)) : (i, zV ad v) ∈ zPs ad ls := by
  refine List.mem_filterMap.mpr ⟨(some v, i), ?_, rfl⟩
  exact List.mem_iff_getElem?.mpr ⟨i, by simp [List.getElem?_zipIdx, h]⟩
theorem zPs_at {ad : Nat → Nat} {ls : List (Option Value)} {q : Nat × Value} (h : q ∈ zPs ad ls) : ∃ v, ls[q.1]? = some (some v) ∧ q.2 = zV ad v := by
  obtain ⟨⟨o, i⟩, h1, h2⟩ := List.mem_filterMap.mp h
  obtain ⟨j, hj⟩ := List.mem_iff_getElem?.mp h1
  rw [List.getElem?_zipIdx] at hj
  cases ho : ls[j]? with
  | none => rw [ho] at hj; simp at hj
  | some x =>
    rw [ho] at hj
    simp at hj
    obtain ⟨e1, e2⟩ := hj
    subst e1; subst e2
    cases x with
    | none => simp at h2
    | some v =>
      simp at h2
      subst h2
      exact ⟨v, ho, rfl⟩
theorem zLs.has {ad : Nat → Nat} {la : Array Slot} {nL : Nat} {ls : List (Option Value)} (h : zLs ad la nL ls) : lv_has la nL (zPs ad ls) := ⟨h.1, h.2.1, fun q hq => by
  obtain ⟨v, h1, h2⟩ := zPs_at hq
  rw [h2]
  exact h.2.2 q.1 v h1⟩
/-- all listed locals are of one slot -/
def z1 (ls : List (Option Value)) : Prop := ∀ (i : Nat) (v : Value), ls[i]? = some (some v) → v.category = 1
def z1b (ls : List (Option Value)) : Bool := ls.all (fun q => match q with
  | none => true
  | some (.int _) => true
  | some (.ref _) => true
  | _ => false)
theorem z1_of {ls : List (Option Value)} (h : z1b ls = true) : z1 ls := by
  intro i v hi
  have h1 := List.all_eq_true.mp h (some v) (List.mem_of_getElem? hi)
  cases v <;> first | rfl | simp at h1
theorem zLs.put {ad : Nat → Nat} {la' : Array Slot} {nL i : Nat} {ls : List (Option Value)} {v : Value} (hls : z1b ls = true) (h : lv_has la' nL ((i, zV ad v) :: (zPs ad ls).filter (fun q => !(q.1 == i) && !(q.1 + 1 == i && q.2.category == 2)))) : zLs ad la' nL (ls.set i (some v)) := by
  refine ⟨h.1, h.2.1, fun j w hj => ?_⟩
  by_cases hij : j = i
  · subst hij
    have hl : j < ls.length := by
      have := (List.getElem?_eq_some_iff.mp hj).1
      simpa using this
    rw [List.getElem?_set_self hl] at hj
    cases hj
    exact h.2.2 (j, zV ad v) List.mem_cons_self
  · rw [List.getElem?_set_ne (Ne.symm hij)] at hj
    refine h.2.2 (j, zV ad w) (List.mem_cons_of_mem _ (List.mem_filter.mpr ⟨zPs_mem hj, ?_⟩))
    have hc := z1_of hls j w hj
    simp [hij, zV_cat, hc]
section ZS
variable {X : zX} {own : String} {cc : ByteArray} {nL lv pc nx : Nat} {ls : List (Option Value)} {st : List Value} {μ : zMem}
theorem zs_k {v : Int32} (hC : zCx X own cc nL lv) (hd : zDK cc pc v nx) (k : zAW X nx ls (.int v :: st) μ) : zAW X pc ls st μ := by
  intro H locs la hP hS hl
  rcases hd with ⟨n, h1, h2, rfl⟩ | ⟨n, h1, h2, rfl⟩ | ⟨n, h1, h2, rfl⟩
  · exact lv_iconst hC.1 hC.2.1 h1 h2 (k H locs la hP hS hl)
  · exact lv_bipush hC.1 hC.2.1 h1 h2 (k H locs la hP hS hl)
  · exact lv_sipush hC.1 hC.2.1 h1 h2 (k H locs la hP hS hl)
theorem zs_ldc {v : Int32} {idx : Nat} (hC : zCx X own cc nL lv) (hw : Cond.constant own idx v ∈ zT) (hd : zDC cc pc (.ldc idx) 2 nx) (k : zAW X nx ls (.int v :: st) μ) : zAW X pc ls st μ := by
  obtain ⟨h1, rfl⟩ := hd
  intro H locs la hP hS hl
  exact lv_ldc hC.1 hC.2.1 hC.2.2.2.1 (hC.2.2.2.2.1 _ hw) h1 (k H locs la hP hS hl)
theorem zs_ldcw {v : Int32} {idx : Nat} (hC : zCx X own cc nL lv) (hw : Cond.constant own idx v ∈ zT) (hd : zDC cc pc (.ldc_w idx) 3 nx) (k : zAW X nx ls (.int v :: st) μ) : zAW X pc ls st μ := by
  obtain ⟨h1, rfl⟩ := hd
  intro H locs la hP hS hl
  exact lv_ldcw hC.1 hC.2.1 hC.2.2.2.1 (hC.2.2.2.2.1 _ hw) h1 (k H locs la hP hS hl)
theorem zs_il {i : Nat} {x : Int32} (hC : zCx X own cc nL lv) (hd : zDLi cc pc i nx) (hi : ls[i]? = some (some (.int x))) (k : zAW X nx ls (.int x :: st) μ) : zAW X pc ls st μ := by
  intro H locs la hP hS hl
  have hg := hl.2.2 i _ hi
  rcases hd with ⟨n, h1, h2, rfl⟩ | ⟨h1, rfl⟩
  · exact lv_iload_n hC.1 hC.2.1 h1 h2 hg (k H locs la hP hS hl)
  · exact lv_iload hC.1 hC.2.1 h1 hg (k H locs la hP hS hl)
theorem zs_al {i x : Nat} (hC : zCx X own cc nL lv) (hd : zDLa cc pc i nx) (hi : ls[i]? = some (some (.ref x))) (k : zAW X nx ls (.ref x :: st) μ) : zAW X pc ls st μ := by
  intro H locs la hP hS hl
  have hg := hl.2.2 i _ hi
  rcases hd with ⟨n, h1, h2, rfl⟩ | ⟨h1, rfl⟩
  · exact lv_aload_n hC.1 hC.2.1 h1 h2 hg (k H locs la hP hS hl)
  · exact lv_aload hC.1 hC.2.1 h1 hg (k H locs la hP hS hl)
theorem zs_is {i : Nat} {x : Int32} (hC : zCx X own cc nL lv) (hd : zDSi cc pc i nx) (hi : i < nL) (hb : z1b ls = true) (k : zAW X nx (ls.set i (some (.int x))) st μ) : zAW X pc ls (.int x :: st) μ := by
  have hn : znL X = nL := hC.2.2.2.2.2.2.2.2.2.2.2
  intro H locs la hP hS hl
  rcases hd with ⟨n, h1, h2, rfl⟩ | ⟨h1, rfl⟩
  · exact lv_istore_n hC.1 hC.2.1 h1 h2 hl.has (by rw [hn]; exact hi) rfl (fun la' h' => k H locs la' hP hS (zLs.put (v := .int x) hb h'))
  · exact lv_istore hC.1 hC.2.1 h1 hl.has (by rw [hn]; exact hi) rfl (fun la' h' => k H locs la' hP hS (zLs.put (v := .int x) hb h'))
theorem zs_as {i x : Nat} (hC : zCx X own cc nL lv) (hd : zDSa cc pc i nx) (hi : i < nL) (hb : z1b ls = true) (k : zAW X nx (ls.set i (some (.ref x))) st μ) : zAW X pc ls (.ref x :: st) μ := by
  have hn : znL X = nL := hC.2.2.2.2.2.2.2.2.2.2.2
  intro H locs la hP hS hl
  rcases hd with ⟨n, h1, h2, rfl⟩ | ⟨h1, rfl⟩
  · exact lv_astore_n hC.1 hC.2.1 h1 h2 hl.has (by rw [hn]; exact hi) rfl (fun la' h' => k H locs la' hP hS (zLs.put (v := .ref x) hb h'))
  · exact lv_astore hC.1 hC.2.1 h1 hl.has (by rw [hn]; exact hi) rfl (fun la' h' => k H locs la' hP hS (zLs.put (v := .ref x) hb h'))
theorem zs_iinc {i : Nat} {n : Int} {x : Int32} (v : Int32) (hC : zCx X own cc nL lv) (hd : zDC cc pc (.iinc i n) 3 nx) (hv : Int32.ofInt n = v) (hx : ls[i]? = some (some (.int x))) (hi : i < nL) (hb : z1b ls = true) (k : zAW X nx (ls.set i (some (.int (x + v)))) st μ) : zAW X pc ls st μ := by
  have hn : znL X = nL := hC.2.2.2.2.2.2.2.2.2.2.2
  obtain ⟨h1, rfl⟩ := hd
  intro H locs la hP hS hl
  obtain ⟨j, hj⟩ := List.mem_iff_getElem?.mp (zPs_mem (ad := X.1.2.2.2.2) hx)
  exact lv_iinc (v := x + v) hC.1 hC.2.1 h1 hl.has hj (by rw [hv]) (by rw [hn]; exact hi) rfl (fun la' h' => k H locs la' hP hS (zLs.put (v := .int (x + v)) hb h'))
theorem zs_iadd {x y : Int32} (hC : zCx X own cc nL lv) (hd : zDC cc pc .iadd 1 nx) (k : zAW X nx ls (.int (x + y) :: st) μ) : zAW X pc ls (.int y :: .int x :: st) μ := by
  obtain ⟨h1, rfl⟩ := hd
  exact fun H locs la hP hS hl => lv_iadd hC.1 hC.2.1 h1 (k H locs la hP hS hl)
theorem zs_isub {x y : Int32} (hC : zCx X own cc nL lv) (hd : zDC cc pc .isub 1 nx) (k : zAW X nx ls (.int (x - y) :: st) μ) : zAW X pc ls (.int y :: .int x :: st) μ := by
  obtain ⟨h1, rfl⟩ := hd
  exact fun H locs la hP hS hl => lv_isub hC.1 hC.2.1 h1 (k H locs la hP hS hl)
theorem zs_imul {x y : Int32} (hC : zCx X own cc nL lv) (hd : zDC cc pc .imul 1 nx) (k : zAW X nx ls (.int (x * y) :: st) μ) : zAW X pc ls (.int y :: .int x :: st) μ := by
  obtain ⟨h1, rfl⟩ := hd
  exact fun H locs la hP hS hl => lv_imul hC.1 hC.2.1 h1 (k H locs la hP hS hl)
theorem zs_iand {x y : Int32} (hC : zCx X own cc nL lv) (hd : zDC cc pc .iand 1 nx) (k : zAW X nx ls (.int (x &&& y) :: st) μ) : zAW X pc ls (.int y :: .int x :: st) μ := by
  obtain ⟨h1, rfl⟩ := hd
  exact fun H locs la hP hS hl => lv_iand hC.1 hC.2.1 h1 (k H locs la hP hS hl)
theorem zs_ior {x y : Int32} (hC : zCx X own cc nL lv) (hd : zDC cc pc .ior 1 nx) (k : zAW X nx ls (.int (x ||| y) :: st) μ) : zAW X pc ls (.int y :: .int x :: st) μ := by
  obtain ⟨h1, rfl⟩ := hd
  exact fun H locs la hP hS hl => lv_ior hC.1 hC.2.1 h1 (k H locs la hP hS hl)
theorem zs_ixor {x y : Int32} (hC : zCx X own cc nL lv) (hd : zDC cc pc .ixor 1 nx) (k : zAW X nx ls (.int (x ^^^ y) :: st) μ) : zAW X pc ls (.int y :: .int x :: st) μ := by
  obtain ⟨h1, rfl⟩ := hd
  exact fun H locs la hP hS hl => lv_ixor hC.1 hC.2.1 h1 (k H locs la hP hS hl)
theorem zs_ishl {x y : Int32} (hC : zCx X own cc nL lv) (hd : zDC cc pc .ishl 1 nx) (k : zAW X nx ls (.int (x <<< (y &&& 31)) :: st) μ) : zAW X pc ls (.int y :: .int x :: st) μ := by
  obtain ⟨h1, rfl⟩ := hd
  exact fun H locs la hP hS hl => lv_ishl hC.1 hC.2.1 h1 (k H locs la hP hS hl)
theorem zs_ishr {x y : Int32} (hC : zCx X own cc nL lv) (hd : zDC cc pc .ishr 1 nx) (k : zAW X nx ls (.int (x >>> (y &&& 31)) :: st) μ) : zAW X pc ls (.int y :: .int x :: st) μ := by
  obtain ⟨h1, rfl⟩ := hd
  exact fun H locs la hP hS hl => lv_ishr hC.1 hC.2.1 h1 (k H locs la hP hS hl)
def zUsh (x y : Int32) : Int32 := (x.toUInt32 >>> (y.toUInt32 &&& Int32.toUInt32 31)).toInt32
theorem zs_iushr {x y : Int32} (hC : zCx X own cc nL lv) (hd : zDC cc pc .iushr 1 nx) (k : zAW X nx ls (.int (zUsh x y) :: st) μ) : zAW X pc ls (.int y :: .int x :: st) μ := by
  obtain ⟨h1, rfl⟩ := hd
  exact fun H locs la hP hS hl => lv_iushr hC.1 hC.2.1 h1 rfl (k H locs la hP hS hl)
theorem zs_ineg {x : Int32} (hC : zCx X own cc nL lv) (hd : zDC cc pc .ineg 1 nx) (k : zAW X nx ls (.int (-x) :: st) μ) : zAW X pc ls (.int x :: st) μ := by
  obtain ⟨h1, rfl⟩ := hd
  exact fun H locs la hP hS hl => lv_ineg hC.1 hC.2.1 h1 (k H locs la hP hS hl)
theorem zs_i2b {x : Int32} (hC : zCx X own cc nL lv) (hd : zDC cc pc .i2b 1 nx) (k : zAW X nx ls (.int x.toInt8.toInt32 :: st) μ) : zAW X pc ls (.int x :: st) μ := by
  obtain ⟨h1, rfl⟩ := hd
  exact fun H locs la hP hS hl => lv_i2b hC.1 hC.2.1 h1 rfl (k H locs la hP hS hl)
theorem zs_idiv {x y : Int32} {B : Option zR} (hC : zCx X own cc nL lv) (hd : zDC cc pc .idiv 1 nx) (k : ¬ y = 0 → B = some (zOut X) → zAW X nx ls (.int (x / y) :: st) μ) (hf : zGz y B = some (zOut X)) : zAW X pc ls (.int y :: .int x :: st) μ := by
  obtain ⟨h1, rfl⟩ := hd
  obtain ⟨h2, h3⟩ := zGz_some hf
  exact fun H locs la hP hS hl => lv_idiv hC.1 hC.2.1 h1 h2 (k h2 h3 H locs la hP hS hl)
theorem zs_irem {x y : Int32} {B : Option zR} (hC : zCx X own cc nL lv) (hd : zDC cc pc .irem 1 nx) (k : ¬ y = 0 → B = some (zOut X) → zAW X nx ls (.int (x % y) :: st) μ) (hf : zGz y B = some (zOut X)) : zAW X pc ls (.int y :: .int x :: st) μ := by
  obtain ⟨h1, rfl⟩ := hd
  obtain ⟨h2, h3⟩ := zGz_some hf
  have k' := k h2 h3
  rw [← irem_eq_mod x y] at k'
  exact fun H locs la hP hS hl => lv_irem hC.1 hC.2.1 h1 h2 (k' H locs la hP hS hl)
theorem zs_dup {v : Value} (hC : zCx X own cc nL lv) (hd : zDC cc pc .dup 1 nx) (hv : v.category = 1) (k : zAW X nx ls (v :: v :: st) μ) : zAW X pc ls (v :: st) μ := by
  obtain ⟨h1, rfl⟩ := hd
  exact fun H locs la hP hS hl => lv_dup hC.1 hC.2.1 h1 (by rw [zV_cat]; exact hv) (k H locs la hP hS hl)
theorem zs_pop {v : Value} (hC : zCx X own cc nL lv) (hd : zDC cc pc .pop 1 nx) (hv : v.category = 1) (k : zAW X nx ls st μ) : zAW X pc ls (v :: st) μ := by
  obtain ⟨h1, rfl⟩ := hd
  exact fun H locs la hP hS hl => lv_pop hC.1 hC.2.1 h1 (by rw [zV_cat]; exact hv) (k H locs la hP hS hl)
theorem zs_dup2 {v w : Value} (hC : zCx X own cc nL lv) (hd : zDC cc pc .dup2 1 nx) (hv : v.category = 1) (hw : w.category = 1) (k : zAW X nx ls (v :: w :: v :: w :: st) μ) : zAW X pc ls (v :: w :: st) μ := by
  obtain ⟨h1, rfl⟩ := hd
  exact fun H locs la hP hS hl => lv_dup2_11 hC.1 hC.2.1 h1 (by rw [zV_cat]; exact hv) (by rw [zV_cat]; exact hw) (k H locs la hP hS hl)
theorem zs_goto {tgt : Nat} (hC : zCx X own cc nL lv) (hd : zDJ cc pc .goto nx tgt) (k : zAW X tgt ls st μ) : zAW X pc ls st μ := by
  obtain ⟨off, h1, h2, -⟩ := hd
  exact fun H locs la hP hS hl => lv_goto hC.1 hC.2.1 h1 h2 (k H locs la hP hS hl)
end ZS
