/-! ===== fields, arrays, returns, calls ===== -/
/-- the field j of the class ci, as 'own' links it -/
def zFL (own : String) (idx ci j : Nat) : Prop := ∃ q : vw_C, zClasses[ci]? = some q ∧ j < q.2.2 ∧ (∀ w ∈ u_ws q.1 q.2.1 q.2.2, w ∈ zT) ∧ Cond.fieldLink own idx (q.2.1 j).1 (q.2.1 j).2.1 (q.2.1 j).2.2.1 ∈ zT
/-- what a store into it needs -/
def zFP (ci j : Nat) (ty : FieldType) : Prop := ∃ q : vw_C, zClasses[ci]? = some q ∧ (q.2.1 j).2.2.2 = false ∧ parseFieldDescriptor (q.2.1 j).2.2.1 = some ty ∧ (∃ ty0 : Nat → FieldType, ∀ k, k < q.2.2 → parseFieldDescriptor (q.2.1 k).2.2.1 = some (ty0 k)) ∧ ∀ a, a < q.2.2 → ∀ b, b < q.2.2 → a ≠ b → (q.2.1 a).2.1 ≠ (q.2.1 b).2.1
section ZM
variable {X : zX} {own : String} {cc : ByteArray} {nL lv pc nx : Nat} {ls : List (Option Value)} {st : List Value} {μ : zMem}
theorem zs_getV {idx ci j h c : Nat} {fks : List Nat} (hC : zCx X own cc nL lv) (hfl : zFL own idx ci j) (hly : zLY h (.inr (ci, fks))) (hq : fks[j]? = some c) (hd : zDC cc pc (.getfield idx) 3 nx)
    (k : ∀ H locs la, va_P X.1.2.1 zClasses (zConc X.1.2.2.1 X.1.2.2.2.1 X.1.2.2.2.2 μ) H → va_S (zA X.1.2.2.2.2) (zS X).heap H locs → zLs X.1.2.2.2.2 la (znL X) ls → zWX X H locs (F0 (zM X) nx la (zFv X.1.2.2.2.2 c (μ h j) :: st.map (zV X.1.2.2.2.2)))) : zAW X pc ls (.ref h :: st) μ := by
  obtain ⟨h1, rfl⟩ := hd
  obtain ⟨⟨C, T, N⟩, g1, g2, g3, g4⟩ := hfl
  obtain ⟨hx, hb, -, hown, hts, hK, -⟩ := hC
  intro H locs la hP hS hl
  exact va_get (D := X.1.2.1) (ci := ci) (C := C) (T := T) (N := N) hx hb hts g3 hown hK hP h (zConc_at hly) g1 j g2 (hts _ g4) (fun _ h9 => h9) (zFs_at hq) h1 (k H locs la hP hS hl)
theorem zs_getI {idx ci j h : Nat} {fks : List Nat} (hC : zCx X own cc nL lv) (hfl : zFL own idx ci j) (hly : zLY h (.inr (ci, fks))) (hq : fks[j]? = some 0) (hd : zDC cc pc (.getfield idx) 3 nx) (k : zAW X nx ls (.int (μ h j) :: st) μ) : zAW X pc ls (.ref h :: st) μ := zs_getV hC hfl hly hq hd k
theorem zs_getR {idx ci j h : Nat} (t : Nat) {fks : List Nat} (hC : zCx X own cc nL lv) (hfl : zFL own idx ci j) (hly : zLY h (.inr (ci, fks))) (hq : fks[j]? = some (t + 2)) (hd : zDC cc pc (.getfield idx) 3 nx) (k : zAW X nx ls (.ref t :: st) μ) : zAW X pc ls (.ref h :: st) μ := zs_getV hC hfl hly hq hd k
theorem zs_getD {idx ci j h : Nat} {fks : List Nat} (hC : zCx X own cc nL lv) (hfl : zFL own idx ci j) (hly : zLY h (.inr (ci, fks))) (hq : fks[j]? = some 1) (hd : zDC cc pc (.getfield idx) 3 nx) (k : zAW X nx ls (.ref (μ h j).toNatClampNeg :: st) μ) : zAW X pc ls (.ref h :: st) μ := zs_getV hC hfl hly hq hd k
theorem zs_putV {idx ci j h c : Nat} {x : Int32} {ty : FieldType} {fks : List Nat} {v : Value} (hC : zCx X own cc nL lv) (hfl : zFL own idx ci j) (hfp : zFP ci j ty) (hly : zLY h (.inr (ci, fks))) (hq : fks[j]? = some c) (hv : zFv X.1.2.2.2.2 c x = zV X.1.2.2.2.2 v) (hn : narrow ty (zV X.1.2.2.2.2 v) = zV X.1.2.2.2.2 v) (hfit : fits ty (zV X.1.2.2.2.2 v) = true) (hd : zDC cc pc (.putfield idx) 3 nx) (k : zAW X nx ls st (zUp μ h j x)) : zAW X pc ls (v :: .ref h :: st) μ := by
  obtain ⟨h1, rfl⟩ := hd
  obtain ⟨⟨C, T, N⟩, g1, g2, g3, g4⟩ := hfl
  obtain ⟨q2, f1, f2, f3, ⟨ty0, f4⟩, f5⟩ := hfp
  have e := g1.symm.trans f1
  cases e
  obtain ⟨hx, hb, -, hown, hts, hK, -, -, hok, -⟩ := hC
  intro H locs la hP hS hl
  refine va_put (D := X.1.2.1) (ci := ci) (C := C) (T := T) (N := N) (ty := ty) hx hb hts g3 ty0 f4 f5 hown hK hP (zD hok μ) hS h (zConc_at hly) g1 j g2 (hts _ g4) (fun _ h9 => h9) f2 f3 hn hfit (by rw [zFs_len]; exact (List.getElem?_eq_some_iff.mp hq).1) h1 (fun H1 locs1 hP1 _ hS1 => ?_)
  refine k H1 locs1 la ?_ hS1 hl
  rw [← hv, zFs_set hq] at hP1
  have e2 := zConc_set (cyI := X.1.2.2.1) (cyB := X.1.2.2.2.1) (ad := X.1.2.2.2.2) (μ := μ) hly (upd (μ h) j x)
  rw [show (zUp μ h j x) = zRow μ h (upd (μ h) j x) from rfl, ← e2]
  exact hP1
theorem zs_putI {idx ci j h : Nat} {x : Int32} {fks : List Nat} (hC : zCx X own cc nL lv) (hfl : zFL own idx ci j) (hfp : zFP ci j .int) (hly : zLY h (.inr (ci, fks))) (hq : fks[j]? = some 0) (hd : zDC cc pc (.putfield idx) 3 nx) (k : zAW X nx ls st (zUp μ h j x)) : zAW X pc ls (.int x :: .ref h :: st) μ := zs_putV hC hfl hfp hly hq rfl rfl rfl hd k
theorem zs_putZ {idx ci j h : Nat} {x : Int32} {fks : List Nat} (hC : zCx X own cc nL lv) (hfl : zFL own idx ci j) (hfp : zFP ci j .boolean) (hly : zLY h (.inr (ci, fks))) (hq : fks[j]? = some 0) (hx : x = 0 ∨ x = 1) (hd : zDC cc pc (.putfield idx) 3 nx) (k : zAW X nx ls st (zUp μ h j x)) : zAW X pc ls (.int x :: .ref h :: st) μ := by
  refine zs_putV hC hfl hfp hly hq rfl ?_ ?_ hd k
  · rcases hx with rfl | rfl <;> rfl
  · rcases hx with rfl | rfl <;> rfl
theorem zs_putD {idx ci j h t : Nat} {C : String} {fks : List Nat} (hC : zCx X own cc nL lv) (hfl : zFL own idx ci j) (hfp : zFP ci j (.object C)) (hly : zLY h (.inr (ci, fks))) (hq : fks[j]? = some 1) (ht : t < 89) (hd : zDC cc pc (.putfield idx) 3 nx) (k : zAW X nx ls st (zUp μ h j (nI t))) : zAW X pc ls (.ref t :: .ref h :: st) μ := by
  refine zs_putV (v := .ref t) hC hfl hfp hly hq ?_ rfl rfl hd k
  show Value.ref (X.1.2.2.2.2 (nI t).toNatClampNeg) = .ref (X.1.2.2.2.2 t)
  rw [nI_clamp (by omega)]
theorem zs_iald {a n : Nat} {i : Int32} {B : Option zR} (hC : zCx X own cc nL lv) (hly : zLY a (.inl (false, n))) (hd : zDC cc pc .iaload 1 nx) (k : vp_in i n → B = some (zOut X) → zAW X nx ls (.int (μ a i.toNatClampNeg) :: st) μ) (hf : zG i n B = some (zOut X)) : zAW X pc ls (.int i :: .ref a :: st) μ := by
  obtain ⟨h1, rfl⟩ := hd
  obtain ⟨h2, h3⟩ := zG_some hf
  obtain ⟨hx, hb, -, hown, hts, hK, -⟩ := hC
  intro H locs la hP hS hl
  exact va_iald hx hb hK hP a 0 (zConc_at hly) rfl h2 h1 (k h2 h3 H locs la hP hS hl)
theorem zs_bald {a n : Nat} {i : Int32} {B : Option zR} (hC : zCx X own cc nL lv) (hly : zLY a (.inl (true, n))) (hd : zDC cc pc .baload 1 nx) (k : vp_in i n → B = some (zOut X) → zAW X nx ls (.int (μ a i.toNatClampNeg) :: st) μ) (hf : zG i n B = some (zOut X)) : zAW X pc ls (.int i :: .ref a :: st) μ := by
  obtain ⟨h1, rfl⟩ := hd
  obtain ⟨h2, h3⟩ := zG_some hf
  obtain ⟨hx, hb, -, hown, hts, hK, -⟩ := hC
  intro H locs la hP hS hl
  exact va_bald hx hb hK hP a 1 (zConc_at hly) rfl h2 h1 (k h2 h3 H locs la hP hS hl)
theorem zs_iast {a n : Nat} {i x : Int32} {B : Option zR} (hC : zCx X own cc nL lv) (hly : zLY a (.inl (false, n))) (hd : zDC cc pc .iastore 1 nx) (k : vp_in i n → B = some (zOut X) → zAW X nx ls st (zUp μ a i.toNatClampNeg x)) (hf : zG i n B = some (zOut X)) : zAW X pc ls (.int x :: .int i :: .ref a :: st) μ := by
  obtain ⟨h1, rfl⟩ := hd
  obtain ⟨h2, h3⟩ := zG_some hf
  obtain ⟨hx, hb, -, hown, hts, hK, -, -, hok, -⟩ := hC
  intro H locs la hP hS hl
  refine va_iast hx hb hK hP (zD hok μ) hS a 0 (zConc_at hly) rfl h2 h1 (fun H1 locs1 hP1 _ hS1 => ?_)
  refine k h2 h3 H1 locs1 la ?_ hS1 hl
  have e2 := zConc_set (cyI := X.1.2.2.1) (cyB := X.1.2.2.2.1) (ad := X.1.2.2.2.2) (μ := μ) hly (upd (μ a) i.toNatClampNeg x)
  rw [show (zUp μ a i.toNatClampNeg x) = zRow μ a (upd (μ a) i.toNatClampNeg x) from rfl, ← e2]
  exact hP1
theorem zs_bast {a n : Nat} {i x : Int32} {B : Option zR} (hC : zCx X own cc nL lv) (hly : zLY a (.inl (true, n))) (hd : zDC cc pc .bastore 1 nx) (k : vp_in i n → B = some (zOut X) → zAW X nx ls st (zUp μ a i.toNatClampNeg x.toInt8.toInt32)) (hf : zG i n B = some (zOut X)) : zAW X pc ls (.int x :: .int i :: .ref a :: st) μ := by
  obtain ⟨h1, rfl⟩ := hd
  obtain ⟨h2, h3⟩ := zG_some hf
  obtain ⟨hx, hb, -, hown, hts, hK, -, -, hok, -⟩ := hC
  intro H locs la hP hS hl
  refine va_bast hx hb hK hP (zD hok μ) hS a 1 (zConc_at hly) rfl h2 h1 (fun H1 locs1 hP1 _ hS1 => ?_)
  refine k h2 h3 H1 locs1 la ?_ hS1 hl
  have e2 := zConc_set (cyI := X.1.2.2.1) (cyB := X.1.2.2.2.1) (ad := X.1.2.2.2.2) (μ := μ) hly (upd (μ a) i.toNatClampNeg x.toInt8.toInt32)
  rw [show (zUp μ a i.toNatClampNeg x.toInt8.toInt32) = zRow μ a (upd (μ a) i.toNatClampNeg x.toInt8.toInt32) from rfl, ← e2]
  rw [vp_nar_byte] at hP1
  exact hP1
/-- the length of an array of ints -/
theorem zs_alen {a n : Nat} (v : Int32) (hC : zCx X own cc nL lv) (hly : zLY a (.inl (false, n))) (hv : Int32.ofNat n = v) (hd : zDC cc pc .arraylength 1 nx) (k : zAW X nx ls (.int v :: st) μ) : zAW X pc ls (.ref a :: st) μ := by
  obtain ⟨h1, rfl⟩ := hd
  subst hv
  obtain ⟨hx, hb, -, hown, hts, hK, -⟩ := hC
  intro H locs la hP hS hl
  have hc : H[X.1.2.2.2.2 a]? = some (vp_cell X.1.2.2.1 (n, .inl (μ a))) := hP a _ (zConc_at hly)
  exact W.alen hx hb hc ((hK.2 0 _ rfl).1 n (fun j => .int (μ a j))) (by show (arrV _ _ _).slots.size.toInt32 = _; rw [arrV_size]) rfl rfl h1 (k H locs la hP hS hl)
/-- a row of one array into another one -/
theorem zs_copy {idx a b n0 n1 : Nat} {sp dp n : Int32} {B : Option zR} (hC : zCx X own cc nL lv) (hw : Cond.methodLink own idx arraycopyName ∈ zT ∧ Cond.native arraycopyName ∈ zT ∧ Cond.static arraycopyName ∈ zT ∧ Cond.initialized "java/lang/System" ∈ zT) (hlv : 1 ≤ lv) (hst : ((st.map (zV X.1.2.2.2.2)).map fun v => v.category).sum + (nativeFrameWords "java/lang/System" "arraycopy" 5 + 11) ≤ 64) (ha : zLY a (.inl (false, n0))) (hb' : zLY b (.inl (false, n1)))
    (hd : zDC cc pc (.invokestatic idx) 3 nx) (k : B = some (zOut X) → zAW X nx ls st (zRow μ b (va_cpy (μ a) (μ b) sp.toNatClampNeg dp.toNatClampNeg n.toNatClampNeg)))
    (hf : zGb (decide (¬ sp < 0 ∧ ¬ dp < 0 ∧ ¬ n < 0 ∧ sp.toNatClampNeg + n.toNatClampNeg ≤ n0 ∧ dp.toNatClampNeg + n.toNatClampNeg ≤ n1)) B = some (zOut X)) : zAW X pc ls (.int n :: .int dp :: .ref b :: .int sp :: .ref a :: st) μ := by
  obtain ⟨h1, rfl⟩ := hd
  obtain ⟨h2, h3⟩ := zGb_some hf
  obtain ⟨g1, g2, g3, g4, g5⟩ := of_decide_eq_true h2
  obtain ⟨hx, hb, hml, hown, hts, hK, -, -, hok, hlv2, -, hnl⟩ := hC
  intro H locs la hP hS hl
  refine va_copyi hx hb (by rw [hml, hl.1, hnl]) hown (hts _ hw.1) (hts _ hw.2.1) (hts _ hw.2.2.1) (hts _ hw.2.2.2) hK hP (zD hok μ) hS a b 0 0 (zConc_at ha) (zConc_at hb') rfl rfl rfl g1 g2 g3 g4 g5 (fun _ _ => rfl) ?_ ?_ h1 (fun H1 locs1 hP1 _ hS1 => ?_)
  · omega
  · omega
  · refine k h3 H1 locs1 la ?_ hS1 hl
    have e2 := zConc_set (cyI := X.1.2.2.1) (cyB := X.1.2.2.2.1) (ad := X.1.2.2.2.2) (μ := μ) hb' (va_cpy (μ a) (μ b) sp.toNatClampNeg dp.toNatClampNeg n.toNatClampNeg)
    rw [← e2]
    exact hP1
theorem zWd_end {t : State} {H : Heap} (hC : zCx X own cc nL lv) (hP : va_P X.1.2.1 zClasses (zConc X.1.2.2.1 X.1.2.2.2.1 X.1.2.2.2.2 μ) H) (ht : t.heap = H) (hW : (zS X).WarmedH t.vm) : zWd X.1 μ t :=
  ⟨by rw [ht]; exact hP, va_K.moved hW.alike hC.2.2.2.2.2.1, hC.2.2.2.2.2.2.2.2.2.2.1.warm hW⟩
theorem zs_iret {r : Int32} (hC : zCx X own cc nL lv) (hr : zRt X (some .int)) (hd : zDC cc pc .ireturn 1 nx) (hf : some (r, μ) = some (zOut X)) : zAW X pc ls [.int r] μ := by
  obtain ⟨h1, rfl⟩ := hd
  have e := Option.some.inj hf
  intro H locs la hP hS hl
  obtain ⟨hr, e1, e2, e3⟩ := hr
  unfold zWX
  rw [e1, e2, e3]
  refine W.iret hC.1 hC.2.1 (hC.2.2.2.2.2.2.1.trans hr) (fun t ht hW => ?_) hS.2.2 h1 hC.2.2.2.2.2.2.2.1
  refine ⟨?_, ?_, hS.F ht⟩
  · rw [hr, ← e]; rfl
  · rw [← e]; exact zWd_end hC hP ht hW
theorem zs_zret {r : Int32} (hC : zCx X own cc nL lv) (hr : zRt X (some .boolean)) (hd : zDC cc pc .ireturn 1 nx) (hf : zGb (decide (r = 0 ∨ r = 1)) (some (r, μ)) = some (zOut X)) : zAW X pc ls [.int r] μ := by
  obtain ⟨h1, rfl⟩ := hd
  obtain ⟨h2, h3⟩ := zGb_some hf
  have e := Option.some.inj h3
  intro H locs la hP hS hl
  obtain ⟨hr, e1, e2, e3⟩ := hr
  unfold zWX
  rw [e1, e2, e3]
  refine W.zret hC.1 hC.2.1 (hC.2.2.2.2.2.2.1.trans hr) (by rcases of_decide_eq_true h2 with rfl | rfl <;> rfl) (fun t ht hW => ?_) hS.2.2 h1 hC.2.2.2.2.2.2.2.1
  refine ⟨?_, ?_, hS.F ht⟩
  · rw [hr, ← e]; rfl
  · rw [← e]; exact zWd_end hC hP ht hW
theorem zs_vret (hC : zCx X own cc nL lv) (hr : zRt X (none)) (hd : zDC cc pc .return_ 1 nx) (hf : some ((nI 0), μ) = some (zOut X)) : zAW X pc ls [] μ := by
  obtain ⟨h1, rfl⟩ := hd
  have e := Option.some.inj hf
  intro H locs la hP hS hl
  obtain ⟨hr, e1, e2, e3⟩ := hr
  unfold zWX
  rw [e1, e2, e3]
  refine W.vret hC.1 hC.2.1 (hC.2.2.2.2.2.2.1.trans hr) (fun t ht hW => ?_) hS.2.2 h1 hC.2.2.2.2.2.2.2.1
  refine ⟨?_, ?_, hS.F ht⟩
  · rw [hr]; rfl
  · rw [← e]; exact zWd_end hC hP ht hW
/-- behind a call -/
theorem zs_run {rt : Option FieldType} {st0 : List Value} {a : Array Value} {o : zR} (hC : zCx X own cc nL lv)
    (hr : ∀ (H : Heap) (locs : List Loc) (la : Array Slot), va_P X.1.2.1 zClasses (zConc X.1.2.2.1 X.1.2.2.2.1 X.1.2.2.2.2 μ) H → zLs X.1.2.2.2.2 la (znL X) ls → va_Run (zPr X) X.1.1 (zEn X) (zRo X) (zS X) (zM X) (zArgs X) (zBel X) (zMeth X) (zCo X) H locs (zNc X) (zNl X) 0 0 (F0 (zM X) pc la (st0.map (zV X.1.2.2.2.2))) (st.map (zV X.1.2.2.2.2)) (zQ X.1 rt o a) (zA X.1.2.2.2.2))
    (k : zAW X (pc + 3) ls ((zRv rt o.1).toList ++ st) o.2) : zAW X pc ls st0 μ := by
  intro H locs la hP hS hl T hT XX
  obtain ⟨v, s0, t, T', L, h0, X', hL, e1, e2, ⟨ho, ⟨hP1, hK1, hN1⟩, hz, hk⟩, stp⟩ := hr H locs la hP hl T hT XX
  cases ho
  rw [h0] at hz hk
  obtain ⟨t2, a1, b1⟩ := k T'.heap (locs ++ L) la (by rw [e1]; exact hP1) ⟨Nat.le_trans hS.1 (by rw [e1]; exact hz), fun q g1 g2 => by rw [e1, hk q (Nat.lt_of_lt_of_le g1 hS.1) g2]; exact hS.2.1 q g1 g2, fun q hq => by
      rcases List.mem_append.mp hq with h | h
      · exact hS.2.2 q h
      · exact hL q h⟩ hl T' rfl X'
  refine ⟨t2, stp t2 ?_, b1⟩
  have e3 : ((zRv rt o.1).toList ++ st).map (zV X.1.2.2.2.2) = (zRv rt o.1).toList ++ st.map (zV X.1.2.2.2.2) := by
    rw [List.map_append]
    congr 1
    cases rt <;> rfl
  rw [e3] at a1
  exact a1
theorem zPc_blind {E : zEV} {av : List Value} : FrameBlind (va_Pc av (fun U => zWd E μ U)) := by
  intro a U g mk h
  obtain ⟨h1, h2, h3, h4⟩ := h
  exact ⟨h1, h2, va_K.moved (u := U) (U := U.calling g mk a) (Vm.Alike.refl U.vm) h3, h4.same (U := U.calling g mk a) rfl⟩
theorem zPc_pre {E : zEV} {av : List Value} {s U : State} {H : Heap} (hP : va_P E.2.1 zClasses (zConc E.2.2.1 E.2.2.2.1 E.2.2.2.2 μ) H) (hK : va_K E.2.1 zClasses (zTys E.2.2.1 E.2.2.2.1) s) (hN : zNs s) (hU : U.heap = H) (hW : s.WarmedH U.vm) : va_Pc av (fun U => zWd E μ U) av.toArray U :=
  ⟨rfl, by rw [hU]; exact hP, va_K.moved hW.alike hK, hN.warm hW⟩
/-- the words of a call -/
def zCw (y : MethodName) (bytes : ByteArray) (maxL : Nat) (ret : Option FieldType) (n : Nat) : Prop := Cond.initialized y.cls ∈ zT ∧ Cond.code y bytes maxL ret ∈ zT ∧ y.cls ≠ "java/lang/invoke/MethodHandle" ∧ y.cls ≠ "java/lang/invoke/VarHandle" ∧ (parseMethodDescriptor y.desc).map (fun d => d.parameters.length) = some n ∧ maxL + 19 ≤ 64
theorem zGood {y : MethodName} {bytes : ByteArray} {maxL n : Nat} {ret : Option FieldType} (h : zCw y bytes maxL ret n) : GoodIn zT (Cond.code y bytes maxL ret :: zT) := fun w hw => by
  rcases List.mem_cons.mp hw with rfl | hw
  · exact zT_in _ h.2.1
  · exact zT_in _ hw
theorem zRoom {lv lv' maxL : Nat} {R : Room} (h : lv' + 1 ≤ lv) (hR : lv ≤ R.frames ∧ 64 * lv ≤ R.locals) (hm : maxL + 19 ≤ 64) : (zRm lv').frames + 1 ≤ R.frames ∧ 8 + (maxL + 11) + (zRm lv').locals ≤ R.locals := by
  show lv' + 1 ≤ R.frames ∧ 8 + (maxL + 11) + 64 * lv' ≤ R.locals
  omega
variable {y : MethodName} {bytes : ByteArray} {maxL n idx lv' : Nat} {rt : Option FieldType} {f : Option zR} {K : Int32 → zMem → Option zR}
/-- an instance method is called -/
theorem zs_callV {ci h : Nat} {fks : List Nat} {st0 : List Value} (as : List Value) (hC : zCx X own cc nL lv) (hw : zCw y bytes maxL rt n) (hm : Cond.methodLink own idx y ∈ zT ∧ Cond.instanceMethod y ∈ zT ∧ Cond.selects y.cls y y ∈ zT) (hly : zLY h (.inr (ci, fks))) (hci : (zClasses[ci]?).map (fun q => q.1) = some y.cls) (hlv : lv' + 1 ≤ lv) (hn : as.length = n) (hs : st0 = as.reverse ++ .ref h :: st) (hsz : ((st.map (zV X.1.2.2.2.2)).map fun v => v.category).sum ≤ 8) (hd : zDC cc pc (.invokevirtual idx) 3 nx)
    (hct : ∀ o, f = some o → zCt X.1 y bytes maxL rt lv' (.ref h :: as) μ o) (k : ∀ r μ1, f = some (r, μ1) → K r μ1 = some (zOut X) → zAW X nx ls ((zRv rt r).toList ++ st) μ1) (hf : zBd f K = some (zOut X)) : zAW X pc ls st0 μ := by
  obtain ⟨h1, rfl⟩ := hd
  obtain ⟨r, μ1, e1, e2⟩ := zBd_some hf
  have hC' := hC
  obtain ⟨hx, hb, hml, hown, hts, hK, -, -, hok, hlv2, hN, hnl⟩ := hC
  have hM := hct (r, μ1) e1 hok lv' (Nat.le_refl _)
  have ht : ∀ w ∈ zT, w.before (zArgs X) (zS X) = true := hts
  subst hs
  refine zs_run (o := (r, μ1)) (rt := rt) hC' (a := ((.ref h :: as).map (zV X.1.2.2.2.2)).toArray) (fun H locs la hP hl => ?_) (k r μ1 e1 e2)
  obtain ⟨q, hq1, hq2⟩ := Option.map_eq_some_iff.mp hci
  have hcell : ∃ cellB : Cell, H[X.1.2.2.2.2 h]? = some cellB ∧ cellB.vm.isStatics = false ∧ (zS X).vm.findClass y.cls = some cellB.cls := by
    obtain ⟨r', g1, cell, g2, g3, g4, -⟩ := hP h _ (zConc_at hly)
    have er : r' = q := Option.some.inj (g1.symm.trans hq1)
    subst er
    exact ⟨cell, g2, by rw [g4]; rfl, by rw [g3, ← hq2]; exact (hK.1 ci _ hq1).2.1⟩
  exact va_runV (C := y.cls) (As := as.map (zV X.1.2.2.2.2)) (rest := st.map (zV X.1.2.2.2.2)) (b := X.1.2.2.2.2 h) (n := n) (Ts := zT) ⟨hx, hb, hml, hown, hts⟩ hM
    ⟨callB_of n ht (zGood hw) rfl rfl rfl (hts _ hw.1) (hts _ hm.1) ⟨hw.2.2.1, hw.2.2.2.1, hw.2.2.2.2.1⟩ (zRoom hlv ⟨hlv2.1, hlv2.2.1⟩ hw.2.2.2.2.2), hts _ hm.2.1, hts _ hm.2.2⟩
    ⟨zPc_blind, hcell, fun U hU hW => zPc_pre (av := (.ref h :: as).map (zV X.1.2.2.2.2)) hP hK hN hU hW⟩ rfl (by rw [List.length_map]; exact hn) (by rw [hl.1, hnl]) (by simp [List.map_append, List.map_reverse, zV]) (by show 2 * 0 + _ ≤ 8; omega) h1 ⟨hlv2.2.2.1, hlv2.2.2.2⟩
/-- a static method is called -/
theorem zs_callS {st0 : List Value} (as : List Value) (hC : zCx X own cc nL lv) (hw : zCw y bytes maxL rt n) (hm : Cond.methodLink own idx y ∈ zT ∧ Cond.static y ∈ zT) (hlv : lv' + 1 ≤ lv) (hn : as.length = n) (hs : st0 = as.reverse ++ st) (hsz : ((st.map (zV X.1.2.2.2.2)).map fun v => v.category).sum ≤ 8) (hd : zDC cc pc (.invokestatic idx) 3 nx)
    (hct : ∀ o, f = some o → zCt X.1 y bytes maxL rt lv' as μ o) (k : ∀ r μ1, f = some (r, μ1) → K r μ1 = some (zOut X) → zAW X nx ls ((zRv rt r).toList ++ st) μ1) (hf : zBd f K = some (zOut X)) : zAW X pc ls st0 μ := by
  obtain ⟨h1, rfl⟩ := hd
  obtain ⟨r, μ1, e1, e2⟩ := zBd_some hf
  have hC' := hC
  obtain ⟨hx, hb, hml, hown, hts, hK, -, -, hok, hlv2, hN, hnl⟩ := hC
  have hM := hct (r, μ1) e1 hok lv' (Nat.le_refl _)
  subst hs
  refine zs_run (o := (r, μ1)) (rt := rt) hC' (a := (as.map (zV X.1.2.2.2.2)).toArray) (fun H locs la hP hl => ?_) (k r μ1 e1 e2)
  exact va_runS (As := as.map (zV X.1.2.2.2.2)) (rest := st.map (zV X.1.2.2.2.2)) (n := n) (Ts := zT) ⟨hx, hb, hml, hown, hts⟩ hM
    ⟨callB_of n hts (zGood hw) rfl rfl rfl (hts _ hw.1) (hts _ hm.1) ⟨hw.2.2.1, hw.2.2.2.1, hw.2.2.2.2.1⟩ (zRoom hlv ⟨hlv2.1, hlv2.2.1⟩ hw.2.2.2.2.2), hts _ hm.2⟩
    ⟨zPc_blind, fun U hU hW => zPc_pre (av := as.map (zV X.1.2.2.2.2)) hP hK hN hU hW⟩ rfl (by rw [List.length_map]; exact hn) (by rw [hl.1, hnl]) (by simp [List.map_append, List.map_reverse]) (by show 2 * 0 + _ ≤ 8; omega) h1 ⟨hlv2.2.2.1, hlv2.2.2.2⟩
/-- a private static method of a nest mate is called -/
theorem zs_callN {st0 : List Value} {host : String} (as : List Value) (hC : zCx X own cc nL lv) (hw : zCw y bytes maxL rt n) (hm : (own, idx, y, host) ∈ zNL ∧ Cond.static y ∈ zT) (hlv : lv' + 1 ≤ lv) (hn : as.length = n) (hs : st0 = as.reverse ++ st) (hsz : ((st.map (zV X.1.2.2.2.2)).map fun v => v.category).sum ≤ 8) (hd : zDC cc pc (.invokestatic idx) 3 nx)
    (hct : ∀ o, f = some o → zCt X.1 y bytes maxL rt lv' as μ o) (k : ∀ r μ1, f = some (r, μ1) → K r μ1 = some (zOut X) → zAW X nx ls ((zRv rt r).toList ++ st) μ1) (hf : zBd f K = some (zOut X)) : zAW X pc ls st0 μ := by
  obtain ⟨h1, rfl⟩ := hd
  obtain ⟨r, μ1, e1, e2⟩ := zBd_some hf
  have hC' := hC
  obtain ⟨hx, hb, hml, hown, hts, hK, -, -, hok, hlv2, hN, hnl⟩ := hC
  have hM := hct (r, μ1) e1 hok lv' (Nat.le_refl _)
  subst hs
  refine zs_run (o := (r, μ1)) (rt := rt) hC' (a := (as.map (zV X.1.2.2.2.2)).toArray) (fun H locs la hP hl => ?_) (k r μ1 e1 e2)
  exact va_runSN (As := as.map (zV X.1.2.2.2.2)) (rest := st.map (zV X.1.2.2.2.2)) (n := n) (Ts := zT) ⟨hx, hb, hml, hown, hts⟩ hM
    ⟨va_cnB n hts (zGood hw) rfl rfl rfl (hN _ hm.1) (hts _ hw.1) ⟨hw.2.2.1, hw.2.2.2.1, hw.2.2.2.2.1⟩ (zRoom hlv ⟨hlv2.1, hlv2.2.1⟩ hw.2.2.2.2.2), hts _ hm.2, trivial⟩
    ⟨zPc_blind, fun U hU hW => zPc_pre (av := as.map (zV X.1.2.2.2.2)) hP hK hN hU hW⟩ rfl (by rw [List.length_map]; exact hn) (by rw [hl.1, hnl]) (by simp [List.map_append, List.map_reverse]) (by show 2 * 0 + _ ≤ 8; omega) h1 ⟨hlv2.2.2.1, hlv2.2.2.2⟩
end ZM
