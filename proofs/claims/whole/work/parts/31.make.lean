/-! ===== how the objects are made ===== -/
def zBW (X : zX) (h0 ci : Nat) (A : Nat → Prop) (la : Array Slot) (nc nl pc : Nat) (st : List Value) (fs : List Value) (rest : va_W) : Prop :=
  ∀ (H : Heap) (locs : List Loc), va_P X.1.2.1 zClasses ((h0, .inr (ci, fs)) :: rest) H → va_D A ((h0, .inr (ci, fs)) :: rest) → va_S A (zS X).heap H locs →
    W (zPr X) X.1.1 (zEn X) (zRo X) (zS X) (zM X) (zArgs X) (zBel X) (zMeth X) (zCo X) H locs nc nl (zGoal X) (F0 (zM X) pc la st)
def zCB (X : zX) (own : String) (cc : ByteArray) (h0 ci lv : Nat) (A : Nat → Prop) (la : Array Slot) : Prop :=
  (zPr X).tables.exec = Jvm.exec ∧ (zCo X).code = cc ∧ (zCo X).maxLocals = 1 ∧ (zS X).vm.findClass own = some (zM X).cls ∧ (∀ w ∈ zT, w.before (zArgs X) (zS X) = true) ∧ va_K X.1.2.1 zClasses (zTys X.1.2.2.1 X.1.2.2.2.1) (zS X) ∧ (zMeth X).sig.returnType = none ∧ (zMeth X).locks = false ∧ zNs (zS X) ∧ (zMeth X).name = "<init>" ∧ lv_has la 1 [(0, .ref h0)] ∧ (∀ q, (zS X).heap.size ≤ q → A q) ∧ (zClasses[ci]?).map (fun q => q.1) = some own ∧ (1 ≤ lv ∧ lv ≤ (zRo X).frames ∧ 64 * lv ≤ (zRo X).locals)
def zMk (E : zEV) (y : MethodName) (bytes : ByteArray) (cj : Nat) (dfl : List Value) (S : Nat → va_W → Prop) (lv mc ms : Nat) : Prop :=
  ∀ (h sz : Nat), Met E.1 y (.code y bytes 1 none :: zT) { frames := lv, cells := mc, slots := ms, locals := 64 * lv } (va_Pc [.ref h] (fun U => U.heap.size = sz ∧ va_P E.2.1 zClasses [(h, .inr (cj, dfl))] U.heap ∧ va_K E.2.1 zClasses (zTys E.2.2.1 E.2.2.2.1) U ∧ zNs U))
    (fun _ st o t => o = .returned none ∧ (∃ w, S h w ∧ va_P E.2.1 zClasses w t.heap ∧ va_D (va_A [(h, .inr (cj, dfl))] sz) w) ∧ va_F (va_A [(h, .inr (cj, dfl))] sz) st t) mc ms (va_A [(h, .inr (cj, dfl))] sz)
def zFF (ci j : Nat) (ty : FieldType) (fin : Bool) : Prop := ∃ q : vw_C, zClasses[ci]? = some q ∧ (q.2.1 j).2.2.2 = fin ∧ (q.2.1 j).1 = q.1 ∧ parseFieldDescriptor (q.2.1 j).2.2.1 = some ty ∧ (∃ ty0 : Nat → FieldType, ∀ k, k < q.2.2 → parseFieldDescriptor (q.2.1 k).2.2.1 = some (ty0 k)) ∧ ∀ a, a < q.2.2 → ∀ b, b < q.2.2 → a ≠ b → (q.2.1 a).2.1 ≠ (q.2.1 b).2.1
section ZBS
variable {X : zX} {own : String} {cc : ByteArray} {h0 ci lv : Nat} {A : Nat → Prop} {la : Array Slot} {nc nl pc p1 p2 p3 p4 p5 : Nat} {st fs : List Value} {rest : va_W}
theorem zb_al (hB : zCB X own cc h0 ci lv A la) (hd : zDLa cc pc 0 p1) (k : zBW X h0 ci A la nc nl p1 (.ref h0 :: st) fs rest) : zBW X h0 ci A la nc nl pc st fs rest := by
  obtain ⟨hx, hb, hml, hown, hts, hK, hr, hlk, hN, hin, hl, hA, hci, hlv⟩ := hB
  intro H locs hP hD hS
  rcases hd with ⟨n, h1, h2, rfl⟩ | ⟨h1, rfl⟩
  · exact lv_aload_n hx hb h1 h2 (lv_at hl 0 rfl) (k H locs hP hD hS)
  · exact lv_aload hx hb h1 (lv_at hl 0 rfl) (k H locs hP hD hS)
theorem zb_k {v : Int32} (hB : zCB X own cc h0 ci lv A la) (hd : zDK cc pc v p1) (k : zBW X h0 ci A la nc nl p1 (.int v :: st) fs rest) : zBW X h0 ci A la nc nl pc st fs rest := by
  intro H locs hP hD hS
  rcases hd with ⟨n, h1, h2, rfl⟩ | ⟨n, h1, h2, rfl⟩ | ⟨n, h1, h2, rfl⟩
  · exact lv_iconst hB.1 hB.2.1 h1 h2 (k H locs hP hD hS)
  · exact lv_bipush hB.1 hB.2.1 h1 h2 (k H locs hP hD hS)
  · exact lv_sipush hB.1 hB.2.1 h1 h2 (k H locs hP hD hS)
theorem zb_dup {v : Value} (hB : zCB X own cc h0 ci lv A la) (hd : zDC cc pc .dup 1 p1) (hv : v.category = 1) (k : zBW X h0 ci A la nc nl p1 (v :: v :: st) fs rest) : zBW X h0 ci A la nc nl pc (v :: st) fs rest := by
  obtain ⟨h1, rfl⟩ := hd
  exact fun H locs hP hD hS => lv_dup hB.1 hB.2.1 h1 hv (k H locs hP hD hS)
theorem zb_super {idx : Nat} (hB : zCB X own cc h0 ci lv A la) (hw : Cond.methodLink own idx objectInit ∈ zT ∧ Cond.instanceMethod objectInit ∈ zT ∧ Cond.code objectInit ⟨#[0xb1]⟩ 1 none ∈ zT) (hd : zDC cc pc (.invokespecial idx) 3 p1) (k : zBW X h0 ci A la nc nl p1 [] fs rest) : zBW X h0 ci A la nc nl pc [.ref h0] fs rest := by
  obtain ⟨h1, rfl⟩ := hd
  obtain ⟨hx, hb, hml, hown, hts, hK, hr, hlk, hN, hin, hl, hA, hci, hlv⟩ := hB
  intro H locs hP hD hS
  refine W.objInit hx hb hown (hts _ hw.1) (hts _ hw.2.1) (hts _ hw.2.2) rfl (by rw [hml]; exact hl.1) rfl h1 (by omega) ?_ (k H locs hP hD hS)
  show 2 * 0 + 0 + 12 ≤ _
  omega
theorem zb_put {idx j : Nat} {ty : FieldType} {fin : Bool} {v : Value} (hB : zCB X own cc h0 ci lv A la) (hfl : zFL own idx ci j) (hff : zFF ci j ty fin) (hn : narrow ty v = v) (hfit : fits ty v = true) (hj : j < fs.length) (hd : zDC cc pc (.putfield idx) 3 p1) (k : zBW X h0 ci A la nc nl p1 st (fs.set j v) rest) : zBW X h0 ci A la nc nl pc (v :: .ref h0 :: st) fs rest := by
  obtain ⟨h1, rfl⟩ := hd
  obtain ⟨⟨C, T, N⟩, g1, g2, g3, g4⟩ := hfl
  obtain ⟨q2, f1, f2, f0, f3, ⟨ty0, f4⟩, f5⟩ := hff
  have e := g1.symm.trans f1
  cases e
  obtain ⟨hx, hb, hml, hown, hts, hK, hr, hlk, hN, hin, hl, hA, hci, hlv⟩ := hB
  have ho : C = own := by rw [g1] at hci; exact Option.some.inj hci
  intro H locs hP hD hS
  cases fin with
  | false => exact va_put (D := X.1.2.1) (ci := ci) (C := C) (T := T) (N := N) (ty := ty) hx hb hts g3 ty0 f4 f5 hown hK hP hD hS 0 rfl g1 j g2 (hts _ g4) (fun _ h9 => h9) f2 f3 hn hfit hj h1 (fun H1 locs1 hP1 hD1 hS1 => k H1 locs1 hP1 hD1 hS1)
  | true => exact va_putF (D := X.1.2.1) (ci := ci) (C := C) (T := T) (N := N) (ty := ty) hx hb hts g3 ty0 f4 f5 hown hK hP hD hS 0 rfl g1 j g2 (hts _ g4) (fun _ h9 => h9) f2 hin (f0.trans ho) f3 hn hfit hj h1 (fun H1 locs1 hP1 hD1 hS1 => k H1 locs1 hP1 hD1 hS1)
def zCy (E : zEV) (b : Bool) : ClassId := bif b then E.2.2.2.1 else E.2.2.1
def zArr (E : zEV) (q : Nat) (b : Bool) (n : Nat) : Nat × va_E := (q, .inl (zCy E b, n, .inl fun _ => 0))
theorem zb_arrI {n : Nat} {x : Int32} (hB : zCB X own cc h0 ci lv A la) (hw : Cond.arrayClass .int ∈ zT) (hd : zDC cc pc (.newarray .int) 2 p1) (hx0 : ¬ x < 0) (hxn : x.toNatClampNeg = n) (hbytes : n * componentBytes .int ≤ 536870912) (hc : nc + 1 ≤ (zRo X).cells) (hs : nl + n ≤ (zRo X).slots)
    (k : ∀ q : Nat, zBW X h0 ci A la (nc + 1) (nl + n) p1 (.ref q :: st) fs (rest ++ [zArr X.1 q false n])) : zBW X h0 ci A la nc nl pc (.int x :: st) fs rest := by
  obtain ⟨h1, rfl⟩ := hd
  obtain ⟨hx, hb, hml, hown, hts, hK, hr, hlk, hN, hin, hl, hA, hci, hlv⟩ := hB
  intro H locs hP hD hS
  refine va_newa (atype := .int) (ty := .int) (a0 := (n, .inl fun _ => 0)) hx hb (hts _ hw) rfl hK hP hD hS hA (fun cA => rfl) hx0 hxn hbytes hc hs h1 (fun q cA H1 hK1 hP1 hD1 hS1 => ?_)
  have e1 : (zS X).vm.findClass ("[" ++ (FieldType.int).toString) = some cA := (hK1.2 2 (cA, .int) rfl).2
  have e2 : (zS X).vm.findClass ("[" ++ (FieldType.int).toString) = some X.1.2.2.1 := (hK.2 0 (X.1.2.2.1, .int) rfl).2
  have e : cA = X.1.2.2.1 := Option.some.inj (e1.symm.trans e2)
  subst e
  exact k q H1 locs hP1 hD1 hS1
theorem zb_arrB {n : Nat} {x : Int32} (hB : zCB X own cc h0 ci lv A la) (hw : Cond.arrayClass .byte ∈ zT) (hd : zDC cc pc (.newarray .byte) 2 p1) (hx0 : ¬ x < 0) (hxn : x.toNatClampNeg = n) (hbytes : n * componentBytes .byte ≤ 536870912) (hc : nc + 1 ≤ (zRo X).cells) (hs : nl + n ≤ (zRo X).slots)
    (k : ∀ q : Nat, zBW X h0 ci A la (nc + 1) (nl + n) p1 (.ref q :: st) fs (rest ++ [zArr X.1 q true n])) : zBW X h0 ci A la nc nl pc (.int x :: st) fs rest := by
  obtain ⟨h1, rfl⟩ := hd
  obtain ⟨hx, hb, hml, hown, hts, hK, hr, hlk, hN, hin, hl, hA, hci, hlv⟩ := hB
  intro H locs hP hD hS
  refine va_newa (atype := .byte) (ty := .byte) (a0 := (n, .inl fun _ => 0)) hx hb (hts _ hw) rfl hK hP hD hS hA (fun cA => rfl) hx0 hxn hbytes hc hs h1 (fun q cA H1 hK1 hP1 hD1 hS1 => ?_)
  have e1 : (zS X).vm.findClass ("[" ++ (FieldType.byte).toString) = some cA := (hK1.2 2 (cA, .byte) rfl).2
  have e2 : (zS X).vm.findClass ("[" ++ (FieldType.byte).toString) = some X.1.2.2.2.1 := (hK.2 1 (X.1.2.2.2.1, .byte) rfl).2
  have e : cA = X.1.2.2.2.1 := Option.some.inj (e1.symm.trans e2)
  subst e
  exact k q H1 locs hP1 hD1 hS1
theorem zb_ldc {v : Int32} {idx : Nat} (hB : zCB X own cc h0 ci lv A la) (hw : Cond.constant own idx v ∈ zT) (hd : zDC cc pc (.ldc idx) 2 p1) (k : zBW X h0 ci A la nc nl p1 (.int v :: st) fs rest) : zBW X h0 ci A la nc nl pc st fs rest := by
  obtain ⟨h1, rfl⟩ := hd
  obtain ⟨hx, hb, hml, hown, hts, hK, hr, hlk, hN, hin, hl, hA, hci, hlv⟩ := hB
  exact fun H locs hP hD hS => lv_ldc hx hb hown (hts _ hw) h1 (k H locs hP hD hS)
/-- what a world is beside its last cell -/
theorem zJoin {A0 : Nat → Prop} {D : va_G} {cl : List vw_C} {wr w1 : va_W} {q : Nat} {e : va_E} {H H1 : Heap} (hP : va_P D cl (wr ++ [(q, e)]) H) (hD : va_D A0 (wr ++ [(q, e)]))
    (hk : ∀ x : Nat, x < H.size → ¬ va_A [(q, e)] H.size x → H1[x]? = H[x]?) (hF : ∀ x, va_A [(q, e)] H.size x → A0 x) (hP1 : va_P D cl w1 H1) (hD1 : va_D (va_A [(q, e)] H.size) w1) : va_P D cl (wr ++ w1) H1 ∧ va_D A0 (wr ++ w1) := by
  refine va_join (wc := [(q, e)]) hP hD [wr.length] (List.range wr.length) ?_ ?_ ?_ ?_ hk hF hP1 hD1
  · simp
  · apply List.ext_getElem?
    intro i
    by_cases hi : i < wr.length
    · simp [hi, List.getElem?_append_left hi]
    · simp [hi]
  · have key : ∀ n, va_nd (List.range n) = true := by
      intro n
      have : ∀ l : List Nat, l.Nodup → va_nd l = true := by
        intro l
        induction l with
        | nil => intro _; rfl
        | cons a l ih =>
          intro h
          have h2 := List.nodup_cons.mp h
          simp [va_nd, h2.1, ih h2.2]
      exact this _ List.nodup_range
    exact key _
  · intro i hi h2
    have := List.mem_range.mp hi
    simp at h2
    omega
theorem zFree {A0 : Nat → Prop} {wr : va_W} {q : Nat} {e : va_E} {H0 H : Heap} {locs : List Loc} (hD : va_D A0 (wr ++ [(q, e)])) (hS : va_S A0 H0 H locs) (hA : ∀ x, H0.size ≤ x → A0 x) : ∀ x, va_A [(q, e)] H.size x → A0 x :=
  va_free (wc := [(q, e)]) hD hS hA [wr.length] (by simp)
/-- an object of another class is made and kept in a field -/
theorem zb_new {iC iM j cj lv' mc ms : Nat} {y : MethodName} {bytes : ByteArray} {host : String} {dfl : List Value} {S : Nat → va_W → Prop} {ty : FieldType} {fin : Bool} {idx : Nat} (hB : zCB X own cc h0 ci lv A la)
    (hq : ∃ q : vw_C, zClasses[cj]? = some q ∧ q.1 = y.cls ∧ (∀ w ∈ u_ws q.1 q.2.1 q.2.2, w ∈ zT) ∧ (∃ ty0 : Nat → FieldType, (∀ k, k < q.2.2 → parseFieldDescriptor (q.2.1 k).2.2.1 = some (ty0 k)) ∧ ∀ j, j < q.2.2 → defaultValue (ty0 j) = vp_V dfl j) ∧ Cond.classLink own iC y.cls ∈ zT ∧ Cond.instantiable y.cls q.2.2 ∈ zT ∧ nl + q.2.2 + ms ≤ (zRo X).slots ∧ q.2.2 = dfl.length)
    (hw : zCw y bytes 1 none 0) (hm : (own, iM, y, host) ∈ zNL ∧ Cond.instanceMethod y ∈ zT) (hyn : y.name = "<init>") (hlv : lv' + 1 ≤ lv) (hM : zMk X.1 y bytes cj dfl S lv' mc ms)
    (hfl : zFL own idx ci j) (hff : zFF ci j ty fin) (hty : ∃ C, ty = .object C) (hj : j < fs.length) (hc : nc + 1 + mc ≤ (zRo X).cells)
    (d1 : zDLa cc pc 0 p1) (d2 : zDC cc p1 (.new iC) 3 p2) (d3 : zDC cc p2 .dup 1 p3) (d4 : zDC cc p3 (.invokespecial iM) 3 p4) (d5 : zDC cc p4 (.putfield idx) 3 p5)
    (k : ∀ (q : Nat) (w : va_W), S q w → zBW X h0 ci A la (nc + 1 + mc) (nl + dfl.length + ms) p5 [] (fs.set j (.ref q)) (rest ++ w)) : zBW X h0 ci A la nc nl pc [] fs rest := by
  refine zb_al hB d1 ?_
  obtain ⟨e2, rfl⟩ := d2
  obtain ⟨e3, rfl⟩ := d3
  obtain ⟨e4, rfl⟩ := d4
  have hB' := hB
  obtain ⟨hx, hb, hml, hown, hts, hK, hr, hlk, hN, hin, hl, hA, hci, hlv2⟩ := hB
  obtain ⟨⟨C, T, N⟩, g1, g2, g3, ⟨ty0, g4, g5⟩, g6, g7, g8, g9⟩ := hq
  dsimp only at g2 g3 g4 g5 g7 g8 g9
  subst g2
  intro H locs hP hD hS
  refine va_new (D := X.1.2.1) (ci := cj) (fs := dfl) (C := y.cls) (T := T) (N := N) hx hb hts g3 ty0 g4 hown (hts _ g6) (hts _ g7) (hts _ hw.1) hK hP hD hS hA g1 g5 (by omega) (by omega) e2 (fun q H hP hD hS => ?_)
  refine lv_dup hx hb e3 rfl ?_
  have hF := zFree (wr := (h0, .inr (ci, fs)) :: rest) hD hS hA
  have hP' : va_P X.1.2.1 zClasses [(q, .inr (cj, dfl))] H := hP.sub [((h0, .inr (ci, fs)) :: rest : va_W).length] (by simp)
  have hrun := va_runIN (cells := nc + 1) (slots := nl + N) (locs := locs) (H := H) (e := zEn X) (below := zBel X) (meth := zMeth X) (R := zRo X) (b := q) (As := []) (rest := [.ref q, .ref h0]) (n := 0) (Ts := zT) (g := F0 (zM X) (p1 + 3 + 1) la [.ref q, .ref q, .ref h0]) ⟨hx, hb, hml, hown, hts⟩ (hM q H.size)
    ⟨va_cnB 0 hts (zGood hw) rfl rfl rfl (hN _ hm.1) (hts _ hw.1) ⟨hw.2.2.1, hw.2.2.2.1, hw.2.2.2.2.1⟩ (by show lv' + 1 ≤ _ ∧ 8 + (1 + 11) + 64 * lv' ≤ _; omega), hyn, hts _ hm.2⟩
    ⟨fun a U g mk z => by
      obtain ⟨z0, z1, z2, z3, z4⟩ := z
      exact ⟨z0, z1, z2, va_K.moved (u := U) (U := U.calling g mk a) (Vm.Alike.refl U.vm) z3, z4.same (U := U.calling g mk a) rfl⟩, fun U hU hW => ⟨rfl, by rw [hU], by rw [hU]; exact hP', va_K.moved hW.alike hK, hN.warm hW⟩⟩ rfl rfl (by rw [hl.1]) rfl (lv_room (Nat.le_of_ble_eq_true rfl)) e4 ⟨by omega, by omega⟩
  intro T hT XX
  obtain ⟨v, s0, t, T', L, z0, X', hL, z1, z2, ⟨ho, ⟨w, hSw, hPw, hDw⟩, hz, hk⟩, stp⟩ := hrun T hT XX
  cases ho
  rw [z0] at hz hk
  obtain ⟨hP2, hD2⟩ := zJoin (wr := (h0, .inr (ci, fs)) :: rest) hP hD (fun x h1 h2 => hk x h1 h2) hF hPw hDw
  have key := zb_put (nc := nc + 1 + mc) (nl := nl + N + ms) (v := .ref q) (st := []) (rest := rest ++ w) hB' hfl hff (by obtain ⟨C, rfl⟩ := hty; rfl) (by obtain ⟨C, rfl⟩ := hty; rfl) hj d5 (by rw [g9]; exact k q w hSw) t.heap (locs ++ L) hP2 hD2
    ⟨Nat.le_trans hS.1 hz, fun x h1 h2 => by rw [hk x (Nat.lt_of_lt_of_le h1 hS.1) (fun z => h2 (hF x z))]; exact hS.2.1 x h1 h2, fun x hx => by
      rcases List.mem_append.mp hx with h | h
      · exact hS.2.2 x h
      · exact hF _ (hL x h)⟩
  obtain ⟨t2, a1, b1⟩ := key T' z1 X'
  exact ⟨t2, stp t2 a1, b1⟩
end ZBS
/-- a constructor's contract out of its walk -/
theorem zMk.of {E : zEV} {y : MethodName} {bytes : ByteArray} {cj lv mc ms : Nat} {dfl : List Value} {S : Nat → va_W → Prop} (hy : plainFor y = true) (hyn : y.name = "<init>") (hlv : 1 ≤ lv) (hci : (zClasses[cj]?).map (fun q => q.1) = some y.cls)
    (h : ∀ (X : zX) (h0 : Nat) (A : Nat → Prop) (la : Array Slot), X.1 = E → (zRo X).cells = mc → (zRo X).slots = ms → zCB X y.cls bytes h0 cj lv A la →
      (∀ (pc nx : Nat) (fs : List Value) (rest : va_W), zDC bytes pc .return_ 1 nx → S h0 ((h0, .inr (cj, fs)) :: rest) → zBW X h0 cj A la mc ms pc [] fs rest) → zBW X h0 cj A la 0 0 0 [] dfl []) : zMk E y bytes cj dfl S lv mc ms := by
  intro h0 sz
  refine zOfW (cc := bytes) (maxL := 1) (ret := none) hy rfl ?_
  intro p e s m args below meth c s₁ B hml hv
  obtain ⟨rfl, hsz, hP, hK, hN⟩ := hv
  have hts := atoms_spec (ws := .code y bytes 1 none :: zT) B.pre
  have hown : s.vm.findClass y.cls = some m.cls := findClass_of_methodNamed B.named
  have hin : meth.name = "<init>" := (name_of_methodNamed B.named B.method).1.trans hyn
  have hl := lv_entry ([.ref h0]) (n := 1) (Nat.le_of_ble_eq_true rfl)
  rw [lg_entry_eq]
  subst hsz
  generalize (lg_sl ([.ref h0]) ++ List.replicate (1 - (lg_sl ([.ref h0])).length) Slot.unset).toArray = la at hl ⊢
  have hD0 : va_D (va_A [(h0, .inr (cj, dfl))] s.heap.size) [(h0, .inr (cj, dfl))] := by
    refine ⟨fun i j a b hi hj _ => ?_, fun k q hk => va_A.in hk⟩
    have h1 : i < 1 := (List.getElem?_eq_some_iff.mp hi).1
    have h2 : j < 1 := (List.getElem?_eq_some_iff.mp hj).1
    omega
  have hB : zCB (E, (p, e, s, m, ([.ref h0] : List Value).toArray, below, meth, c), ({ frames := lv, cells := mc, slots := ms, locals := 64 * lv }, 0, 0, MQ below (fun _ st o t => o = .returned none ∧ (∃ w, S h0 w ∧ va_P E.2.1 zClasses w t.heap ∧ va_D (va_A [(h0, .inr (cj, dfl))] s.heap.size) w) ∧ va_F (va_A [(h0, .inr (cj, dfl))] s.heap.size) st t) ([.ref h0] : List Value).toArray s mc ms (va_A [(h0, .inr (cj, dfl))] s.heap.size)), (1, none, (0, fun _ _ => 0))) y.cls bytes h0 cj lv (va_A [(h0, .inr (cj, dfl))] s.heap.size) la :=
    ⟨B.exec, B.bytes, hml, hown, fun w hw => hts w (List.mem_cons_of_mem _ hw), hK, B.returns, B.notSynchronized, hN, hin, hl, fun q hq => Or.inr hq, hci, hlv, Nat.le_refl _, Nat.le_refl _⟩
  refine h _ h0 _ la rfl rfl rfl hB (fun pc nx fs rest hd hS0 => ?_) s.heap [] hP hD0 va_S.rf
  obtain ⟨h1, rfl⟩ := hd
  intro H locs hP hD hS
  show W p E.1 e { frames := lv, cells := mc, slots := ms, locals := 64 * lv } s m ([.ref h0] : List Value).toArray below meth c H locs mc ms (MQ below (fun _ st o t => o = .returned none ∧ (∃ w, S h0 w ∧ va_P E.2.1 zClasses w t.heap ∧ va_D (va_A [(h0, .inr (cj, dfl))] s.heap.size) w) ∧ va_F (va_A [(h0, .inr (cj, dfl))] s.heap.size) st t) ([.ref h0] : List Value).toArray s mc ms (va_A [(h0, .inr (cj, dfl))] s.heap.size)) (F0 m pc la [])
  exact W.vret B.exec B.bytes B.returns (fun t ht hW => ⟨rfl, ⟨_, hS0, by rw [ht]; exact hP, hD⟩, hS.F ht⟩) hS.2.2 h1 B.notSynchronized
