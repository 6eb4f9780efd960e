/-! THE CLAIM OUT OF ONE WALK OF THE LAW'S BODY. Your part is whole_start (and what it stands on); all else here is the same for every law, but numbers. -/
def R_law : String := "WhisperPressLaw"
def lw_P (b : Addr) (xs : List Int32) (args : Array Value) (s : State) : Prop := args = #[.ref b] ∧ s.IntsAt b xs ∧ xs.length ≤ 3072 ∧ (Jvm.Cond.and given_1 narrow_1).before args s = true
def lw_Q (_ : Array Value) (s : State) (o : Outcome) (t : State) : Prop := o = .returned (some (.int 1)) ∧ Framed s o t [] 600000 7302250
def lw_Z (below : List Frame) (a : Array Value) (s : State) : State → Prop := fun t => ∃ o, t.status = .running ∧ Ended t below o ∧ lw_Q a s o t
/-- the law's own end, with 1 on the stack, nothing written that was there before, its room as the claim has it -/
theorem lw_ret {p : Program} {l : Launch} {e : Env} {s : State} {m : MethodId} {below : List Frame} {meth : Method} {c : Code} {b : Nat} (hx : p.tables.exec = Jvm.exec) (hb : c.code = code) (hr : meth.sig.returnType = ret) (hlocks : meth.locks = false) {pc : Nat} {H : Heap} {ls : Array Slot} (hdg : decode code pc = .ok (.ireturn, 1)) : W p l e room_1 s m #[Value.ref b] below meth c H [] 600000 7302250 (lw_Z below #[Value.ref b] s) (F0 m pc ls [.int 1]) := by
  intro T hT X
  obtain ⟨fs, hret, hrun, hended, hW, hframe⟩ := X.leave (v := some (.int 1)) (hlocks := hlocks) (fun h => by rw [hr] at h; cases h)
  have hmeth' : T.vm.method? m = some meth := X.method'
  refine ⟨T.setFrames fs, ?_, .returned (some (.int 1)), hrun, hended, rfl, ⟨_, rfl⟩, hW, hframe⟩
  jvm_step X.here [X.here.top, hx, hb, hdg, hmeth', hr, ret, narrow_b1]
  (try refine ⟨rfl, ?_⟩); (try refine ⟨rfl, ?_⟩)
  first | (intro acts; rw [hret _ acts rfl rfl rfl]) | rw [hret _ _ rfl rfl rfl]
  exact Steps.refl _
/-- what holds at the law's entry: the machine, the code, the tables' words (any of lw_tbl by 'hts w (by decide +kernel)'), the script of L ints xs at the cell b, what the Statement gives of the start (any of its parts by flat_of_before) -/
def lw_At (p : Program) (s : State) (m : MethodId) (meth : Method) (c : Code) (b L : Nat) (xs : Nat → Int32) : Prop :=
  p.tables.exec = Jvm.exec ∧ c.code = code ∧ meth.sig.returnType = ret ∧ c.maxLocals = 4 ∧ s.vm.findClass R_law = some m.cls ∧ (∀ w ∈ lw_tbl, w.before #[Value.ref b] s = true) ∧ va_X b L xs s s.heap ∧ b < s.heap.size ∧ meth.locks = false ∧ (Jvm.Cond.and given_1 narrow_1).before #[Value.ref b] s = true
theorem cw_X11_init : zCw yX11_init cX11_init 1 none 0 := ⟨zT_mem 76 (by decide +kernel) rfl, zT_mem 96 (by decide +kernel) rfl, by decide +kernel, by decide +kernel, by decide +kernel, by decide⟩
theorem cw_X12_init : zCw yX12_init cX12_init 1 none 0 := ⟨zT_mem 88 (by decide +kernel) rfl, zT_mem 985 (by decide +kernel) rfl, by decide +kernel, by decide +kernel, by decide +kernel, by decide⟩
theorem ws_11 : Cond.classLink "WhisperPressLaw" 7 RX11 ∈ zT ∧ Cond.instantiable RX11 14 ∈ zT ∧ Cond.methodLink "WhisperPressLaw" 9 yX11_init ∈ zT ∧ Cond.instanceMethod yX11_init ∈ zT := ⟨zT_mem 92 (by decide +kernel) rfl, zT_mem 93 (by decide +kernel) rfl, zT_mem 94 (by decide +kernel) rfl, zT_mem 95 (by decide +kernel) rfl⟩
theorem ws_12 : Cond.classLink "WhisperPressLaw" 10 RX12 ∈ zT ∧ Cond.instantiable RX12 46 ∈ zT ∧ Cond.methodLink "WhisperPressLaw" 12 yX12_init ∈ zT ∧ Cond.instanceMethod yX12_init ∈ zT := ⟨zT_mem 981 (by decide +kernel) rfl, zT_mem 982 (by decide +kernel) rfl, zT_mem 983 (by decide +kernel) rfl, zT_mem 984 (by decide +kernel) rfl⟩
theorem wi_0 : Cond.instantiable RX0 1 ∈ zT := zT_mem 328 (by decide +kernel) rfl
theorem wi_1 : Cond.instantiable RX1 3 ∈ zT := zT_mem 268 (by decide +kernel) rfl
theorem wi_2 : Cond.instantiable RX2 4 ∈ zT := zT_mem 307 (by decide +kernel) rfl
theorem wi_3 : Cond.instantiable RX3 4 ∈ zT := zT_mem 339 (by decide +kernel) rfl
theorem wi_4 : Cond.instantiable RX4 4 ∈ zT := zT_mem 248 (by decide +kernel) rfl
theorem wi_5 : Cond.instantiable RX5 8 ∈ zT := zT_mem 178 (by decide +kernel) rfl
theorem wi_6 : Cond.instantiable RX6 2 ∈ zT := zT_mem 172 (by decide +kernel) rfl
theorem wi_7 : Cond.instantiable RX7 3 ∈ zT := zT_mem 288 (by decide +kernel) rfl
theorem wi_8 : Cond.instantiable RX8 8 ∈ zT := zT_mem 126 (by decide +kernel) rfl
theorem wi_9 : Cond.instantiable RX9 4 ∈ zT := zT_mem 101 (by decide +kernel) rfl
theorem wi_10 : Cond.instantiable RX10 3 ∈ zT := zT_mem 231 (by decide +kernel) rfl
theorem wi_11 : Cond.instantiable RX11 14 ∈ zT := zT_mem 93 (by decide +kernel) rfl
theorem wi_12 : Cond.instantiable RX12 46 ∈ zT := zT_mem 982 (by decide +kernel) rfl
theorem dL_s_0 : decode code 0 = .ok (.new 7, 3) := by decide +kernel
theorem dL_s_3 : decode code 3 = .ok (.dup, 1) := by decide +kernel
theorem dL_s_4 : decode code 4 = .ok (.invokespecial 9, 3) := by decide +kernel
theorem dL_s_7 : decode code 7 = .ok (.astore_n 1, 1) := by decide +kernel
theorem dL_s_8 : decode code 8 = .ok (.new 10, 3) := by decide +kernel
theorem dL_s_11 : decode code 11 = .ok (.dup, 1) := by decide +kernel
theorem dL_s_12 : decode code 12 = .ok (.invokespecial 12, 3) := by decide +kernel
theorem dL_s_15 : decode code 15 = .ok (.astore_n 2, 1) := by decide +kernel
theorem dL_s_16 : decode code 16 = .ok (.iconst 0, 1) := by decide +kernel
theorem dL_s_17 : decode code 17 = .ok (.istore_n 3, 1) := by decide +kernel
theorem zNL_in : ∀ q ∈ zNL, Cond.methodLinkNest q.1 q.2.1 q.2.2.1 q.2.2.2 ∈ lw_tbl := by
  have h : (zNL.all fun q => decide (Cond.methodLinkNest q.1 q.2.1 q.2.2.1 q.2.2.2 ∈ lw_tbl)) = true := by decide +kernel
  intro q hq
  exact of_decide_eq_true (List.all_eq_true.mp h q hq)
/-- the memory at the start -/
def z0 : zMem := fun k => match k with
  | 0 => fun j => if j = 8 then nI 40 else if j = 9 then nI 43 else 0
  | 3 => fun j => if j = 7 then nI 1 else 0
  | 8 => fun j => if j = 7 then nI 1 else 0
  | 13 => fun j => if j = 7 then nI 1 else 0
  | 18 => fun j => if j = 0 then nI 19 else nI 26
  | 61 => upd (fun _ => 0) 1046 (nI 1)
  | _ => fun _ => 0
/-- what is left to be shown: over every script both answer alike -/
def zAlike : Prop := ∀ (L : Nat) (xs : Nat → Int32), L ≤ 3072 → ∃ (F n : Nat) (out : zR), fL_law_18 F L xs n (nI 0) z0 = some out ∧ out.1 = 1
section ZST
variable {p : Program} {l : Launch} {e : Env} {s : State} {m : MethodId} {below : List Frame} {meth : Method} {c : Code} {b : Nat} {D : va_G} {cyI cyB : ClassId} {Q : State → Prop}
/-- 'new', 'dup', the constructor, in the law -/
theorem zt_new {ws : va_W} {H : Heap} {locs : List Loc} {la : Array Slot} {pc iC iM cj mc ms N nc nl lv' : Nat} {y : MethodName} {bytes : ByteArray} {dfl : List Value} {S : Nat → va_W → Prop} {T : u_T} {ty0 : Nat → FieldType} {ad0 : Nat → Nat} (hx : p.tables.exec = Jvm.exec) (hb : c.code = code) (hml : c.maxLocals = 4) (hown : s.vm.findClass "WhisperPressLaw" = some m.cls) (hts : ∀ w ∈ zT, w.before #[Value.ref b] s = true) (hK : va_K D zClasses (zTys cyI cyB) s) (hN : zNs s) (hla : la.size = 4)
    (g1 : zClasses[cj]? = some (y.cls, T, N)) (g3 : ∀ w ∈ u_ws y.cls T N, w ∈ zT) (g4 : ∀ k, k < N → parseFieldDescriptor (T k).2.2.1 = some (ty0 k)) (g5 : ∀ j, j < N → defaultValue (ty0 j) = vp_V dfl j) (hw : zCw y bytes 1 none 0) (hl : Cond.classLink "WhisperPressLaw" iC y.cls ∈ zT ∧ Cond.instantiable y.cls N ∈ zT ∧ Cond.methodLink "WhisperPressLaw" iM y ∈ zT ∧ Cond.instanceMethod y ∈ zT) (hyn : y.name = "<init>") (hM : zMk (l, D, cyI, cyB, ad0) y bytes cj dfl S lv' mc ms) (hlv : lv' ≤ 10) (hcc : nc + 1 + mc ≤ 600000) (hss : nl + N + ms ≤ 7302250)
    (e2 : decode code pc = .ok (.new iC, 3)) (e3 : decode code (pc + 3) = .ok (.dup, 1)) (e4 : decode code (pc + 4) = .ok (.invokespecial iM, 3))
    (hP : va_P D zClasses ws H) (hD : va_D (fun q : Nat => s.heap.size ≤ q) ws) (hS : va_S (fun q : Nat => s.heap.size ≤ q) s.heap H locs)
    (k : ∀ (q : Nat) (w : va_W) (H1 : Heap) (locs1 : List Loc), S q w → va_P D zClasses (ws ++ w) H1 → va_D (fun q : Nat => s.heap.size ≤ q) (ws ++ w) → va_S (fun q : Nat => s.heap.size ≤ q) s.heap H1 locs1 → W p l e room_1 s m #[Value.ref b] below meth c H1 locs1 (nc + 1 + mc) (nl + N + ms) Q (F0 m (pc + 7) la [.ref q])) : W p l e room_1 s m #[Value.ref b] below meth c H locs nc nl Q (F0 m pc la []) := by
  have hA : ∀ q : Nat, s.heap.size ≤ q → (fun q : Nat => s.heap.size ≤ q) q := fun _ h => h
  refine va_new (D := D) (ci := cj) (fs := dfl) (C := y.cls) (T := T) (N := N) hx hb hts g3 ty0 g4 hown (hts _ hl.1) (hts _ hl.2.1) (hts _ hw.1) hK hP hD hS hA g1 g5 (by show nc + 1 ≤ 600000; omega) (by show nl + N ≤ 7302250; omega) e2 (fun q H hP hD hS => ?_)
  refine lv_dup hx hb e3 rfl ?_
  have hF := zFree hD hS hA
  have hP' : va_P D zClasses [(q, .inr (cj, dfl))] H := hP.sub [ws.length] (by simp)
  have hrun := va_runI (l := l) (cells := nc + 1) (slots := nl + N) (locs := locs) (H := H) (e := e) (below := below) (meth := meth) (R := room_1) (b := q) (As := []) (rest := [.ref q]) (n := 0) (Ts := zT) (g := F0 m (pc + 3 + 1) la [.ref q, .ref q]) ⟨hx, hb, hml, hown, hts⟩ (hM q H.size)
    ⟨callB_of 0 hts (zGood hw) rfl rfl rfl (hts _ hw.1) (hts _ hl.2.2.1) ⟨hw.2.2.1, hw.2.2.2.1, hw.2.2.2.2.1⟩ (by show lv' + 1 ≤ 2048 ∧ 8 + (1 + 11) + 64 * lv' ≤ 84000; omega), hyn, hts _ hl.2.2.2⟩
    ⟨fun a U g mk z => by
      obtain ⟨z0, z1, z2, z3, z4⟩ := z
      exact ⟨z0, z1, z2, va_K.moved (u := U) (U := U.calling g mk a) (Vm.Alike.refl U.vm) z3, z4.same (U := U.calling g mk a) rfl⟩, fun U hU hW => ⟨rfl, by rw [hU], by rw [hU]; exact hP', va_K.moved hW.alike hK, hN.warm hW⟩⟩ rfl rfl hla rfl (lv_room (Nat.le_of_ble_eq_true rfl)) e4 ⟨by show nc + 1 + mc ≤ 600000; omega, by show nl + N + ms ≤ 7302250; omega⟩
  intro T hT XX
  obtain ⟨v, s0, t, T', L, y0, X', hL, y1, y2, ⟨ho, ⟨w, hSw, hPw, hDw⟩, hz, hk⟩, stp⟩ := hrun T hT XX
  cases ho
  rw [y0] at hz hk
  obtain ⟨hP2, hD2⟩ := zJoin hP hD (fun x h1 h2 => hk x h1 h2) hF hPw hDw
  obtain ⟨t2, a1, b1⟩ := k q w t.heap (locs ++ L) hSw hP2 hD2
    ⟨Nat.le_trans hS.1 hz, fun x h1 h2 => by rw [hk x (Nat.lt_of_lt_of_le h1 hS.1) (fun z => h2 (hF x z))]; exact hS.2.1 x h1 h2, fun x hx => by
      rcases List.mem_append.mp hx with h | h
      · exact hS.2.2 x h
      · exact hF _ (hL x h)⟩ T' y1 X'
  exact ⟨t2, stp t2 a1, b1⟩
end ZST
set_option maxRecDepth 20000 in
set_option maxHeartbeats 4000000 in
/-- from the entry, for every script of at most 3072 ints, the law comes to its end with true, if both answer alike -/
theorem whole_start_open (hAl : zAlike) {p : Program} {e : Env} {s : State} {m : MethodId} {below : List Frame} {meth : Method} {c : Code} (l : Launch) (hflags : l.flags = flags0) {b L : Nat} {xs : Nat → Int32} (hL : L ≤ 3072) (C0 : lw_At p s m meth c b L xs) : W p l e room_1 s m #[Value.ref b] below meth c s.heap [] 0 0 (lw_Z below #[Value.ref b] s) (entryFrame m ([Value.ref b] : List Value).toArray 4) := by
  obtain ⟨hx, hb, hr, hml, hown, hts0, hX, hbl, hlocks, hgv⟩ := C0
  have hts : ∀ w ∈ zT, w.before #[Value.ref b] s = true := fun w hw => hts0 w (List.mem_filter.mp hw).1
  have hN : zNs s := fun q hq => va_Nw.of rfl (hts0 _ (zNL_in q hq))
  obtain ⟨c0, iS0, hKn0⟩ := u_known (C := RX0) (T := TX0) (N := 1) hts uw_0 (hts _ wi_0)
  obtain ⟨c1, iS1, hKn1⟩ := u_known (C := RX1) (T := TX1) (N := 3) hts uw_1 (hts _ wi_1)
  obtain ⟨c2, iS2, hKn2⟩ := u_known (C := RX2) (T := TX2) (N := 4) hts uw_2 (hts _ wi_2)
  obtain ⟨c3, iS3, hKn3⟩ := u_known (C := RX3) (T := TX3) (N := 4) hts uw_3 (hts _ wi_3)
  obtain ⟨c4, iS4, hKn4⟩ := u_known (C := RX4) (T := TX4) (N := 4) hts uw_4 (hts _ wi_4)
  obtain ⟨c5, iS5, hKn5⟩ := u_known (C := RX5) (T := TX5) (N := 8) hts uw_5 (hts _ wi_5)
  obtain ⟨c6, iS6, hKn6⟩ := u_known (C := RX6) (T := TX6) (N := 2) hts uw_6 (hts _ wi_6)
  obtain ⟨c7, iS7, hKn7⟩ := u_known (C := RX7) (T := TX7) (N := 3) hts uw_7 (hts _ wi_7)
  obtain ⟨c8, iS8, hKn8⟩ := u_known (C := RX8) (T := TX8) (N := 8) hts uw_8 (hts _ wi_8)
  obtain ⟨c9, iS9, hKn9⟩ := u_known (C := RX9) (T := TX9) (N := 4) hts uw_9 (hts _ wi_9)
  obtain ⟨c10, iS10, hKn10⟩ := u_known (C := RX10) (T := TX10) (N := 3) hts uw_10 (hts _ wi_10)
  obtain ⟨c11, iS11, hKn11⟩ := u_known (C := RX11) (T := TX11) (N := 14) hts uw_11 (hts _ wi_11)
  obtain ⟨c12, iS12, hKn12⟩ := u_known (C := RX12) (T := TX12) (N := 46) hts uw_12 (hts _ wi_12)
  obtain ⟨dC, dI, hKc⟩ : ∃ (dC : Nat → ClassId) (dI : Nat → Nat → Nat), ∀ (k : Nat) (q : vw_C), zClasses[k]? = some q → u_Kn s q.1 q.2.1 q.2.2 (dC k) (dI k) := by
    refine ⟨fun k => if k = 0 then c0 else if k = 1 then c1 else if k = 2 then c2 else if k = 3 then c3 else if k = 4 then c4 else if k = 5 then c5 else if k = 6 then c6 else if k = 7 then c7 else if k = 8 then c8 else if k = 9 then c9 else if k = 10 then c10 else if k = 11 then c11 else c12, fun k => if k = 0 then iS0 else if k = 1 then iS1 else if k = 2 then iS2 else if k = 3 then iS3 else if k = 4 then iS4 else if k = 5 then iS5 else if k = 6 then iS6 else if k = 7 then iS7 else if k = 8 then iS8 else if k = 9 then iS9 else if k = 10 then iS10 else if k = 11 then iS11 else iS12, ?_⟩
    intro k q hq
    match k, hq with
    | 0, hq => cases hq; exact hKn0
    | 1, hq => cases hq; exact hKn1
    | 2, hq => cases hq; exact hKn2
    | 3, hq => cases hq; exact hKn3
    | 4, hq => cases hq; exact hKn4
    | 5, hq => cases hq; exact hKn5
    | 6, hq => cases hq; exact hKn6
    | 7, hq => cases hq; exact hKn7
    | 8, hq => cases hq; exact hKn8
    | 9, hq => cases hq; exact hKn9
    | 10, hq => cases hq; exact hKn10
    | 11, hq => cases hq; exact hKn11
    | 12, hq => cases hq; exact hKn12
    | k + 13, hq => simp [zClasses] at hq
  obtain ⟨cyI, kI, cmI, fI, gI, tI⟩ := Cond.arrayClass_spec (hts _ wd_arrI)
  obtain ⟨cyB, kB, cmB, fB, gB, tB⟩ := Cond.arrayClass_spec (hts _ wd_arrB)
  have hK : va_K (dC, dI) zClasses (zTys cyI cyB) s := by
    refine ⟨hKc, fun k q hk => ?_⟩
    match k, hk with
    | 0, hk => cases hk; exact ⟨fun n z => ⟨fun k h => (by cases h), kI, gI, cmI, tI⟩, fI⟩
    | 1, hk => cases hk; exact ⟨fun n z => ⟨fun k h => (by cases h), kB, gB, cmB, tB⟩, fB⟩
    | k + 2, hk => simp [zTys] at hk
  have hl := lv_entry ([.ref b]) (n := 4) (Nat.le_of_ble_eq_true rfl)
  rw [lg_entry_eq]
  generalize (lg_sl ([.ref b]) ++ List.replicate (4 - (lg_sl ([.ref b])).length) Slot.unset).toArray = la at hl ⊢
  have hl : lv_has la 4 [(0, .ref b)] := hl
  refine zt_new (D := (dC, dI)) (cyI := cyI) (cyB := cyB) (ad0 := fun q => q) (ws := []) (cj := 11) (y := yX11_init) (bytes := cX11_init) (N := 14) (T := TX11) (ty0 := tyX11) (dfl := [.null, .null, .null, .null, .int 0, .null, .null, .null, .null, .null, .null, .null, .null, .null]) (iC := 7) (iM := 9) hx hb hml hown hts hK hN hl.1 rfl uw_11 tyX11_ok (by decide +kernel) cw_X11_init ws_11 rfl ctX11_init (by decide) (Nat.le_of_ble_eq_true rfl) (Nat.le_of_ble_eq_true rfl) dL_s_0 dL_s_3 dL_s_4 (fun k q h => by simp at h) ⟨fun i j a b h => by simp at h, fun k q h => by simp at h⟩ va_S.rf (fun a0 u1 H locs hu1 hP hD hS => ?_)
  refine lv_astore_n (lv' := [(1, .ref a0), (0, .ref b)]) hx hb dL_s_7 rfl hl (by decide) rfl (fun la hl => ?_)
  refine zt_new (D := (dC, dI)) (cyI := cyI) (cyB := cyB) (ad0 := fun q => q) (cj := 12) (y := yX12_init) (bytes := cX12_init) (N := 46) (T := TX12) (ty0 := tyX12) (dfl := [.null, .null, .null, .null, .null, .null, .null, .int 0, .null, .int 0, .int 0, .int 0, .int 0, .int 0, .int 0, .int 0, .int 0, .int 0, .int 0, .null, .null, .null, .null, .null, .null, .null, .null, .null, .null, .null, .null, .null, .int 0, .int 0, .int 0, .int 0, .null, .null, .int 0, .int 0, .null, .null, .null, .null, .null, .int 0]) (iC := 10) (iM := 12) hx hb hml hown hts hK hN hl.1 rfl uw_12 tyX12_ok (by decide +kernel) cw_X12_init ws_12 rfl ctX12_init (by decide) (Nat.le_of_ble_eq_true rfl) (Nat.le_of_ble_eq_true rfl) dL_s_8 dL_s_11 dL_s_12 hP hD hS (fun a60 u2 H locs hu2 hP hD hS => ?_)
  refine lv_astore_n (lv' := [(2, .ref a60), (1, .ref a0), (0, .ref b)]) hx hb dL_s_15 rfl hl (by decide) rfl (fun la hl => ?_)
  refine lv_iconst (v := 0) hx hb dL_s_16 (by decide) ?_
  refine lv_istore_n (lv' := [(3, .int 0), (2, .ref a60), (1, .ref a0), (0, .ref b)]) hx hb dL_s_17 rfl hl (by decide) rfl (fun la hl => ?_)
  refine va_forget (fun q hq => hS.2.2 q hq) ?_
  refine W.widen (k := 600000) (n := 7302250) (Nat.le_of_ble_eq_true rfl) (Nat.le_of_ble_eq_true rfl) ?_
  obtain ⟨a1, w1, a3, w3, a8, w8, a13, w13, a18, w18, a33, w33, a36, w36, a40, w40, a43, w43, a46, w46, a50, w50, a54, w54, a56, w56, ⟨a2, rfl⟩, ⟨a4, a5, a6, a7, rfl⟩, ⟨a9, a10, a11, a12, rfl⟩, ⟨a14, a15, a16, a17, rfl⟩, ⟨a19, w19, a26, w26, ⟨a20, a21, a22, a23, a24, a25, rfl⟩, ⟨a27, a28, a29, a30, a31, a32, rfl⟩, rfl⟩, ⟨a34, a35, rfl⟩, ⟨a37, a38, a39, rfl⟩, ⟨a41, a42, rfl⟩, ⟨a44, a45, rfl⟩, ⟨a47, a48, a49, rfl⟩, ⟨a51, a52, a53, rfl⟩, ⟨a55, rfl⟩, ⟨a57, a58, a59, rfl⟩, rfl⟩ := hu1
  obtain ⟨a61, a62, a63, a64, a65, a66, a67, a68, a69, a70, a71, a72, a73, a74, a75, a76, a77, a78, a79, a80, a81, a82, a83, a84, a85, a86, a87, a88, rfl⟩ := hu2
  obtain ⟨ad, had⟩ : ∃ ad : Nat → Nat, ad = fun k => ([a0, a1, a2, a3, a4, a5, a6, a7, a8, a9, a10, a11, a12, a13, a14, a15, a16, a17, a18, a19, a20, a21, a22, a23, a24, a25, a26, a27, a28, a29, a30, a31, a32, a33, a34, a35, a36, a37, a38, a39, a40, a41, a42, a43, a44, a45, a46, a47, a48, a49, a50, a51, a52, a53, a54, a55, a56, a57, a58, a59, a60, a61, a62, a63, a64, a65, a66, a67, a68, a69, a70, a71, a72, a73, a74, a75, a76, a77, a78, a79, a80, a81, a82, a83, a84, a85, a86, a87, a88, b] : List Nat).getD k 0 := ⟨_, rfl⟩
  have hP : va_P (dC, dI) zClasses (zConc cyI cyB ad z0) H := by rw [had]; exact hP
  have hD : va_D (fun q : Nat => s.heap.size ≤ q) (zConc cyI cyB ad z0) := by rw [had]; exact hD
  have hok : zOK ad := fun i j hi hj h => hD.1 i j _ _ (zConc_at ⟨hi, rfl⟩) (zConc_at ⟨hj, rfl⟩) h
  have hzA : ∀ q, zA ad q → s.heap.size ≤ q := fun q ⟨k, hk, hq⟩ => by rw [hq]; exact hD.2 k _ (zConc_at ⟨hk, rfl⟩)
  have had89 : ad 89 = b := by rw [had]; rfl
  obtain ⟨F, n, out, hf, ho⟩ := hAl L xs hL
  have hC : zCx ((l, (dC, dI), cyI, cyB, ad), (p, e, s, m, #[Value.ref b], below, meth, c), (room_1, 600000, 7302250, lw_Z below #[Value.ref b] s), (4, some .boolean, out)) RL cL_law 4 70 :=
    ⟨hx, hb, hml, hown, hts, hK, hr, hlocks, hok, ⟨Nat.le_of_ble_eq_true rfl, Nat.le_of_ble_eq_true rfl, Nat.le_refl _, Nat.le_refl _⟩, hN, rfl⟩
  have hret : zLr ((l, (dC, dI), cyI, cyB, ad), (p, e, s, m, #[Value.ref b], below, meth, c), (room_1, 600000, 7302250, lw_Z below #[Value.ref b] s), (4, some .boolean, out)) := by
    intro pc nx ls μ r hd hf
    have e1 : (r, μ) = out := Option.some.inj hf
    have e2 : r = 1 := by rw [← ho, ← e1]
    subst e2
    intro H locs la hP hS hl
    refine va_forget (fun q hq => hzA _ (hS.2.2 q hq)) ?_
    exact lw_ret hx hb hr hlocks hd.1
  have hscr : zScr ((l, (dC, dI), cyI, cyB, ad), (p, e, s, m, #[Value.ref b], below, meth, c), (room_1, 600000, 7302250, lw_Z below #[Value.ref b] s), (4, some .boolean, out)) L xs := by
    refine ⟨?_, ?_, ?_⟩
    · show va_X (ad 89) L xs s s.heap
      rw [had89]; exact hX
    · show ad 89 < s.heap.size
      rw [had89]; exact hbl
    · show ¬ zA ad (ad 89)
      rw [had89]; exact fun h => absurd (hzA _ h) (Nat.not_le.mpr hbl)
  have key := wL_law_18 hC hret hscr n (nI 0) z0 hf H [] la hP ⟨hS.1, fun q h1 _ => hS.2.1 q h1 (Nat.not_le.mpr h1), fun q hq => by cases hq⟩
    ⟨hl.1, hl.2.1, fun i v hi => by
      match i, hi with
      | 0, hi => cases hi; show la[0]? = some (.val (.ref (ad 89))); rw [had89]; exact lv_at hl 3 rfl
      | 1, hi => cases hi; show la[1]? = some (.val (.ref (ad 0))); rw [had]; exact lv_at hl 2 rfl
      | 2, hi => cases hi; show la[2]? = some (.val (.ref (ad 60))); rw [had]; exact lv_at hl 1 rfl
      | 3, hi => cases hi; exact lv_at hl 0 rfl
      | i + 4, hi => simp at hi⟩
  exact key
