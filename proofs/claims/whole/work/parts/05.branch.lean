section ZB
variable {X : zX} {own : String} {cc : ByteArray} {nL lv pc nx tgt : Nat} {ls : List (Option Value)} {st : List Value} {μ : zMem} {A B : Option zR}
theorem zs_if_eq {x : Int32} (hC : zCx X own cc nL lv) (hd : zDJ cc pc (.ifCond .eq) nx tgt) (kt : x = 0 → A = some (zOut X) → zAW X tgt ls st μ) (kf : ¬ x = 0 → B = some (zOut X) → zAW X nx ls st μ) (hf : (if x = 0 then A else B) = some (zOut X)) : zAW X pc ls (.int x :: st) μ := by
  obtain ⟨off, h1, h2, rfl⟩ := hd
  exact fun H locs la hP hS hl => lv_if_eq hC.1 hC.2.1 h1 h2 (fun hc => kt hc (by rw [if_pos hc] at hf; exact hf) H locs la hP hS hl) (fun hc => kf hc (by rw [if_neg hc] at hf; exact hf) H locs la hP hS hl)
theorem zs_if_lt {x : Int32} (hC : zCx X own cc nL lv) (hd : zDJ cc pc (.ifCond .lt) nx tgt) (kt : x < 0 → A = some (zOut X) → zAW X tgt ls st μ) (kf : ¬ x < 0 → B = some (zOut X) → zAW X nx ls st μ) (hf : (if x < 0 then A else B) = some (zOut X)) : zAW X pc ls (.int x :: st) μ := by
  obtain ⟨off, h1, h2, rfl⟩ := hd
  exact fun H locs la hP hS hl => lv_if_lt hC.1 hC.2.1 h1 h2 (fun hc => kt hc (by rw [if_pos hc] at hf; exact hf) H locs la hP hS hl) (fun hc => kf hc (by rw [if_neg hc] at hf; exact hf) H locs la hP hS hl)
theorem zs_if_ge {x : Int32} (hC : zCx X own cc nL lv) (hd : zDJ cc pc (.ifCond .ge) nx tgt) (kt : 0 ≤ x → A = some (zOut X) → zAW X tgt ls st μ) (kf : ¬ 0 ≤ x → B = some (zOut X) → zAW X nx ls st μ) (hf : (if 0 ≤ x then A else B) = some (zOut X)) : zAW X pc ls (.int x :: st) μ := by
  obtain ⟨off, h1, h2, rfl⟩ := hd
  exact fun H locs la hP hS hl => lv_if_ge hC.1 hC.2.1 h1 h2 (fun hc => kt hc (by rw [if_pos hc] at hf; exact hf) H locs la hP hS hl) (fun hc => kf hc (by rw [if_neg hc] at hf; exact hf) H locs la hP hS hl)
theorem zs_if_gt {x : Int32} (hC : zCx X own cc nL lv) (hd : zDJ cc pc (.ifCond .gt) nx tgt) (kt : 0 < x → A = some (zOut X) → zAW X tgt ls st μ) (kf : ¬ 0 < x → B = some (zOut X) → zAW X nx ls st μ) (hf : (if 0 < x then A else B) = some (zOut X)) : zAW X pc ls (.int x :: st) μ := by
  obtain ⟨off, h1, h2, rfl⟩ := hd
  exact fun H locs la hP hS hl => lv_if_gt hC.1 hC.2.1 h1 h2 (fun hc => kt hc (by rw [if_pos hc] at hf; exact hf) H locs la hP hS hl) (fun hc => kf hc (by rw [if_neg hc] at hf; exact hf) H locs la hP hS hl)
theorem zs_if_le {x : Int32} (hC : zCx X own cc nL lv) (hd : zDJ cc pc (.ifCond .le) nx tgt) (kt : x ≤ 0 → A = some (zOut X) → zAW X tgt ls st μ) (kf : ¬ x ≤ 0 → B = some (zOut X) → zAW X nx ls st μ) (hf : (if x ≤ 0 then A else B) = some (zOut X)) : zAW X pc ls (.int x :: st) μ := by
  obtain ⟨off, h1, h2, rfl⟩ := hd
  exact fun H locs la hP hS hl => lv_if_le hC.1 hC.2.1 h1 h2 (fun hc => kt hc (by rw [if_pos hc] at hf; exact hf) H locs la hP hS hl) (fun hc => kf hc (by rw [if_neg hc] at hf; exact hf) H locs la hP hS hl)
theorem zs_if_ne {x : Int32} (hC : zCx X own cc nL lv) (hd : zDJ cc pc (.ifCond .ne) nx tgt) (kf : x = 0 → A = some (zOut X) → zAW X nx ls st μ) (kt : ¬ x = 0 → B = some (zOut X) → zAW X tgt ls st μ) (hf : (if x = 0 then A else B) = some (zOut X)) : zAW X pc ls (.int x :: st) μ := by
  obtain ⟨off, h1, h2, rfl⟩ := hd
  exact fun H locs la hP hS hl => lv_if_ne hC.1 hC.2.1 h1 h2 (fun hc => kt hc (by rw [if_neg hc] at hf; exact hf) H locs la hP hS hl) (fun hc => kf hc (by rw [if_pos hc] at hf; exact hf) H locs la hP hS hl)
theorem zs_ic_eq {x y : Int32} (hC : zCx X own cc nL lv) (hd : zDJ cc pc (.if_icmp .eq) nx tgt) (kt : x = y → A = some (zOut X) → zAW X tgt ls st μ) (kf : ¬ x = y → B = some (zOut X) → zAW X nx ls st μ) (hf : (if x = y then A else B) = some (zOut X)) : zAW X pc ls (.int y :: .int x :: st) μ := by
  obtain ⟨off, h1, h2, rfl⟩ := hd
  exact fun H locs la hP hS hl => lv_icmp_eq hC.1 hC.2.1 h1 h2 (fun hc => kt hc (by rw [if_pos hc] at hf; exact hf) H locs la hP hS hl) (fun hc => kf hc (by rw [if_neg hc] at hf; exact hf) H locs la hP hS hl)
theorem zs_ic_lt {x y : Int32} (hC : zCx X own cc nL lv) (hd : zDJ cc pc (.if_icmp .lt) nx tgt) (kt : x < y → A = some (zOut X) → zAW X tgt ls st μ) (kf : ¬ x < y → B = some (zOut X) → zAW X nx ls st μ) (hf : (if x < y then A else B) = some (zOut X)) : zAW X pc ls (.int y :: .int x :: st) μ := by
  obtain ⟨off, h1, h2, rfl⟩ := hd
  exact fun H locs la hP hS hl => lv_icmp_lt hC.1 hC.2.1 h1 h2 (fun hc => kt hc (by rw [if_pos hc] at hf; exact hf) H locs la hP hS hl) (fun hc => kf hc (by rw [if_neg hc] at hf; exact hf) H locs la hP hS hl)
theorem zs_ic_ge {x y : Int32} (hC : zCx X own cc nL lv) (hd : zDJ cc pc (.if_icmp .ge) nx tgt) (kt : y ≤ x → A = some (zOut X) → zAW X tgt ls st μ) (kf : ¬ y ≤ x → B = some (zOut X) → zAW X nx ls st μ) (hf : (if y ≤ x then A else B) = some (zOut X)) : zAW X pc ls (.int y :: .int x :: st) μ := by
  obtain ⟨off, h1, h2, rfl⟩ := hd
  exact fun H locs la hP hS hl => lv_icmp_ge hC.1 hC.2.1 h1 h2 (fun hc => kt hc (by rw [if_pos hc] at hf; exact hf) H locs la hP hS hl) (fun hc => kf hc (by rw [if_neg hc] at hf; exact hf) H locs la hP hS hl)
theorem zs_ic_gt {x y : Int32} (hC : zCx X own cc nL lv) (hd : zDJ cc pc (.if_icmp .gt) nx tgt) (kt : y < x → A = some (zOut X) → zAW X tgt ls st μ) (kf : ¬ y < x → B = some (zOut X) → zAW X nx ls st μ) (hf : (if y < x then A else B) = some (zOut X)) : zAW X pc ls (.int y :: .int x :: st) μ := by
  obtain ⟨off, h1, h2, rfl⟩ := hd
  exact fun H locs la hP hS hl => lv_icmp_gt hC.1 hC.2.1 h1 h2 (fun hc => kt hc (by rw [if_pos hc] at hf; exact hf) H locs la hP hS hl) (fun hc => kf hc (by rw [if_neg hc] at hf; exact hf) H locs la hP hS hl)
theorem zs_ic_le {x y : Int32} (hC : zCx X own cc nL lv) (hd : zDJ cc pc (.if_icmp .le) nx tgt) (kt : x ≤ y → A = some (zOut X) → zAW X tgt ls st μ) (kf : ¬ x ≤ y → B = some (zOut X) → zAW X nx ls st μ) (hf : (if x ≤ y then A else B) = some (zOut X)) : zAW X pc ls (.int y :: .int x :: st) μ := by
  obtain ⟨off, h1, h2, rfl⟩ := hd
  exact fun H locs la hP hS hl => lv_icmp_le hC.1 hC.2.1 h1 h2 (fun hc => kt hc (by rw [if_pos hc] at hf; exact hf) H locs la hP hS hl) (fun hc => kf hc (by rw [if_neg hc] at hf; exact hf) H locs la hP hS hl)
theorem zs_ic_ne {x y : Int32} (hC : zCx X own cc nL lv) (hd : zDJ cc pc (.if_icmp .ne) nx tgt) (kf : x = y → A = some (zOut X) → zAW X nx ls st μ) (kt : ¬ x = y → B = some (zOut X) → zAW X tgt ls st μ) (hf : (if x = y then A else B) = some (zOut X)) : zAW X pc ls (.int y :: .int x :: st) μ := by
  obtain ⟨off, h1, h2, rfl⟩ := hd
  exact fun H locs la hP hS hl => lv_icmp_ne hC.1 hC.2.1 h1 h2 (fun hc => kt hc (by rw [if_neg hc] at hf; exact hf) H locs la hP hS hl) (fun hc => kf hc (by rw [if_pos hc] at hf; exact hf) H locs la hP hS hl)
/-- a guess at a number that a switch asks -/
theorem zs_case (v : Int32) {x : Int32} (kt : x = v → A = some (zOut X) → zAW X pc ls (.int x :: st) μ) (kf : ¬ x = v → B = some (zOut X) → zAW X pc ls (.int x :: st) μ) (hf : (if x = v then A else B) = some (zOut X)) : zAW X pc ls (.int x :: st) μ := by
  by_cases hc : x = v
  · rw [if_pos hc] at hf; exact kt hc hf
  · rw [if_neg hc] at hf; exact kf hc hf
theorem zs_tabI {x v : Int32} {dflt lo hi off : Int} {offs : Array Int} {len : Nat} (hC : zCx X own cc nL lv) (hx : x = v) (hd : decode cc pc = .ok (.tableswitch dflt lo hi offs, len)) (h1 : ¬ v.toInt < lo) (h2 : ¬ hi < v.toInt) (ho : offs[(v.toInt - lo).toNat]? = some off) (ht : (pc : Int) + off = (tgt : Int)) (k : zAW X tgt ls st μ) : zAW X pc ls (.int x :: st) μ := by
  subst hx
  exact fun H locs la hP hS hl => lv_tableIn hC.1 hC.2.1 hd h1 h2 ho ht (k H locs la hP hS hl)
theorem zs_tabO {x : Int32} {dflt lo hi : Int} {offs : Array Int} {len : Nat} (hC : zCx X own cc nL lv) (hd : decode cc pc = .ok (.tableswitch dflt lo hi offs, len)) (h : x.toInt < lo ∨ hi < x.toInt) (ht : (pc : Int) + dflt = (tgt : Int)) (k : zAW X tgt ls st μ) : zAW X pc ls (.int x :: st) μ :=
  fun H locs la hP hS hl => lv_tableOut hC.1 hC.2.1 hd h ht (k H locs la hP hS hl)
theorem zs_look {x : Int32} {dflt off : Int} {ps : Array (Int × Int)} {len : Nat} (hC : zCx X own cc nL lv) (hd : decode cc pc = .ok (.lookupswitch dflt ps, len)) (hp : (ps.toList.zip (ps.toList.drop 1)).all (fun (a, next) => a.1 < next.1) = true) (ho : Op.lookupswitch.offset ps.toList dflt x.toInt = off) (ht : (pc : Int) + off = (tgt : Int)) (k : zAW X tgt ls st μ) : zAW X pc ls (.int x :: st) μ :=
  fun H locs la hP hS hl => lv_lookup hC.1 hC.2.1 hd hp ho ht (k H locs la hP hS hl)
theorem zs_gb {b : Bool} (k : b = true → B = some (zOut X) → zAW X pc ls st μ) (hf : zGb b B = some (zOut X)) : zAW X pc ls st μ := k (zGb_some hf).1 (zGb_some hf).2
end ZB
