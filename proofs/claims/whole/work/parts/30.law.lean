/-! ===== THE LAW's LOOP ===== -/
def zScr (X : zX) (L : Nat) (xs : Nat → Int32) : Prop := va_X (X.1.2.2.2.2 89) L xs (zS X) (zS X).heap ∧ X.1.2.2.2.2 89 < (zS X).heap.size ∧ ¬ zA X.1.2.2.2.2 (X.1.2.2.2.2 89)
def zLr (X : zX) : Prop := ∀ (pc nx : Nat) (ls : List (Option Value)) (μ : zMem) (r : Int32), zDC cL_law pc .ireturn 1 nx → some (r, μ) = some (zOut X) → zAW X pc ls [.int r] μ
theorem zs_sld {X : zX} {own : String} {cc : ByteArray} {nL lv pc nx : Nat} {ls : List (Option Value)} {st : List Value} {μ : zMem} {L : Nat} {xs : Nat → Int32} {i : Int32} {B : Option zR} (hC : zCx X own cc nL lv) (hs : zScr X L xs) (hd : zDC cc pc .iaload 1 nx) (k : vp_in i L → B = some (zOut X) → zAW X nx ls (.int (xs i.toNatClampNeg) :: st) μ) (hf : zG i L B = some (zOut X)) : zAW X pc ls (.int i :: .ref 89 :: st) μ := by
  obtain ⟨h1, rfl⟩ := hd
  obtain ⟨h2, h3⟩ := zG_some hf
  intro H locs la hP hS hl
  exact va_sld hC.1 hC.2.1 hs.1 hs.2.1 hs.2.2 hS h2 h1 (k h2 h3 H locs la hP hS hl)
theorem zs_slen {X : zX} {own : String} {cc : ByteArray} {nL lv pc nx : Nat} {ls : List (Option Value)} {st : List Value} {μ : zMem} {L : Nat} {xs : Nat → Int32} (hC : zCx X own cc nL lv) (hs : zScr X L xs) (hd : zDC cc pc .arraylength 1 nx) (k : zAW X nx ls (.int (Int32.ofNat L) :: st) μ) : zAW X pc ls (.ref 89 :: st) μ := by
  obtain ⟨h1, rfl⟩ := hd
  intro H locs la hP hS hl
  exact va_slen hC.1 hC.2.1 hs.1 hs.2.1 hs.2.2 hS h1 (k H locs la hP hS hl)
theorem cw_X11_person : zCw yX11_person cX11_person 4 (some .boolean) 3 := ⟨zT_mem 76 (by decide +kernel) rfl, zT_mem 404 (by decide +kernel) rfl, by decide +kernel, by decide +kernel, by decide +kernel, by decide⟩
theorem cl_RL_13 : Cond.methodLink "WhisperPressLaw" 13 yX11_person ∈ zT ∧ Cond.instanceMethod yX11_person ∈ zT ∧ Cond.selects yX11_person.cls yX11_person yX11_person ∈ zT := ⟨zT_mem 401 (by decide +kernel) rfl, zT_mem 402 (by decide +kernel) rfl, zT_mem 403 (by decide +kernel) rfl⟩
theorem cw_X12_person : zCw yX12_person cX12_person 4 (some .boolean) 3 := ⟨zT_mem 88 (by decide +kernel) rfl, zT_mem 1131 (by decide +kernel) rfl, by decide +kernel, by decide +kernel, by decide +kernel, by decide⟩
theorem cl_RL_17 : Cond.methodLink "WhisperPressLaw" 17 yX12_person ∈ zT ∧ Cond.instanceMethod yX12_person ∈ zT ∧ Cond.selects yX12_person.cls yX12_person yX12_person ∈ zT := ⟨zT_mem 1128 (by decide +kernel) rfl, zT_mem 1129 (by decide +kernel) rfl, zT_mem 1130 (by decide +kernel) rfl⟩
theorem cw_X11_feed : zCw yX11_feed cX11_feed 6 (some .int) 5 := ⟨zT_mem 76 (by decide +kernel) rfl, zT_mem 423 (by decide +kernel) rfl, by decide +kernel, by decide +kernel, by decide +kernel, by decide⟩
theorem cl_RL_18 : Cond.methodLink "WhisperPressLaw" 18 yX11_feed ∈ zT ∧ Cond.instanceMethod yX11_feed ∈ zT ∧ Cond.selects yX11_feed.cls yX11_feed yX11_feed ∈ zT := ⟨zT_mem 420 (by decide +kernel) rfl, zT_mem 421 (by decide +kernel) rfl, zT_mem 422 (by decide +kernel) rfl⟩
theorem cw_X12_feed : zCw yX12_feed cX12_feed 6 (some .int) 5 := ⟨zT_mem 88 (by decide +kernel) rfl, zT_mem 1139 (by decide +kernel) rfl, by decide +kernel, by decide +kernel, by decide +kernel, by decide⟩
theorem cl_RL_22 : Cond.methodLink "WhisperPressLaw" 22 yX12_feed ∈ zT ∧ Cond.instanceMethod yX12_feed ∈ zT ∧ Cond.selects yX12_feed.cls yX12_feed yX12_feed ∈ zT := ⟨zT_mem 1136 (by decide +kernel) rfl, zT_mem 1137 (by decide +kernel) rfl, zT_mem 1138 (by decide +kernel) rfl⟩
theorem cw_X11_law : zCw yX11_law cX11_law 3 (some .int) 1 := ⟨zT_mem 76 (by decide +kernel) rfl, zT_mem 431 (by decide +kernel) rfl, by decide +kernel, by decide +kernel, by decide +kernel, by decide⟩
theorem cl_RL_23 : Cond.methodLink "WhisperPressLaw" 23 yX11_law ∈ zT ∧ Cond.instanceMethod yX11_law ∈ zT ∧ Cond.selects yX11_law.cls yX11_law yX11_law ∈ zT := ⟨zT_mem 428 (by decide +kernel) rfl, zT_mem 429 (by decide +kernel) rfl, zT_mem 430 (by decide +kernel) rfl⟩
theorem cw_X12_law : zCw yX12_law cX12_law 4 (some .int) 1 := ⟨zT_mem 88 (by decide +kernel) rfl, zT_mem 1147 (by decide +kernel) rfl, by decide +kernel, by decide +kernel, by decide +kernel, by decide⟩
theorem cl_RL_27 : Cond.methodLink "WhisperPressLaw" 27 yX12_law ∈ zT ∧ Cond.instanceMethod yX12_law ∈ zT ∧ Cond.selects yX12_law.cls yX12_law yX12_law ∈ zT := ⟨zT_mem 1144 (by decide +kernel) rfl, zT_mem 1145 (by decide +kernel) rfl, zT_mem 1146 (by decide +kernel) rfl⟩
theorem cw_X11_gossip : zCw yX11_gossip cX11_gossip 3 (some .int) 1 := ⟨zT_mem 76 (by decide +kernel) rfl, zT_mem 515 (by decide +kernel) rfl, by decide +kernel, by decide +kernel, by decide +kernel, by decide⟩
theorem cl_RL_28 : Cond.methodLink "WhisperPressLaw" 28 yX11_gossip ∈ zT ∧ Cond.instanceMethod yX11_gossip ∈ zT ∧ Cond.selects yX11_gossip.cls yX11_gossip yX11_gossip ∈ zT := ⟨zT_mem 512 (by decide +kernel) rfl, zT_mem 513 (by decide +kernel) rfl, zT_mem 514 (by decide +kernel) rfl⟩
theorem cw_X12_gossip : zCw yX12_gossip cX12_gossip 3 (some .int) 1 := ⟨zT_mem 88 (by decide +kernel) rfl, zT_mem 1234 (by decide +kernel) rfl, by decide +kernel, by decide +kernel, by decide +kernel, by decide⟩
theorem cl_RL_31 : Cond.methodLink "WhisperPressLaw" 31 yX12_gossip ∈ zT ∧ Cond.instanceMethod yX12_gossip ∈ zT ∧ Cond.selects yX12_gossip.cls yX12_gossip yX12_gossip ∈ zT := ⟨zT_mem 1231 (by decide +kernel) rfl, zT_mem 1232 (by decide +kernel) rfl, zT_mem 1233 (by decide +kernel) rfl⟩
theorem cw_X11_copy : zCw yX11_copy cX11_copy 4 (some .int) 1 := ⟨zT_mem 76 (by decide +kernel) rfl, zT_mem 556 (by decide +kernel) rfl, by decide +kernel, by decide +kernel, by decide +kernel, by decide⟩
theorem cl_RL_32 : Cond.methodLink "WhisperPressLaw" 32 yX11_copy ∈ zT ∧ Cond.instanceMethod yX11_copy ∈ zT ∧ Cond.selects yX11_copy.cls yX11_copy yX11_copy ∈ zT := ⟨zT_mem 553 (by decide +kernel) rfl, zT_mem 554 (by decide +kernel) rfl, zT_mem 555 (by decide +kernel) rfl⟩
theorem cw_X12_copy : zCw yX12_copy cX12_copy 4 (some .int) 1 := ⟨zT_mem 88 (by decide +kernel) rfl, zT_mem 1265 (by decide +kernel) rfl, by decide +kernel, by decide +kernel, by decide +kernel, by decide⟩
theorem cl_RL_35 : Cond.methodLink "WhisperPressLaw" 35 yX12_copy ∈ zT ∧ Cond.instanceMethod yX12_copy ∈ zT ∧ Cond.selects yX12_copy.cls yX12_copy yX12_copy ∈ zT := ⟨zT_mem 1262 (by decide +kernel) rfl, zT_mem 1263 (by decide +kernel) rfl, zT_mem 1264 (by decide +kernel) rfl⟩
theorem cw_X11_weeks : zCw yX11_weeks cX11_weeks 2 (some .int) 1 := ⟨zT_mem 76 (by decide +kernel) rfl, zT_mem 584 (by decide +kernel) rfl, by decide +kernel, by decide +kernel, by decide +kernel, by decide⟩
theorem cl_RL_36 : Cond.methodLink "WhisperPressLaw" 36 yX11_weeks ∈ zT ∧ Cond.instanceMethod yX11_weeks ∈ zT ∧ Cond.selects yX11_weeks.cls yX11_weeks yX11_weeks ∈ zT := ⟨zT_mem 581 (by decide +kernel) rfl, zT_mem 582 (by decide +kernel) rfl, zT_mem 583 (by decide +kernel) rfl⟩
theorem cw_X12_weeks : zCw yX12_weeks cX12_weeks 2 (some .int) 1 := ⟨zT_mem 88 (by decide +kernel) rfl, zT_mem 1273 (by decide +kernel) rfl, by decide +kernel, by decide +kernel, by decide +kernel, by decide⟩
theorem cl_RL_39 : Cond.methodLink "WhisperPressLaw" 39 yX12_weeks ∈ zT ∧ Cond.instanceMethod yX12_weeks ∈ zT ∧ Cond.selects yX12_weeks.cls yX12_weeks yX12_weeks ∈ zT := ⟨zT_mem 1270 (by decide +kernel) rfl, zT_mem 1271 (by decide +kernel) rfl, zT_mem 1272 (by decide +kernel) rfl⟩
theorem cw_X11_tried : zCw yX11_tried cX11_tried 5 (some .int) 2 := ⟨zT_mem 76 (by decide +kernel) rfl, zT_mem 695 (by decide +kernel) rfl, by decide +kernel, by decide +kernel, by decide +kernel, by decide⟩
theorem cl_RL_40 : Cond.methodLink "WhisperPressLaw" 40 yX11_tried ∈ zT ∧ Cond.instanceMethod yX11_tried ∈ zT ∧ Cond.selects yX11_tried.cls yX11_tried yX11_tried ∈ zT := ⟨zT_mem 692 (by decide +kernel) rfl, zT_mem 693 (by decide +kernel) rfl, zT_mem 694 (by decide +kernel) rfl⟩
theorem cw_X12_tried : zCw yX12_tried cX12_tried 4 (some .int) 2 := ⟨zT_mem 88 (by decide +kernel) rfl, zT_mem 1333 (by decide +kernel) rfl, by decide +kernel, by decide +kernel, by decide +kernel, by decide⟩
theorem cl_RL_44 : Cond.methodLink "WhisperPressLaw" 44 yX12_tried ∈ zT ∧ Cond.instanceMethod yX12_tried ∈ zT ∧ Cond.selects yX12_tried.cls yX12_tried yX12_tried ∈ zT := ⟨zT_mem 1330 (by decide +kernel) rfl, zT_mem 1331 (by decide +kernel) rfl, zT_mem 1332 (by decide +kernel) rfl⟩
theorem cw_X11_personIs : zCw yX11_personIs cX11_personIs 3 (some .int) 2 := ⟨zT_mem 76 (by decide +kernel) rfl, zT_mem 721 (by decide +kernel) rfl, by decide +kernel, by decide +kernel, by decide +kernel, by decide⟩
theorem cl_RL_45 : Cond.methodLink "WhisperPressLaw" 45 yX11_personIs ∈ zT ∧ Cond.instanceMethod yX11_personIs ∈ zT ∧ Cond.selects yX11_personIs.cls yX11_personIs yX11_personIs ∈ zT := ⟨zT_mem 718 (by decide +kernel) rfl, zT_mem 719 (by decide +kernel) rfl, zT_mem 720 (by decide +kernel) rfl⟩
theorem cw_X12_personIs : zCw yX12_personIs cX12_personIs 3 (some .int) 2 := ⟨zT_mem 88 (by decide +kernel) rfl, zT_mem 1349 (by decide +kernel) rfl, by decide +kernel, by decide +kernel, by decide +kernel, by decide⟩
theorem cl_RL_48 : Cond.methodLink "WhisperPressLaw" 48 yX12_personIs ∈ zT ∧ Cond.instanceMethod yX12_personIs ∈ zT ∧ Cond.selects yX12_personIs.cls yX12_personIs yX12_personIs ∈ zT := ⟨zT_mem 1346 (by decide +kernel) rfl, zT_mem 1347 (by decide +kernel) rfl, zT_mem 1348 (by decide +kernel) rfl⟩
theorem cw_X11_allKnow : zCw yX11_allKnow cX11_allKnow 4 (some .int) 2 := ⟨zT_mem 76 (by decide +kernel) rfl, zT_mem 727 (by decide +kernel) rfl, by decide +kernel, by decide +kernel, by decide +kernel, by decide⟩
theorem cl_RL_49 : Cond.methodLink "WhisperPressLaw" 49 yX11_allKnow ∈ zT ∧ Cond.instanceMethod yX11_allKnow ∈ zT ∧ Cond.selects yX11_allKnow.cls yX11_allKnow yX11_allKnow ∈ zT := ⟨zT_mem 724 (by decide +kernel) rfl, zT_mem 725 (by decide +kernel) rfl, zT_mem 726 (by decide +kernel) rfl⟩
theorem cw_X12_allKnow : zCw yX12_allKnow cX12_allKnow 5 (some .int) 2 := ⟨zT_mem 88 (by decide +kernel) rfl, zT_mem 1353 (by decide +kernel) rfl, by decide +kernel, by decide +kernel, by decide +kernel, by decide⟩
theorem cl_RL_52 : Cond.methodLink "WhisperPressLaw" 52 yX12_allKnow ∈ zT ∧ Cond.instanceMethod yX12_allKnow ∈ zT ∧ Cond.selects yX12_allKnow.cls yX12_allKnow yX12_allKnow ∈ zT := ⟨zT_mem 1350 (by decide +kernel) rfl, zT_mem 1351 (by decide +kernel) rfl, zT_mem 1352 (by decide +kernel) rfl⟩
theorem cw_X11_whose : zCw yX11_whose cX11_whose 2 (some .int) 1 := ⟨zT_mem 76 (by decide +kernel) rfl, zT_mem 734 (by decide +kernel) rfl, by decide +kernel, by decide +kernel, by decide +kernel, by decide⟩
theorem cl_RL_53 : Cond.methodLink "WhisperPressLaw" 53 yX11_whose ∈ zT ∧ Cond.instanceMethod yX11_whose ∈ zT ∧ Cond.selects yX11_whose.cls yX11_whose yX11_whose ∈ zT := ⟨zT_mem 731 (by decide +kernel) rfl, zT_mem 732 (by decide +kernel) rfl, zT_mem 733 (by decide +kernel) rfl⟩
theorem cl_RL_56 : Cond.methodLink "WhisperPressLaw" 56 yX12_whose ∈ zT ∧ Cond.instanceMethod yX12_whose ∈ zT ∧ Cond.selects yX12_whose.cls yX12_whose yX12_whose ∈ zT := ⟨zT_mem 1361 (by decide +kernel) rfl, zT_mem 1362 (by decide +kernel) rfl, zT_mem 1363 (by decide +kernel) rfl⟩
theorem cw_X11_alone : zCw yX11_alone cX11_alone 4 (some .int) 0 := ⟨zT_mem 76 (by decide +kernel) rfl, zT_mem 742 (by decide +kernel) rfl, by decide +kernel, by decide +kernel, by decide +kernel, by decide⟩
theorem cl_RL_57 : Cond.methodLink "WhisperPressLaw" 57 yX11_alone ∈ zT ∧ Cond.instanceMethod yX11_alone ∈ zT ∧ Cond.selects yX11_alone.cls yX11_alone yX11_alone ∈ zT := ⟨zT_mem 739 (by decide +kernel) rfl, zT_mem 740 (by decide +kernel) rfl, zT_mem 741 (by decide +kernel) rfl⟩
theorem cw_X12_alone : zCw yX12_alone cX12_alone 3 (some .int) 0 := ⟨zT_mem 88 (by decide +kernel) rfl, zT_mem 1368 (by decide +kernel) rfl, by decide +kernel, by decide +kernel, by decide +kernel, by decide⟩
theorem cl_RL_61 : Cond.methodLink "WhisperPressLaw" 61 yX12_alone ∈ zT ∧ Cond.instanceMethod yX12_alone ∈ zT ∧ Cond.selects yX12_alone.cls yX12_alone yX12_alone ∈ zT := ⟨zT_mem 1365 (by decide +kernel) rfl, zT_mem 1366 (by decide +kernel) rfl, zT_mem 1367 (by decide +kernel) rfl⟩
theorem cw_X11_enough : zCw yX11_enough cX11_enough 3 (some .int) 1 := ⟨zT_mem 76 (by decide +kernel) rfl, zT_mem 746 (by decide +kernel) rfl, by decide +kernel, by decide +kernel, by decide +kernel, by decide⟩
theorem cl_RL_62 : Cond.methodLink "WhisperPressLaw" 62 yX11_enough ∈ zT ∧ Cond.instanceMethod yX11_enough ∈ zT ∧ Cond.selects yX11_enough.cls yX11_enough yX11_enough ∈ zT := ⟨zT_mem 743 (by decide +kernel) rfl, zT_mem 744 (by decide +kernel) rfl, zT_mem 745 (by decide +kernel) rfl⟩
theorem cw_X12_enough : zCw yX12_enough cX12_enough 7 (some .int) 1 := ⟨zT_mem 88 (by decide +kernel) rfl, zT_mem 1373 (by decide +kernel) rfl, by decide +kernel, by decide +kernel, by decide +kernel, by decide⟩
theorem cl_RL_65 : Cond.methodLink "WhisperPressLaw" 65 yX12_enough ∈ zT ∧ Cond.instanceMethod yX12_enough ∈ zT ∧ Cond.selects yX12_enough.cls yX12_enough yX12_enough ∈ zT := ⟨zT_mem 1370 (by decide +kernel) rfl, zT_mem 1371 (by decide +kernel) rfl, zT_mem 1372 (by decide +kernel) rfl⟩
theorem cw_X11_backNumber : zCw yX11_backNumber cX11_backNumber 7 (some .int) 2 := ⟨zT_mem 76 (by decide +kernel) rfl, zT_mem 760 (by decide +kernel) rfl, by decide +kernel, by decide +kernel, by decide +kernel, by decide⟩
theorem cl_RL_66 : Cond.methodLink "WhisperPressLaw" 66 yX11_backNumber ∈ zT ∧ Cond.instanceMethod yX11_backNumber ∈ zT ∧ Cond.selects yX11_backNumber.cls yX11_backNumber yX11_backNumber ∈ zT := ⟨zT_mem 757 (by decide +kernel) rfl, zT_mem 758 (by decide +kernel) rfl, zT_mem 759 (by decide +kernel) rfl⟩
theorem cw_X12_backNumber : zCw yX12_backNumber cX12_backNumber 4 (some .int) 2 := ⟨zT_mem 88 (by decide +kernel) rfl, zT_mem 1377 (by decide +kernel) rfl, by decide +kernel, by decide +kernel, by decide +kernel, by decide⟩
theorem cl_RL_69 : Cond.methodLink "WhisperPressLaw" 69 yX12_backNumber ∈ zT ∧ Cond.instanceMethod yX12_backNumber ∈ zT ∧ Cond.selects yX12_backNumber.cls yX12_backNumber yX12_backNumber ∈ zT := ⟨zT_mem 1374 (by decide +kernel) rfl, zT_mem 1375 (by decide +kernel) rfl, zT_mem 1376 (by decide +kernel) rfl⟩
theorem cw_X11_blackmail : zCw yX11_blackmail cX11_blackmail 5 (some .int) 2 := ⟨zT_mem 76 (by decide +kernel) rfl, zT_mem 778 (by decide +kernel) rfl, by decide +kernel, by decide +kernel, by decide +kernel, by decide⟩
theorem cl_RL_70 : Cond.methodLink "WhisperPressLaw" 70 yX11_blackmail ∈ zT ∧ Cond.instanceMethod yX11_blackmail ∈ zT ∧ Cond.selects yX11_blackmail.cls yX11_blackmail yX11_blackmail ∈ zT := ⟨zT_mem 775 (by decide +kernel) rfl, zT_mem 776 (by decide +kernel) rfl, zT_mem 777 (by decide +kernel) rfl⟩
theorem cw_X12_blackmail : zCw yX12_blackmail cX12_blackmail 3 (some .int) 2 := ⟨zT_mem 88 (by decide +kernel) rfl, zT_mem 1389 (by decide +kernel) rfl, by decide +kernel, by decide +kernel, by decide +kernel, by decide⟩
theorem cl_RL_73 : Cond.methodLink "WhisperPressLaw" 73 yX12_blackmail ∈ zT ∧ Cond.instanceMethod yX12_blackmail ∈ zT ∧ Cond.selects yX12_blackmail.cls yX12_blackmail yX12_blackmail ∈ zT := ⟨zT_mem 1386 (by decide +kernel) rfl, zT_mem 1387 (by decide +kernel) rfl, zT_mem 1388 (by decide +kernel) rfl⟩
theorem cw_X11_mostPrinted : zCw yX11_mostPrinted cX11_mostPrinted 4 (some .int) 1 := ⟨zT_mem 76 (by decide +kernel) rfl, zT_mem 786 (by decide +kernel) rfl, by decide +kernel, by decide +kernel, by decide +kernel, by decide⟩
theorem cl_RL_74 : Cond.methodLink "WhisperPressLaw" 74 yX11_mostPrinted ∈ zT ∧ Cond.instanceMethod yX11_mostPrinted ∈ zT ∧ Cond.selects yX11_mostPrinted.cls yX11_mostPrinted yX11_mostPrinted ∈ zT := ⟨zT_mem 783 (by decide +kernel) rfl, zT_mem 784 (by decide +kernel) rfl, zT_mem 785 (by decide +kernel) rfl⟩
theorem cw_X12_mostPrinted : zCw yX12_mostPrinted cX12_mostPrinted 5 (some .int) 1 := ⟨zT_mem 88 (by decide +kernel) rfl, zT_mem 1405 (by decide +kernel) rfl, by decide +kernel, by decide +kernel, by decide +kernel, by decide⟩
theorem cl_RL_77 : Cond.methodLink "WhisperPressLaw" 77 yX12_mostPrinted ∈ zT ∧ Cond.instanceMethod yX12_mostPrinted ∈ zT ∧ Cond.selects yX12_mostPrinted.cls yX12_mostPrinted yX12_mostPrinted ∈ zT := ⟨zT_mem 1402 (by decide +kernel) rfl, zT_mem 1403 (by decide +kernel) rfl, zT_mem 1404 (by decide +kernel) rfl⟩
theorem cw_X11_silent : zCw yX11_silent cX11_silent 6 (some .int) 1 := ⟨zT_mem 76 (by decide +kernel) rfl, zT_mem 807 (by decide +kernel) rfl, by decide +kernel, by decide +kernel, by decide +kernel, by decide⟩
theorem cl_RL_78 : Cond.methodLink "WhisperPressLaw" 78 yX11_silent ∈ zT ∧ Cond.instanceMethod yX11_silent ∈ zT ∧ Cond.selects yX11_silent.cls yX11_silent yX11_silent ∈ zT := ⟨zT_mem 804 (by decide +kernel) rfl, zT_mem 805 (by decide +kernel) rfl, zT_mem 806 (by decide +kernel) rfl⟩
theorem cw_X12_silent : zCw yX12_silent cX12_silent 5 (some .int) 1 := ⟨zT_mem 88 (by decide +kernel) rfl, zT_mem 1357 (by decide +kernel) rfl, by decide +kernel, by decide +kernel, by decide +kernel, by decide⟩
theorem cl_RL_81 : Cond.methodLink "WhisperPressLaw" 81 yX12_silent ∈ zT ∧ Cond.instanceMethod yX12_silent ∈ zT ∧ Cond.selects yX12_silent.cls yX12_silent yX12_silent ∈ zT := ⟨zT_mem 1354 (by decide +kernel) rfl, zT_mem 1355 (by decide +kernel) rfl, zT_mem 1356 (by decide +kernel) rfl⟩
theorem cw_X11_pair : zCw yX11_pair cX11_pair 4 (some .int) 1 := ⟨zT_mem 76 (by decide +kernel) rfl, zT_mem 812 (by decide +kernel) rfl, by decide +kernel, by decide +kernel, by decide +kernel, by decide⟩
theorem cl_RL_82 : Cond.methodLink "WhisperPressLaw" 82 yX11_pair ∈ zT ∧ Cond.instanceMethod yX11_pair ∈ zT ∧ Cond.selects yX11_pair.cls yX11_pair yX11_pair ∈ zT := ⟨zT_mem 809 (by decide +kernel) rfl, zT_mem 810 (by decide +kernel) rfl, zT_mem 811 (by decide +kernel) rfl⟩
theorem cw_X12_pair : zCw yX12_pair cX12_pair 8 (some .int) 1 := ⟨zT_mem 88 (by decide +kernel) rfl, zT_mem 1413 (by decide +kernel) rfl, by decide +kernel, by decide +kernel, by decide +kernel, by decide⟩
theorem cl_RL_85 : Cond.methodLink "WhisperPressLaw" 85 yX12_pair ∈ zT ∧ Cond.instanceMethod yX12_pair ∈ zT ∧ Cond.selects yX12_pair.cls yX12_pair yX12_pair ∈ zT := ⟨zT_mem 1410 (by decide +kernel) rfl, zT_mem 1411 (by decide +kernel) rfl, zT_mem 1412 (by decide +kernel) rfl⟩
theorem cw_X11_reached : zCw yX11_reached cX11_reached 2 (some .int) 1 := ⟨zT_mem 76 (by decide +kernel) rfl, zT_mem 820 (by decide +kernel) rfl, by decide +kernel, by decide +kernel, by decide +kernel, by decide⟩
theorem cl_RL_86 : Cond.methodLink "WhisperPressLaw" 86 yX11_reached ∈ zT ∧ Cond.instanceMethod yX11_reached ∈ zT ∧ Cond.selects yX11_reached.cls yX11_reached yX11_reached ∈ zT := ⟨zT_mem 817 (by decide +kernel) rfl, zT_mem 818 (by decide +kernel) rfl, zT_mem 819 (by decide +kernel) rfl⟩
theorem cw_X12_reached : zCw yX12_reached cX12_reached 6 (some .int) 1 := ⟨zT_mem 88 (by decide +kernel) rfl, zT_mem 1417 (by decide +kernel) rfl, by decide +kernel, by decide +kernel, by decide +kernel, by decide⟩
theorem cl_RL_89 : Cond.methodLink "WhisperPressLaw" 89 yX12_reached ∈ zT ∧ Cond.instanceMethod yX12_reached ∈ zT ∧ Cond.selects yX12_reached.cls yX12_reached yX12_reached ∈ zT := ⟨zT_mem 1414 (by decide +kernel) rfl, zT_mem 1415 (by decide +kernel) rfl, zT_mem 1416 (by decide +kernel) rfl⟩
theorem cw_X11_lineOf : zCw yX11_lineOf cX11_lineOf 3 (some .int) 2 := ⟨zT_mem 76 (by decide +kernel) rfl, zT_mem 833 (by decide +kernel) rfl, by decide +kernel, by decide +kernel, by decide +kernel, by decide⟩
theorem cl_RL_90 : Cond.methodLink "WhisperPressLaw" 90 yX11_lineOf ∈ zT ∧ Cond.instanceMethod yX11_lineOf ∈ zT ∧ Cond.selects yX11_lineOf.cls yX11_lineOf yX11_lineOf ∈ zT := ⟨zT_mem 830 (by decide +kernel) rfl, zT_mem 831 (by decide +kernel) rfl, zT_mem 832 (by decide +kernel) rfl⟩
theorem cw_X12_lineOf : zCw yX12_lineOf cX12_lineOf 5 (some .int) 2 := ⟨zT_mem 88 (by decide +kernel) rfl, zT_mem 1430 (by decide +kernel) rfl, by decide +kernel, by decide +kernel, by decide +kernel, by decide⟩
theorem cl_RL_93 : Cond.methodLink "WhisperPressLaw" 93 yX12_lineOf ∈ zT ∧ Cond.instanceMethod yX12_lineOf ∈ zT ∧ Cond.selects yX12_lineOf.cls yX12_lineOf yX12_lineOf ∈ zT := ⟨zT_mem 1427 (by decide +kernel) rfl, zT_mem 1428 (by decide +kernel) rfl, zT_mem 1429 (by decide +kernel) rfl⟩
theorem cw_X11_copyIs : zCw yX11_copyIs cX11_copyIs 2 (some .int) 1 := ⟨zT_mem 76 (by decide +kernel) rfl, zT_mem 849 (by decide +kernel) rfl, by decide +kernel, by decide +kernel, by decide +kernel, by decide⟩
theorem cl_RL_94 : Cond.methodLink "WhisperPressLaw" 94 yX11_copyIs ∈ zT ∧ Cond.instanceMethod yX11_copyIs ∈ zT ∧ Cond.selects yX11_copyIs.cls yX11_copyIs yX11_copyIs ∈ zT := ⟨zT_mem 846 (by decide +kernel) rfl, zT_mem 847 (by decide +kernel) rfl, zT_mem 848 (by decide +kernel) rfl⟩
theorem cw_X12_copyIs : zCw yX12_copyIs cX12_copyIs 6 (some .int) 1 := ⟨zT_mem 88 (by decide +kernel) rfl, zT_mem 1434 (by decide +kernel) rfl, by decide +kernel, by decide +kernel, by decide +kernel, by decide⟩
theorem cl_RL_97 : Cond.methodLink "WhisperPressLaw" 97 yX12_copyIs ∈ zT ∧ Cond.instanceMethod yX12_copyIs ∈ zT ∧ Cond.selects yX12_copyIs.cls yX12_copyIs yX12_copyIs ∈ zT := ⟨zT_mem 1431 (by decide +kernel) rfl, zT_mem 1432 (by decide +kernel) rfl, zT_mem 1433 (by decide +kernel) rfl⟩
theorem cw_X11_set : zCw yX11_set cX11_set 3 (some .int) 2 := ⟨zT_mem 76 (by decide +kernel) rfl, zT_mem 870 (by decide +kernel) rfl, by decide +kernel, by decide +kernel, by decide +kernel, by decide⟩
theorem cl_RL_98 : Cond.methodLink "WhisperPressLaw" 98 yX11_set ∈ zT ∧ Cond.instanceMethod yX11_set ∈ zT ∧ Cond.selects yX11_set.cls yX11_set yX11_set ∈ zT := ⟨zT_mem 867 (by decide +kernel) rfl, zT_mem 868 (by decide +kernel) rfl, zT_mem 869 (by decide +kernel) rfl⟩
theorem cw_X12_set : zCw yX12_set cX12_set 3 (some .int) 2 := ⟨zT_mem 88 (by decide +kernel) rfl, zT_mem 1421 (by decide +kernel) rfl, by decide +kernel, by decide +kernel, by decide +kernel, by decide⟩
theorem cl_RL_101 : Cond.methodLink "WhisperPressLaw" 101 yX12_set ∈ zT ∧ Cond.instanceMethod yX12_set ∈ zT ∧ Cond.selects yX12_set.cls yX12_set yX12_set ∈ zT := ⟨zT_mem 1418 (by decide +kernel) rfl, zT_mem 1419 (by decide +kernel) rfl, zT_mem 1420 (by decide +kernel) rfl⟩
theorem cw_X11_type : zCw yX11_type cX11_type 2 (some .int) 1 := ⟨zT_mem 76 (by decide +kernel) rfl, zT_mem 874 (by decide +kernel) rfl, by decide +kernel, by decide +kernel, by decide +kernel, by decide⟩
theorem cl_RL_102 : Cond.methodLink "WhisperPressLaw" 102 yX11_type ∈ zT ∧ Cond.instanceMethod yX11_type ∈ zT ∧ Cond.selects yX11_type.cls yX11_type yX11_type ∈ zT := ⟨zT_mem 871 (by decide +kernel) rfl, zT_mem 872 (by decide +kernel) rfl, zT_mem 873 (by decide +kernel) rfl⟩
theorem cw_X12_type : zCw yX12_type cX12_type 2 (some .int) 1 := ⟨zT_mem 88 (by decide +kernel) rfl, zT_mem 1438 (by decide +kernel) rfl, by decide +kernel, by decide +kernel, by decide +kernel, by decide⟩
theorem cl_RL_105 : Cond.methodLink "WhisperPressLaw" 105 yX12_type ∈ zT ∧ Cond.instanceMethod yX12_type ∈ zT ∧ Cond.selects yX12_type.cls yX12_type yX12_type ∈ zT := ⟨zT_mem 1435 (by decide +kernel) rfl, zT_mem 1436 (by decide +kernel) rfl, zT_mem 1437 (by decide +kernel) rfl⟩
theorem cw_X11_bought : zCw yX11_bought cX11_bought 2 (some .int) 1 := ⟨zT_mem 76 (by decide +kernel) rfl, zT_mem 879 (by decide +kernel) rfl, by decide +kernel, by decide +kernel, by decide +kernel, by decide⟩
theorem cl_RL_106 : Cond.methodLink "WhisperPressLaw" 106 yX11_bought ∈ zT ∧ Cond.instanceMethod yX11_bought ∈ zT ∧ Cond.selects yX11_bought.cls yX11_bought yX11_bought ∈ zT := ⟨zT_mem 876 (by decide +kernel) rfl, zT_mem 877 (by decide +kernel) rfl, zT_mem 878 (by decide +kernel) rfl⟩
theorem cw_X12_bought : zCw yX12_bought cX12_bought 4 (some .int) 1 := ⟨zT_mem 88 (by decide +kernel) rfl, zT_mem 1442 (by decide +kernel) rfl, by decide +kernel, by decide +kernel, by decide +kernel, by decide⟩
theorem cl_RL_109 : Cond.methodLink "WhisperPressLaw" 109 yX12_bought ∈ zT ∧ Cond.instanceMethod yX12_bought ∈ zT ∧ Cond.selects yX12_bought.cls yX12_bought yX12_bought ∈ zT := ⟨zT_mem 1439 (by decide +kernel) rfl, zT_mem 1440 (by decide +kernel) rfl, zT_mem 1441 (by decide +kernel) rfl⟩
theorem cw_X11_nuns : zCw yX11_nuns cX11_nuns 4 (some .int) 2 := ⟨zT_mem 76 (by decide +kernel) rfl, zT_mem 884 (by decide +kernel) rfl, by decide +kernel, by decide +kernel, by decide +kernel, by decide⟩
theorem cl_RL_110 : Cond.methodLink "WhisperPressLaw" 110 yX11_nuns ∈ zT ∧ Cond.instanceMethod yX11_nuns ∈ zT ∧ Cond.selects yX11_nuns.cls yX11_nuns yX11_nuns ∈ zT := ⟨zT_mem 881 (by decide +kernel) rfl, zT_mem 882 (by decide +kernel) rfl, zT_mem 883 (by decide +kernel) rfl⟩
theorem cw_X12_nuns : zCw yX12_nuns cX12_nuns 11 (some .int) 2 := ⟨zT_mem 88 (by decide +kernel) rfl, zT_mem 1446 (by decide +kernel) rfl, by decide +kernel, by decide +kernel, by decide +kernel, by decide⟩
theorem cl_RL_113 : Cond.methodLink "WhisperPressLaw" 113 yX12_nuns ∈ zT ∧ Cond.instanceMethod yX12_nuns ∈ zT ∧ Cond.selects yX12_nuns.cls yX12_nuns yX12_nuns ∈ zT := ⟨zT_mem 1443 (by decide +kernel) rfl, zT_mem 1444 (by decide +kernel) rfl, zT_mem 1445 (by decide +kernel) rfl⟩
theorem cw_X11_space : zCw yX11_space cX11_space 6 (some .int) 3 := ⟨zT_mem 76 (by decide +kernel) rfl, zT_mem 901 (by decide +kernel) rfl, by decide +kernel, by decide +kernel, by decide +kernel, by decide⟩
theorem cl_RL_114 : Cond.methodLink "WhisperPressLaw" 114 yX11_space ∈ zT ∧ Cond.instanceMethod yX11_space ∈ zT ∧ Cond.selects yX11_space.cls yX11_space yX11_space ∈ zT := ⟨zT_mem 898 (by decide +kernel) rfl, zT_mem 899 (by decide +kernel) rfl, zT_mem 900 (by decide +kernel) rfl⟩
theorem cw_X12_space : zCw yX12_space cX12_space 10 (some .int) 3 := ⟨zT_mem 88 (by decide +kernel) rfl, zT_mem 1454 (by decide +kernel) rfl, by decide +kernel, by decide +kernel, by decide +kernel, by decide⟩
theorem cl_RL_118 : Cond.methodLink "WhisperPressLaw" 118 yX12_space ∈ zT ∧ Cond.instanceMethod yX12_space ∈ zT ∧ Cond.selects yX12_space.cls yX12_space yX12_space ∈ zT := ⟨zT_mem 1451 (by decide +kernel) rfl, zT_mem 1452 (by decide +kernel) rfl, zT_mem 1453 (by decide +kernel) rfl⟩
theorem cw_X11_style : zCw yX11_style cX11_style 5 (some .int) 2 := ⟨zT_mem 76 (by decide +kernel) rfl, zT_mem 917 (by decide +kernel) rfl, by decide +kernel, by decide +kernel, by decide +kernel, by decide⟩
theorem cl_RL_119 : Cond.methodLink "WhisperPressLaw" 119 yX11_style ∈ zT ∧ Cond.instanceMethod yX11_style ∈ zT ∧ Cond.selects yX11_style.cls yX11_style yX11_style ∈ zT := ⟨zT_mem 914 (by decide +kernel) rfl, zT_mem 915 (by decide +kernel) rfl, zT_mem 916 (by decide +kernel) rfl⟩
theorem cw_X12_style : zCw yX12_style cX12_style 8 (some .int) 2 := ⟨zT_mem 88 (by decide +kernel) rfl, zT_mem 1458 (by decide +kernel) rfl, by decide +kernel, by decide +kernel, by decide +kernel, by decide⟩
theorem cl_RL_122 : Cond.methodLink "WhisperPressLaw" 122 yX12_style ∈ zT ∧ Cond.instanceMethod yX12_style ∈ zT ∧ Cond.selects yX12_style.cls yX12_style yX12_style ∈ zT := ⟨zT_mem 1455 (by decide +kernel) rfl, zT_mem 1456 (by decide +kernel) rfl, zT_mem 1457 (by decide +kernel) rfl⟩
theorem cw_X11_names : zCw yX11_names cX11_names 4 (some .int) 2 := ⟨zT_mem 76 (by decide +kernel) rfl, zT_mem 931 (by decide +kernel) rfl, by decide +kernel, by decide +kernel, by decide +kernel, by decide⟩
theorem cl_RL_123 : Cond.methodLink "WhisperPressLaw" 123 yX11_names ∈ zT ∧ Cond.instanceMethod yX11_names ∈ zT ∧ Cond.selects yX11_names.cls yX11_names yX11_names ∈ zT := ⟨zT_mem 928 (by decide +kernel) rfl, zT_mem 929 (by decide +kernel) rfl, zT_mem 930 (by decide +kernel) rfl⟩
theorem cw_X12_names : zCw yX12_names cX12_names 8 (some .int) 2 := ⟨zT_mem 88 (by decide +kernel) rfl, zT_mem 1465 (by decide +kernel) rfl, by decide +kernel, by decide +kernel, by decide +kernel, by decide⟩
theorem cl_RL_126 : Cond.methodLink "WhisperPressLaw" 126 yX12_names ∈ zT ∧ Cond.instanceMethod yX12_names ∈ zT ∧ Cond.selects yX12_names.cls yX12_names yX12_names ∈ zT := ⟨zT_mem 1462 (by decide +kernel) rfl, zT_mem 1463 (by decide +kernel) rfl, zT_mem 1464 (by decide +kernel) rfl⟩
theorem cw_X11_duty : zCw yX11_duty cX11_duty 4 (some .int) 2 := ⟨zT_mem 76 (by decide +kernel) rfl, zT_mem 944 (by decide +kernel) rfl, by decide +kernel, by decide +kernel, by decide +kernel, by decide⟩
theorem cl_RL_127 : Cond.methodLink "WhisperPressLaw" 127 yX11_duty ∈ zT ∧ Cond.instanceMethod yX11_duty ∈ zT ∧ Cond.selects yX11_duty.cls yX11_duty yX11_duty ∈ zT := ⟨zT_mem 941 (by decide +kernel) rfl, zT_mem 942 (by decide +kernel) rfl, zT_mem 943 (by decide +kernel) rfl⟩
theorem cw_X12_duty : zCw yX12_duty cX12_duty 7 (some .int) 2 := ⟨zT_mem 88 (by decide +kernel) rfl, zT_mem 1469 (by decide +kernel) rfl, by decide +kernel, by decide +kernel, by decide +kernel, by decide⟩
theorem cl_RL_130 : Cond.methodLink "WhisperPressLaw" 130 yX12_duty ∈ zT ∧ Cond.instanceMethod yX12_duty ∈ zT ∧ Cond.selects yX12_duty.cls yX12_duty yX12_duty ∈ zT := ⟨zT_mem 1466 (by decide +kernel) rfl, zT_mem 1467 (by decide +kernel) rfl, zT_mem 1468 (by decide +kernel) rfl⟩
theorem cw_X11_hands : zCw yX11_hands cX11_hands 4 (some .int) 2 := ⟨zT_mem 76 (by decide +kernel) rfl, zT_mem 951 (by decide +kernel) rfl, by decide +kernel, by decide +kernel, by decide +kernel, by decide⟩
theorem cl_RL_131 : Cond.methodLink "WhisperPressLaw" 131 yX11_hands ∈ zT ∧ Cond.instanceMethod yX11_hands ∈ zT ∧ Cond.selects yX11_hands.cls yX11_hands yX11_hands ∈ zT := ⟨zT_mem 948 (by decide +kernel) rfl, zT_mem 949 (by decide +kernel) rfl, zT_mem 950 (by decide +kernel) rfl⟩
theorem cw_X12_hands : zCw yX12_hands cX12_hands 5 (some .int) 2 := ⟨zT_mem 88 (by decide +kernel) rfl, zT_mem 1473 (by decide +kernel) rfl, by decide +kernel, by decide +kernel, by decide +kernel, by decide⟩
theorem cl_RL_134 : Cond.methodLink "WhisperPressLaw" 134 yX12_hands ∈ zT ∧ Cond.instanceMethod yX12_hands ∈ zT ∧ Cond.selects yX12_hands.cls yX12_hands yX12_hands ∈ zT := ⟨zT_mem 1470 (by decide +kernel) rfl, zT_mem 1471 (by decide +kernel) rfl, zT_mem 1472 (by decide +kernel) rfl⟩
theorem cw_X11_seed : zCw yX11_seed cX11_seed 2 (some .boolean) 1 := ⟨zT_mem 76 (by decide +kernel) rfl, zT_mem 959 (by decide +kernel) rfl, by decide +kernel, by decide +kernel, by decide +kernel, by decide⟩
theorem cl_RL_135 : Cond.methodLink "WhisperPressLaw" 135 yX11_seed ∈ zT ∧ Cond.instanceMethod yX11_seed ∈ zT ∧ Cond.selects yX11_seed.cls yX11_seed yX11_seed ∈ zT := ⟨zT_mem 956 (by decide +kernel) rfl, zT_mem 957 (by decide +kernel) rfl, zT_mem 958 (by decide +kernel) rfl⟩
theorem cw_X12_seed : zCw yX12_seed cX12_seed 2 (some .boolean) 1 := ⟨zT_mem 88 (by decide +kernel) rfl, zT_mem 1477 (by decide +kernel) rfl, by decide +kernel, by decide +kernel, by decide +kernel, by decide⟩
theorem cl_RL_139 : Cond.methodLink "WhisperPressLaw" 139 yX12_seed ∈ zT ∧ Cond.instanceMethod yX12_seed ∈ zT ∧ Cond.selects yX12_seed.cls yX12_seed yX12_seed ∈ zT := ⟨zT_mem 1474 (by decide +kernel) rfl, zT_mem 1475 (by decide +kernel) rfl, zT_mem 1476 (by decide +kernel) rfl⟩
theorem cw_X11_keep : zCw yX11_keep cX11_keep 1 (some .int) 0 := ⟨zT_mem 76 (by decide +kernel) rfl, zT_mem 963 (by decide +kernel) rfl, by decide +kernel, by decide +kernel, by decide +kernel, by decide⟩
theorem cl_RL_140 : Cond.methodLink "WhisperPressLaw" 140 yX11_keep ∈ zT ∧ Cond.instanceMethod yX11_keep ∈ zT ∧ Cond.selects yX11_keep.cls yX11_keep yX11_keep ∈ zT := ⟨zT_mem 960 (by decide +kernel) rfl, zT_mem 961 (by decide +kernel) rfl, zT_mem 962 (by decide +kernel) rfl⟩
theorem cw_X12_keep : zCw yX12_keep cX12_keep 1 (some .int) 0 := ⟨zT_mem 88 (by decide +kernel) rfl, zT_mem 1481 (by decide +kernel) rfl, by decide +kernel, by decide +kernel, by decide +kernel, by decide⟩
theorem cl_RL_143 : Cond.methodLink "WhisperPressLaw" 143 yX12_keep ∈ zT ∧ Cond.instanceMethod yX12_keep ∈ zT ∧ Cond.selects yX12_keep.cls yX12_keep yX12_keep ∈ zT := ⟨zT_mem 1478 (by decide +kernel) rfl, zT_mem 1479 (by decide +kernel) rfl, zT_mem 1480 (by decide +kernel) rfl⟩
theorem cw_X11_undo : zCw yX11_undo cX11_undo 1 (some .boolean) 0 := ⟨zT_mem 76 (by decide +kernel) rfl, zT_mem 967 (by decide +kernel) rfl, by decide +kernel, by decide +kernel, by decide +kernel, by decide⟩
theorem cl_RL_144 : Cond.methodLink "WhisperPressLaw" 144 yX11_undo ∈ zT ∧ Cond.instanceMethod yX11_undo ∈ zT ∧ Cond.selects yX11_undo.cls yX11_undo yX11_undo ∈ zT := ⟨zT_mem 964 (by decide +kernel) rfl, zT_mem 965 (by decide +kernel) rfl, zT_mem 966 (by decide +kernel) rfl⟩
theorem cw_X12_undo : zCw yX12_undo cX12_undo 1 (some .boolean) 0 := ⟨zT_mem 88 (by decide +kernel) rfl, zT_mem 1485 (by decide +kernel) rfl, by decide +kernel, by decide +kernel, by decide +kernel, by decide⟩
theorem cl_RL_148 : Cond.methodLink "WhisperPressLaw" 148 yX12_undo ∈ zT ∧ Cond.instanceMethod yX12_undo ∈ zT ∧ Cond.selects yX12_undo.cls yX12_undo yX12_undo ∈ zT := ⟨zT_mem 1482 (by decide +kernel) rfl, zT_mem 1483 (by decide +kernel) rfl, zT_mem 1484 (by decide +kernel) rfl⟩
theorem cw_X11_check : zCw yX11_check cX11_check 5 (some .int) 1 := ⟨zT_mem 76 (by decide +kernel) rfl, zT_mem 971 (by decide +kernel) rfl, by decide +kernel, by decide +kernel, by decide +kernel, by decide⟩
theorem cl_RL_149 : Cond.methodLink "WhisperPressLaw" 149 yX11_check ∈ zT ∧ Cond.instanceMethod yX11_check ∈ zT ∧ Cond.selects yX11_check.cls yX11_check yX11_check ∈ zT := ⟨zT_mem 968 (by decide +kernel) rfl, zT_mem 969 (by decide +kernel) rfl, zT_mem 970 (by decide +kernel) rfl⟩
theorem cw_X12_check : zCw yX12_check cX12_check 3 (some .int) 1 := ⟨zT_mem 88 (by decide +kernel) rfl, zT_mem 1489 (by decide +kernel) rfl, by decide +kernel, by decide +kernel, by decide +kernel, by decide⟩
theorem cl_RL_152 : Cond.methodLink "WhisperPressLaw" 152 yX12_check ∈ zT ∧ Cond.instanceMethod yX12_check ∈ zT ∧ Cond.selects yX12_check.cls yX12_check yX12_check ∈ zT := ⟨zT_mem 1486 (by decide +kernel) rfl, zT_mem 1487 (by decide +kernel) rfl, zT_mem 1488 (by decide +kernel) rfl⟩
theorem cw_X11_count : zCw yX11_count cX11_count 2 (some .int) 1 := ⟨zT_mem 76 (by decide +kernel) rfl, zT_mem 976 (by decide +kernel) rfl, by decide +kernel, by decide +kernel, by decide +kernel, by decide⟩
theorem cl_RL_153 : Cond.methodLink "WhisperPressLaw" 153 yX11_count ∈ zT ∧ Cond.instanceMethod yX11_count ∈ zT ∧ Cond.selects yX11_count.cls yX11_count yX11_count ∈ zT := ⟨zT_mem 973 (by decide +kernel) rfl, zT_mem 974 (by decide +kernel) rfl, zT_mem 975 (by decide +kernel) rfl⟩
theorem cw_X12_count : zCw yX12_count cX12_count 2 (some .int) 1 := ⟨zT_mem 88 (by decide +kernel) rfl, zT_mem 1493 (by decide +kernel) rfl, by decide +kernel, by decide +kernel, by decide +kernel, by decide⟩
theorem cl_RL_156 : Cond.methodLink "WhisperPressLaw" 156 yX12_count ∈ zT ∧ Cond.instanceMethod yX12_count ∈ zT ∧ Cond.selects yX12_count.cls yX12_count yX12_count ∈ zT := ⟨zT_mem 1490 (by decide +kernel) rfl, zT_mem 1491 (by decide +kernel) rfl, zT_mem 1492 (by decide +kernel) rfl⟩
def fL_law_208 (F L : Nat) (xs : Nat → Int32) (k18 : Int32 → zMem → Option zR) (v3 : Int32) (s0 : Int32) (s1 : Int32) (s2 : Int32) (μ : zMem) : Option zR :=
  zBd (fX11_person F s2 s1 s0 μ) (fun r1 m1 => zG (v3 + (nI 1)) L (zG (v3 + (nI 2)) L (zG (v3 + (nI 3)) L (if (xs (v3 + (nI 3)).toNatClampNeg) = 0 then zBd (fX12_person F (xs (v3 + (nI 1)).toNatClampNeg) (xs (v3 + (nI 2)).toNatClampNeg) (nI 0) m1) (fun r2 m2 => if r1 = r2 then k18 (v3 + (nI 6)) m2 else some ((nI 0), m2)) else zBd (fX12_person F (xs (v3 + (nI 1)).toNatClampNeg) (xs (v3 + (nI 2)).toNatClampNeg) (nI 1) m1) (fun r3 m3 => if r1 = r3 then k18 (v3 + (nI 6)) m3 else some ((nI 0), m3))))))
def fL_law_18 (F L : Nat) (xs : Nat → Int32) : Nat → Int32 → zMem → Option zR
  | 0, _, _ => none
  | n + 1, v3, μ => if ((Int32.ofNat L) - (nI 6)) < v3 then some ((nI 1), μ) else zG v3 L ((if ((xs v3.toNatClampNeg) &&& (nI 63)) = (nI 0) then zG (v3 + (nI 1)) L (zG (v3 + (nI 2)) L (zG (v3 + (nI 3)) L (if (xs (v3 + (nI 3)).toNatClampNeg) = 0 then fL_law_208 F L xs (fL_law_18 F L xs n) v3 (nI 0) (xs (v3 + (nI 2)).toNatClampNeg) (xs (v3 + (nI 1)).toNatClampNeg) μ else fL_law_208 F L xs (fL_law_18 F L xs n) v3 (nI 1) (xs (v3 + (nI 2)).toNatClampNeg) (xs (v3 + (nI 1)).toNatClampNeg) μ))) else if ((xs v3.toNatClampNeg) &&& (nI 63)) = (nI 1) then zG (v3 + (nI 1)) L (zG (v3 + (nI 2)) L (zG (v3 + (nI 3)) L (zG (v3 + (nI 4)) L (zG (v3 + (nI 5)) L (zBd (fX11_feed F (xs (v3 + (nI 1)).toNatClampNeg) (xs (v3 + (nI 2)).toNatClampNeg) (xs (v3 + (nI 3)).toNatClampNeg) (xs (v3 + (nI 4)).toNatClampNeg) (xs (v3 + (nI 5)).toNatClampNeg) μ) (fun r1 m1 => zG (v3 + (nI 1)) L (zG (v3 + (nI 2)) L (zG (v3 + (nI 3)) L (zG (v3 + (nI 4)) L (zG (v3 + (nI 5)) L (zBd (fX12_feed F (xs (v3 + (nI 1)).toNatClampNeg) (xs (v3 + (nI 2)).toNatClampNeg) (xs (v3 + (nI 3)).toNatClampNeg) (xs (v3 + (nI 4)).toNatClampNeg) (xs (v3 + (nI 5)).toNatClampNeg) m1) (fun r2 m2 => if r1 = r2 then fL_law_18 F L xs n (v3 + (nI 6)) m2 else some ((nI 0), m2))))))))))))) else if ((xs v3.toNatClampNeg) &&& (nI 63)) = (nI 2) then zG (v3 + (nI 1)) L (zBd (fX11_law F (xs (v3 + (nI 1)).toNatClampNeg) μ) (fun r3 m3 => zG (v3 + (nI 1)) L (zBd (fX12_law F (xs (v3 + (nI 1)).toNatClampNeg) m3) (fun r4 m4 => if r3 = r4 then fL_law_18 F L xs n (v3 + (nI 6)) m4 else some ((nI 0), m4))))) else if ((xs v3.toNatClampNeg) &&& (nI 63)) = (nI 3) then zG (v3 + (nI 1)) L (zBd (fX11_gossip F (xs (v3 + (nI 1)).toNatClampNeg) μ) (fun r5 m5 => zG (v3 + (nI 1)) L (zBd (fX12_gossip F (xs (v3 + (nI 1)).toNatClampNeg) m5) (fun r6 m6 => if r5 = r6 then fL_law_18 F L xs n (v3 + (nI 6)) m6 else some ((nI 0), m6))))) else if ((xs v3.toNatClampNeg) &&& (nI 63)) = (nI 4) then zG (v3 + (nI 1)) L (zBd (fX11_copy F (xs (v3 + (nI 1)).toNatClampNeg) μ) (fun r7 m7 => zG (v3 + (nI 1)) L (zBd (fX12_copy F (xs (v3 + (nI 1)).toNatClampNeg) m7) (fun r8 m8 => if r7 = r8 then fL_law_18 F L xs n (v3 + (nI 6)) m8 else some ((nI 0), m8))))) else if ((xs v3.toNatClampNeg) &&& (nI 63)) = (nI 5) then zG (v3 + (nI 1)) L (zBd (fX11_weeks F (xs (v3 + (nI 1)).toNatClampNeg) μ) (fun r9 m9 => zG (v3 + (nI 1)) L (zBd (fX12_weeks F (xs (v3 + (nI 1)).toNatClampNeg) m9) (fun r10 m10 => if r9 = r10 then fL_law_18 F L xs n (v3 + (nI 6)) m10 else some ((nI 0), m10))))) else if ((xs v3.toNatClampNeg) &&& (nI 63)) = (nI 6) then zG (v3 + (nI 1)) L (zG (v3 + (nI 2)) L (zBd (fX11_tried F (xs (v3 + (nI 1)).toNatClampNeg) (xs (v3 + (nI 2)).toNatClampNeg) μ) (fun r11 m11 => zG (v3 + (nI 1)) L (zG (v3 + (nI 2)) L (zBd (fX12_tried F (xs (v3 + (nI 1)).toNatClampNeg) (xs (v3 + (nI 2)).toNatClampNeg) m11) (fun r12 m12 => if r11 = r12 then fL_law_18 F L xs n (v3 + (nI 6)) m12 else some ((nI 0), m12))))))) else if ((xs v3.toNatClampNeg) &&& (nI 63)) = (nI 7) then zG (v3 + (nI 1)) L (zG (v3 + (nI 2)) L (zBd (fX11_personIs F (xs (v3 + (nI 1)).toNatClampNeg) (xs (v3 + (nI 2)).toNatClampNeg) μ) (fun r13 m13 => zG (v3 + (nI 1)) L (zG (v3 + (nI 2)) L (zBd (fX12_personIs F (xs (v3 + (nI 1)).toNatClampNeg) (xs (v3 + (nI 2)).toNatClampNeg) m13) (fun r14 m14 => if r13 = r14 then fL_law_18 F L xs n (v3 + (nI 6)) m14 else some ((nI 0), m14))))))) else if ((xs v3.toNatClampNeg) &&& (nI 63)) = (nI 8) then zG (v3 + (nI 1)) L (zG (v3 + (nI 2)) L (zBd (fX11_allKnow F (xs (v3 + (nI 1)).toNatClampNeg) (xs (v3 + (nI 2)).toNatClampNeg) μ) (fun r15 m15 => zG (v3 + (nI 1)) L (zG (v3 + (nI 2)) L (zBd (fX12_allKnow F (xs (v3 + (nI 1)).toNatClampNeg) (xs (v3 + (nI 2)).toNatClampNeg) m15) (fun r16 m16 => if r15 = r16 then fL_law_18 F L xs n (v3 + (nI 6)) m16 else some ((nI 0), m16))))))) else if ((xs v3.toNatClampNeg) &&& (nI 63)) = (nI 9) then zG (v3 + (nI 1)) L (zBd (fX11_whose F (xs (v3 + (nI 1)).toNatClampNeg) μ) (fun r17 m17 => zG (v3 + (nI 1)) L (zBd (fX12_whose F (xs (v3 + (nI 1)).toNatClampNeg) m17) (fun r18 m18 => if r17 = r18 then fL_law_18 F L xs n (v3 + (nI 6)) m18 else some ((nI 0), m18))))) else if ((xs v3.toNatClampNeg) &&& (nI 63)) = (nI 10) then zBd (fX11_alone F μ) (fun r19 m19 => zBd (fX12_alone F m19) (fun r20 m20 => if r19 = r20 then fL_law_18 F L xs n (v3 + (nI 6)) m20 else some ((nI 0), m20))) else if ((xs v3.toNatClampNeg) &&& (nI 63)) = (nI 11) then zG (v3 + (nI 1)) L (zBd (fX11_enough F (xs (v3 + (nI 1)).toNatClampNeg) μ) (fun r21 m21 => zG (v3 + (nI 1)) L (zBd (fX12_enough F (xs (v3 + (nI 1)).toNatClampNeg) m21) (fun r22 m22 => if r21 = r22 then fL_law_18 F L xs n (v3 + (nI 6)) m22 else some ((nI 0), m22))))) else if ((xs v3.toNatClampNeg) &&& (nI 63)) = (nI 12) then zG (v3 + (nI 1)) L (zG (v3 + (nI 2)) L (zBd (fX11_backNumber F (xs (v3 + (nI 1)).toNatClampNeg) (xs (v3 + (nI 2)).toNatClampNeg) μ) (fun r23 m23 => zG (v3 + (nI 1)) L (zG (v3 + (nI 2)) L (zBd (fX12_backNumber F (xs (v3 + (nI 1)).toNatClampNeg) (xs (v3 + (nI 2)).toNatClampNeg) m23) (fun r24 m24 => if r23 = r24 then fL_law_18 F L xs n (v3 + (nI 6)) m24 else some ((nI 0), m24))))))) else if ((xs v3.toNatClampNeg) &&& (nI 63)) = (nI 13) then zG (v3 + (nI 1)) L (zG (v3 + (nI 2)) L (zBd (fX11_blackmail F (xs (v3 + (nI 1)).toNatClampNeg) (xs (v3 + (nI 2)).toNatClampNeg) μ) (fun r25 m25 => zG (v3 + (nI 1)) L (zG (v3 + (nI 2)) L (zBd (fX12_blackmail F (xs (v3 + (nI 1)).toNatClampNeg) (xs (v3 + (nI 2)).toNatClampNeg) m25) (fun r26 m26 => if r25 = r26 then fL_law_18 F L xs n (v3 + (nI 6)) m26 else some ((nI 0), m26))))))) else if ((xs v3.toNatClampNeg) &&& (nI 63)) = (nI 14) then zG (v3 + (nI 1)) L (zBd (fX11_mostPrinted F (xs (v3 + (nI 1)).toNatClampNeg) μ) (fun r27 m27 => zG (v3 + (nI 1)) L (zBd (fX12_mostPrinted F (xs (v3 + (nI 1)).toNatClampNeg) m27) (fun r28 m28 => if r27 = r28 then fL_law_18 F L xs n (v3 + (nI 6)) m28 else some ((nI 0), m28))))) else if ((xs v3.toNatClampNeg) &&& (nI 63)) = (nI 15) then zG (v3 + (nI 1)) L (zBd (fX11_silent F (xs (v3 + (nI 1)).toNatClampNeg) μ) (fun r29 m29 => zG (v3 + (nI 1)) L (zBd (fX12_silent F (xs (v3 + (nI 1)).toNatClampNeg) m29) (fun r30 m30 => if r29 = r30 then fL_law_18 F L xs n (v3 + (nI 6)) m30 else some ((nI 0), m30))))) else if ((xs v3.toNatClampNeg) &&& (nI 63)) = (nI 16) then zG (v3 + (nI 1)) L (zBd (fX11_pair F (xs (v3 + (nI 1)).toNatClampNeg) μ) (fun r31 m31 => zG (v3 + (nI 1)) L (zBd (fX12_pair F (xs (v3 + (nI 1)).toNatClampNeg) m31) (fun r32 m32 => if r31 = r32 then fL_law_18 F L xs n (v3 + (nI 6)) m32 else some ((nI 0), m32))))) else if ((xs v3.toNatClampNeg) &&& (nI 63)) = (nI 17) then zG (v3 + (nI 1)) L (zBd (fX11_reached F (xs (v3 + (nI 1)).toNatClampNeg) μ) (fun r33 m33 => zG (v3 + (nI 1)) L (zBd (fX12_reached F (xs (v3 + (nI 1)).toNatClampNeg) m33) (fun r34 m34 => if r33 = r34 then fL_law_18 F L xs n (v3 + (nI 6)) m34 else some ((nI 0), m34))))) else if ((xs v3.toNatClampNeg) &&& (nI 63)) = (nI 18) then zG (v3 + (nI 1)) L (zG (v3 + (nI 2)) L (zBd (fX11_lineOf F (xs (v3 + (nI 1)).toNatClampNeg) (xs (v3 + (nI 2)).toNatClampNeg) μ) (fun r35 m35 => zG (v3 + (nI 1)) L (zG (v3 + (nI 2)) L (zBd (fX12_lineOf F (xs (v3 + (nI 1)).toNatClampNeg) (xs (v3 + (nI 2)).toNatClampNeg) m35) (fun r36 m36 => if r35 = r36 then fL_law_18 F L xs n (v3 + (nI 6)) m36 else some ((nI 0), m36))))))) else if ((xs v3.toNatClampNeg) &&& (nI 63)) = (nI 19) then zG (v3 + (nI 1)) L (zBd (fX11_copyIs F (xs (v3 + (nI 1)).toNatClampNeg) μ) (fun r37 m37 => zG (v3 + (nI 1)) L (zBd (fX12_copyIs F (xs (v3 + (nI 1)).toNatClampNeg) m37) (fun r38 m38 => if r37 = r38 then fL_law_18 F L xs n (v3 + (nI 6)) m38 else some ((nI 0), m38))))) else if ((xs v3.toNatClampNeg) &&& (nI 63)) = (nI 20) then zG (v3 + (nI 1)) L (zG (v3 + (nI 2)) L (zBd (fX11_set F (xs (v3 + (nI 1)).toNatClampNeg) (xs (v3 + (nI 2)).toNatClampNeg) μ) (fun r39 m39 => zG (v3 + (nI 1)) L (zG (v3 + (nI 2)) L (zBd (fX12_set F (xs (v3 + (nI 1)).toNatClampNeg) (xs (v3 + (nI 2)).toNatClampNeg) m39) (fun r40 m40 => if r39 = r40 then fL_law_18 F L xs n (v3 + (nI 6)) m40 else some ((nI 0), m40))))))) else if ((xs v3.toNatClampNeg) &&& (nI 63)) = (nI 21) then zG (v3 + (nI 1)) L (zBd (fX11_type F (xs (v3 + (nI 1)).toNatClampNeg) μ) (fun r41 m41 => zG (v3 + (nI 1)) L (zBd (fX12_type F (xs (v3 + (nI 1)).toNatClampNeg) m41) (fun r42 m42 => if r41 = r42 then fL_law_18 F L xs n (v3 + (nI 6)) m42 else some ((nI 0), m42))))) else if ((xs v3.toNatClampNeg) &&& (nI 63)) = (nI 22) then zG (v3 + (nI 1)) L (zBd (fX11_bought F (xs (v3 + (nI 1)).toNatClampNeg) μ) (fun r43 m43 => zG (v3 + (nI 1)) L (zBd (fX12_bought F (xs (v3 + (nI 1)).toNatClampNeg) m43) (fun r44 m44 => if r43 = r44 then fL_law_18 F L xs n (v3 + (nI 6)) m44 else some ((nI 0), m44))))) else if ((xs v3.toNatClampNeg) &&& (nI 63)) = (nI 23) then zG (v3 + (nI 1)) L (zG (v3 + (nI 2)) L (zBd (fX11_nuns F (xs (v3 + (nI 1)).toNatClampNeg) (xs (v3 + (nI 2)).toNatClampNeg) μ) (fun r45 m45 => zG (v3 + (nI 1)) L (zG (v3 + (nI 2)) L (zBd (fX12_nuns F (xs (v3 + (nI 1)).toNatClampNeg) (xs (v3 + (nI 2)).toNatClampNeg) m45) (fun r46 m46 => if r45 = r46 then fL_law_18 F L xs n (v3 + (nI 6)) m46 else some ((nI 0), m46))))))) else if ((xs v3.toNatClampNeg) &&& (nI 63)) = (nI 24) then zG (v3 + (nI 1)) L (zG (v3 + (nI 2)) L (zG (v3 + (nI 3)) L (zBd (fX11_space F (xs (v3 + (nI 1)).toNatClampNeg) (xs (v3 + (nI 2)).toNatClampNeg) (xs (v3 + (nI 3)).toNatClampNeg) μ) (fun r47 m47 => zG (v3 + (nI 1)) L (zG (v3 + (nI 2)) L (zG (v3 + (nI 3)) L (zBd (fX12_space F (xs (v3 + (nI 1)).toNatClampNeg) (xs (v3 + (nI 2)).toNatClampNeg) (xs (v3 + (nI 3)).toNatClampNeg) m47) (fun r48 m48 => if r47 = r48 then fL_law_18 F L xs n (v3 + (nI 6)) m48 else some ((nI 0), m48))))))))) else if ((xs v3.toNatClampNeg) &&& (nI 63)) = (nI 25) then zG (v3 + (nI 1)) L (zG (v3 + (nI 2)) L (zBd (fX11_style F (xs (v3 + (nI 1)).toNatClampNeg) (xs (v3 + (nI 2)).toNatClampNeg) μ) (fun r49 m49 => zG (v3 + (nI 1)) L (zG (v3 + (nI 2)) L (zBd (fX12_style F (xs (v3 + (nI 1)).toNatClampNeg) (xs (v3 + (nI 2)).toNatClampNeg) m49) (fun r50 m50 => if r49 = r50 then fL_law_18 F L xs n (v3 + (nI 6)) m50 else some ((nI 0), m50))))))) else if ((xs v3.toNatClampNeg) &&& (nI 63)) = (nI 26) then zG (v3 + (nI 1)) L (zG (v3 + (nI 2)) L (zBd (fX11_names F (xs (v3 + (nI 1)).toNatClampNeg) (xs (v3 + (nI 2)).toNatClampNeg) μ) (fun r51 m51 => zG (v3 + (nI 1)) L (zG (v3 + (nI 2)) L (zBd (fX12_names F (xs (v3 + (nI 1)).toNatClampNeg) (xs (v3 + (nI 2)).toNatClampNeg) m51) (fun r52 m52 => if r51 = r52 then fL_law_18 F L xs n (v3 + (nI 6)) m52 else some ((nI 0), m52))))))) else if ((xs v3.toNatClampNeg) &&& (nI 63)) = (nI 27) then zG (v3 + (nI 1)) L (zG (v3 + (nI 2)) L (zBd (fX11_duty F (xs (v3 + (nI 1)).toNatClampNeg) (xs (v3 + (nI 2)).toNatClampNeg) μ) (fun r53 m53 => zG (v3 + (nI 1)) L (zG (v3 + (nI 2)) L (zBd (fX12_duty F (xs (v3 + (nI 1)).toNatClampNeg) (xs (v3 + (nI 2)).toNatClampNeg) m53) (fun r54 m54 => if r53 = r54 then fL_law_18 F L xs n (v3 + (nI 6)) m54 else some ((nI 0), m54))))))) else if ((xs v3.toNatClampNeg) &&& (nI 63)) = (nI 28) then zG (v3 + (nI 1)) L (zG (v3 + (nI 2)) L (zBd (fX11_hands F (xs (v3 + (nI 1)).toNatClampNeg) (xs (v3 + (nI 2)).toNatClampNeg) μ) (fun r55 m55 => zG (v3 + (nI 1)) L (zG (v3 + (nI 2)) L (zBd (fX12_hands F (xs (v3 + (nI 1)).toNatClampNeg) (xs (v3 + (nI 2)).toNatClampNeg) m55) (fun r56 m56 => if r55 = r56 then fL_law_18 F L xs n (v3 + (nI 6)) m56 else some ((nI 0), m56))))))) else if ((xs v3.toNatClampNeg) &&& (nI 63)) = (nI 29) then zG (v3 + (nI 1)) L (zBd (fX11_seed F (xs (v3 + (nI 1)).toNatClampNeg) μ) (fun r57 m57 => zG (v3 + (nI 1)) L (zBd (fX12_seed F (xs (v3 + (nI 1)).toNatClampNeg) m57) (fun r58 m58 => if r57 = r58 then fL_law_18 F L xs n (v3 + (nI 6)) m58 else some ((nI 0), m58))))) else if ((xs v3.toNatClampNeg) &&& (nI 63)) = (nI 30) then zBd (fX11_keep F μ) (fun r59 m59 => zBd (fX12_keep F m59) (fun r60 m60 => if r59 = r60 then fL_law_18 F L xs n (v3 + (nI 6)) m60 else some ((nI 0), m60))) else if ((xs v3.toNatClampNeg) &&& (nI 63)) = (nI 31) then zBd (fX11_undo F μ) (fun r61 m61 => zBd (fX12_undo F m61) (fun r62 m62 => if r61 = r62 then fL_law_18 F L xs n (v3 + (nI 6)) m62 else some ((nI 0), m62))) else if ((xs v3.toNatClampNeg) &&& (nI 63)) = (nI 32) then zG (v3 + (nI 1)) L (zBd (fX11_check F (xs (v3 + (nI 1)).toNatClampNeg) μ) (fun r63 m63 => zG (v3 + (nI 1)) L (zBd (fX12_check F (xs (v3 + (nI 1)).toNatClampNeg) m63) (fun r64 m64 => if r63 = r64 then fL_law_18 F L xs n (v3 + (nI 6)) m64 else some ((nI 0), m64))))) else if ((xs v3.toNatClampNeg) &&& (nI 63)) = (nI 33) then zG (v3 + (nI 1)) L (zBd (fX11_count F (xs (v3 + (nI 1)).toNatClampNeg) μ) (fun r65 m65 => zG (v3 + (nI 1)) L (zBd (fX12_count F (xs (v3 + (nI 1)).toNatClampNeg) m65) (fun r66 m66 => if r65 = r66 then fL_law_18 F L xs n (v3 + (nI 6)) m66 else some ((nI 0), m66))))) else fL_law_18 F L xs n (v3 + (nI 6)) μ))
set_option maxRecDepth 20000 in
set_option maxHeartbeats 8000000 in
theorem wL_law_208 {X : zX} {F : Nat} (hC : zCx X RL cL_law 4 70) {L : Nat} {xs : Nat → Int32} (hret : zLr X) (hscr : zScr X L xs) {k18 : Int32 → zMem → Option zR} (hk18 : ∀ v3 μ, k18 v3 μ = some (zOut X) → zAW X 18 [some (.ref 89), some (.ref 0), some (.ref 60), some (.int v3)] [] μ) {v3 : Int32} {s0 : Int32} {s1 : Int32} {s2 : Int32} {μ : zMem} (hf : fL_law_208 F L xs k18 v3 s0 s1 s2 μ = some (zOut X)) : zAW X 208 [some (.ref 89), some (.ref 0), some (.ref 60), some (.int v3)] [.int s0, .int s1, .int s2, .ref 0] μ := by
  unfold fL_law_208 at hf
  refine zs_callV [.int s2, .int s1, .int s0] hC cw_X11_person cl_RL_13 zL0 rfl (by decide) rfl rfl (Nat.le_of_ble_eq_true rfl) dL_law_208 (fun _ h => ctX11_person h) (fun r1 m1 _ hf => ?_) hf
  show zAW X 211 _ (.int r1 :: _) m1
  refine zs_al hC dL_law_211 rfl ?_
  refine zs_al hC dL_law_212 rfl ?_
  refine zs_il hC dL_law_213 rfl ?_
  refine zs_k hC dL_law_214 ?_
  refine zs_iadd hC dL_law_215 ?_
  refine zs_sld hC hscr dL_law_216 (fun _ hf => ?_) hf
  refine zs_al hC dL_law_217 rfl ?_
  refine zs_il hC dL_law_218 rfl ?_
  refine zs_k hC dL_law_219 ?_
  refine zs_iadd hC dL_law_220 ?_
  refine zs_sld hC hscr dL_law_221 (fun _ hf => ?_) hf
  refine zs_al hC dL_law_222 rfl ?_
  refine zs_il hC dL_law_223 rfl ?_
  refine zs_k hC dL_law_224 ?_
  refine zs_iadd hC dL_law_225 ?_
  refine zs_sld hC hscr dL_law_226 (fun _ hf => ?_) hf
  refine zs_if_eq hC dL_law_227 (fun _ hf => ?_) (fun _ hf => ?_) hf
  · refine zs_k hC dL_law_234 ?_
    refine zs_callV [.int (xs (v3 + (nI 1)).toNatClampNeg), .int (xs (v3 + (nI 2)).toNatClampNeg), .int (nI 0)] hC cw_X12_person cl_RL_17 zL60 rfl (by decide) rfl rfl (Nat.le_of_ble_eq_true rfl) dL_law_235 (fun _ h => ctX12_person h) (fun r2 m2 _ hf => ?_) hf
    show zAW X 238 _ (.int r2 :: _) m2
    refine zs_ic_eq hC dL_law_238 (fun _ hf => ?_) (fun _ hf => ?_) hf
    · refine zs_iinc (nI 6) hC dL_law_1152 (by decide) rfl (by decide) rfl ?_
      refine zs_goto hC dL_law_1155 ?_
      exact zAW.weak (hk18 _ _ hf) (zLw_s (zLw_s (zLw_s (zLw_s zLw_0))))
    · refine zs_k hC dL_law_241 ?_
      exact hret _ _ _ _ _ dL_law_242 hf
  · refine zs_k hC dL_law_230 ?_
    refine zs_goto hC dL_law_231 ?_
    refine zs_callV [.int (xs (v3 + (nI 1)).toNatClampNeg), .int (xs (v3 + (nI 2)).toNatClampNeg), .int (nI 1)] hC cw_X12_person cl_RL_17 zL60 rfl (by decide) rfl rfl (Nat.le_of_ble_eq_true rfl) dL_law_235 (fun _ h => ctX12_person h) (fun r3 m3 _ hf => ?_) hf
    show zAW X 238 _ (.int r3 :: _) m3
    refine zs_ic_eq hC dL_law_238 (fun _ hf => ?_) (fun _ hf => ?_) hf
    · refine zs_iinc (nI 6) hC dL_law_1152 (by decide) rfl (by decide) rfl ?_
      refine zs_goto hC dL_law_1155 ?_
      exact zAW.weak (hk18 _ _ hf) (zLw_s (zLw_s (zLw_s (zLw_s zLw_0))))
    · refine zs_k hC dL_law_241 ?_
      exact hret _ _ _ _ _ dL_law_242 hf
set_option maxRecDepth 20000 in
set_option maxHeartbeats 8000000 in
theorem wL_law_18 {X : zX} {F : Nat} (hC : zCx X RL cL_law 4 70) {L : Nat} {xs : Nat → Int32} (hret : zLr X) (hscr : zScr X L xs) : ∀ (n : Nat) (v3 : Int32) (μ : zMem), fL_law_18 F L xs n v3 μ = some (zOut X) → zAW X 18 [some (.ref 89), some (.ref 0), some (.ref 60), some (.int v3)] [] μ := by
  intro n
  induction n with
  | zero =>
    intro v3 μ hf
    rw [fL_law_18] at hf
    cases hf
  | succ n ih =>
    intro v3 μ hf
    rw [fL_law_18] at hf
    refine zs_il hC dL_law_18 rfl ?_
    refine zs_al hC dL_law_19 rfl ?_
    refine zs_slen hC hscr dL_law_20 ?_
    refine zs_k hC dL_law_21 ?_
    refine zs_isub hC dL_law_23 ?_
    refine zs_ic_gt hC dL_law_24 (fun _ hf => ?_) (fun _ hf => ?_) hf
    · refine zs_k hC dL_law_1158 ?_
      exact hret _ _ _ _ _ dL_law_1159 hf
    · refine zs_al hC dL_law_27 rfl ?_
      refine zs_il hC dL_law_28 rfl ?_
      refine zs_sld hC hscr dL_law_29 (fun _ hf => ?_) hf
      refine zs_k hC dL_law_30 ?_
      refine zs_iand hC dL_law_32 ?_
      refine zs_case (nI 0) (fun hx hf => ?_) (fun e33_0 hf => ?_) hf
      · refine zs_tabI (off := 151) (tgt := 184) hC hx dL_law_33 (by decide) (by decide) rfl (by decide) ?_
        refine zs_al hC dL_law_184 rfl ?_
        refine zs_al hC dL_law_185 rfl ?_
        refine zs_il hC dL_law_186 rfl ?_
        refine zs_k hC dL_law_187 ?_
        refine zs_iadd hC dL_law_188 ?_
        refine zs_sld hC hscr dL_law_189 (fun _ hf => ?_) hf
        refine zs_al hC dL_law_190 rfl ?_
        refine zs_il hC dL_law_191 rfl ?_
        refine zs_k hC dL_law_192 ?_
        refine zs_iadd hC dL_law_193 ?_
        refine zs_sld hC hscr dL_law_194 (fun _ hf => ?_) hf
        refine zs_al hC dL_law_195 rfl ?_
        refine zs_il hC dL_law_196 rfl ?_
        refine zs_k hC dL_law_197 ?_
        refine zs_iadd hC dL_law_198 ?_
        refine zs_sld hC hscr dL_law_199 (fun _ hf => ?_) hf
        refine zs_if_eq hC dL_law_200 (fun _ hf => ?_) (fun _ hf => ?_) hf
        · refine zs_k hC dL_law_207 ?_
          exact zAW.weak (wL_law_208 hC hret hscr (ih) hf) (zLw_s (zLw_s (zLw_s (zLw_s zLw_0))))
        · refine zs_k hC dL_law_203 ?_
          refine zs_goto hC dL_law_204 ?_
          exact zAW.weak (wL_law_208 hC hret hscr (ih) hf) (zLw_s (zLw_s (zLw_s (zLw_s zLw_0))))
      refine zs_case (nI 1) (fun hx hf => ?_) (fun e33_1 hf => ?_) hf
      · refine zs_tabI (off := 210) (tgt := 243) hC hx dL_law_33 (by decide) (by decide) rfl (by decide) ?_
        refine zs_al hC dL_law_243 rfl ?_
        refine zs_al hC dL_law_244 rfl ?_
        refine zs_il hC dL_law_245 rfl ?_
        refine zs_k hC dL_law_246 ?_
        refine zs_iadd hC dL_law_247 ?_
        refine zs_sld hC hscr dL_law_248 (fun _ hf => ?_) hf
        refine zs_al hC dL_law_249 rfl ?_
        refine zs_il hC dL_law_250 rfl ?_
        refine zs_k hC dL_law_251 ?_
        refine zs_iadd hC dL_law_252 ?_
        refine zs_sld hC hscr dL_law_253 (fun _ hf => ?_) hf
        refine zs_al hC dL_law_254 rfl ?_
        refine zs_il hC dL_law_255 rfl ?_
        refine zs_k hC dL_law_256 ?_
        refine zs_iadd hC dL_law_257 ?_
        refine zs_sld hC hscr dL_law_258 (fun _ hf => ?_) hf
        refine zs_al hC dL_law_259 rfl ?_
        refine zs_il hC dL_law_260 rfl ?_
        refine zs_k hC dL_law_261 ?_
        refine zs_iadd hC dL_law_262 ?_
        refine zs_sld hC hscr dL_law_263 (fun _ hf => ?_) hf
        refine zs_al hC dL_law_264 rfl ?_
        refine zs_il hC dL_law_265 rfl ?_
        refine zs_k hC dL_law_266 ?_
        refine zs_iadd hC dL_law_267 ?_
        refine zs_sld hC hscr dL_law_268 (fun _ hf => ?_) hf
        refine zs_callV [.int (xs (v3 + (nI 1)).toNatClampNeg), .int (xs (v3 + (nI 2)).toNatClampNeg), .int (xs (v3 + (nI 3)).toNatClampNeg), .int (xs (v3 + (nI 4)).toNatClampNeg), .int (xs (v3 + (nI 5)).toNatClampNeg)] hC cw_X11_feed cl_RL_18 zL0 rfl (by decide) rfl rfl (Nat.le_of_ble_eq_true rfl) dL_law_269 (fun _ h => ctX11_feed h) (fun r1 m1 _ hf => ?_) hf
        show zAW X 272 _ (.int r1 :: _) m1
        refine zs_al hC dL_law_272 rfl ?_
        refine zs_al hC dL_law_273 rfl ?_
        refine zs_il hC dL_law_274 rfl ?_
        refine zs_k hC dL_law_275 ?_
        refine zs_iadd hC dL_law_276 ?_
        refine zs_sld hC hscr dL_law_277 (fun _ hf => ?_) hf
        refine zs_al hC dL_law_278 rfl ?_
        refine zs_il hC dL_law_279 rfl ?_
        refine zs_k hC dL_law_280 ?_
        refine zs_iadd hC dL_law_281 ?_
        refine zs_sld hC hscr dL_law_282 (fun _ hf => ?_) hf
        refine zs_al hC dL_law_283 rfl ?_
        refine zs_il hC dL_law_284 rfl ?_
        refine zs_k hC dL_law_285 ?_
        refine zs_iadd hC dL_law_286 ?_
        refine zs_sld hC hscr dL_law_287 (fun _ hf => ?_) hf
        refine zs_al hC dL_law_288 rfl ?_
        refine zs_il hC dL_law_289 rfl ?_
        refine zs_k hC dL_law_290 ?_
        refine zs_iadd hC dL_law_291 ?_
        refine zs_sld hC hscr dL_law_292 (fun _ hf => ?_) hf
        refine zs_al hC dL_law_293 rfl ?_
        refine zs_il hC dL_law_294 rfl ?_
        refine zs_k hC dL_law_295 ?_
        refine zs_iadd hC dL_law_296 ?_
        refine zs_sld hC hscr dL_law_297 (fun _ hf => ?_) hf
        refine zs_callV [.int (xs (v3 + (nI 1)).toNatClampNeg), .int (xs (v3 + (nI 2)).toNatClampNeg), .int (xs (v3 + (nI 3)).toNatClampNeg), .int (xs (v3 + (nI 4)).toNatClampNeg), .int (xs (v3 + (nI 5)).toNatClampNeg)] hC cw_X12_feed cl_RL_22 zL60 rfl (by decide) rfl rfl (Nat.le_of_ble_eq_true rfl) dL_law_298 (fun _ h => ctX12_feed h) (fun r2 m2 _ hf => ?_) hf
        show zAW X 301 _ (.int r2 :: _) m2
        refine zs_ic_eq hC dL_law_301 (fun _ hf => ?_) (fun _ hf => ?_) hf
        · refine zs_iinc (nI 6) hC dL_law_1152 (by decide) rfl (by decide) rfl ?_
          refine zs_goto hC dL_law_1155 ?_
          exact zAW.weak (ih _ _ hf) (zLw_s (zLw_s (zLw_s (zLw_s zLw_0))))
        · refine zs_k hC dL_law_304 ?_
          exact hret _ _ _ _ _ dL_law_305 hf
      refine zs_case (nI 2) (fun hx hf => ?_) (fun e33_2 hf => ?_) hf
      · refine zs_tabI (off := 273) (tgt := 306) hC hx dL_law_33 (by decide) (by decide) rfl (by decide) ?_
        refine zs_al hC dL_law_306 rfl ?_
        refine zs_al hC dL_law_307 rfl ?_
        refine zs_il hC dL_law_308 rfl ?_
        refine zs_k hC dL_law_309 ?_
        refine zs_iadd hC dL_law_310 ?_
        refine zs_sld hC hscr dL_law_311 (fun _ hf => ?_) hf
        refine zs_callV [.int (xs (v3 + (nI 1)).toNatClampNeg)] hC cw_X11_law cl_RL_23 zL0 rfl (by decide) rfl rfl (Nat.le_of_ble_eq_true rfl) dL_law_312 (fun _ h => ctX11_law h) (fun r3 m3 _ hf => ?_) hf
        show zAW X 315 _ (.int r3 :: _) m3
        refine zs_al hC dL_law_315 rfl ?_
        refine zs_al hC dL_law_316 rfl ?_
        refine zs_il hC dL_law_317 rfl ?_
        refine zs_k hC dL_law_318 ?_
        refine zs_iadd hC dL_law_319 ?_
        refine zs_sld hC hscr dL_law_320 (fun _ hf => ?_) hf
        refine zs_callV [.int (xs (v3 + (nI 1)).toNatClampNeg)] hC cw_X12_law cl_RL_27 zL60 rfl (by decide) rfl rfl (Nat.le_of_ble_eq_true rfl) dL_law_321 (fun _ h => ctX12_law h) (fun r4 m4 _ hf => ?_) hf
        show zAW X 324 _ (.int r4 :: _) m4
        refine zs_ic_eq hC dL_law_324 (fun _ hf => ?_) (fun _ hf => ?_) hf
        · refine zs_iinc (nI 6) hC dL_law_1152 (by decide) rfl (by decide) rfl ?_
          refine zs_goto hC dL_law_1155 ?_
          exact zAW.weak (ih _ _ hf) (zLw_s (zLw_s (zLw_s (zLw_s zLw_0))))
        · refine zs_k hC dL_law_327 ?_
          exact hret _ _ _ _ _ dL_law_328 hf
      refine zs_case (nI 3) (fun hx hf => ?_) (fun e33_3 hf => ?_) hf
      · refine zs_tabI (off := 296) (tgt := 329) hC hx dL_law_33 (by decide) (by decide) rfl (by decide) ?_
        refine zs_al hC dL_law_329 rfl ?_
        refine zs_al hC dL_law_330 rfl ?_
        refine zs_il hC dL_law_331 rfl ?_
        refine zs_k hC dL_law_332 ?_
        refine zs_iadd hC dL_law_333 ?_
        refine zs_sld hC hscr dL_law_334 (fun _ hf => ?_) hf
        refine zs_callV [.int (xs (v3 + (nI 1)).toNatClampNeg)] hC cw_X11_gossip cl_RL_28 zL0 rfl (by decide) rfl rfl (Nat.le_of_ble_eq_true rfl) dL_law_335 (fun _ h => ctX11_gossip h) (fun r5 m5 _ hf => ?_) hf
        show zAW X 338 _ (.int r5 :: _) m5
        refine zs_al hC dL_law_338 rfl ?_
        refine zs_al hC dL_law_339 rfl ?_
        refine zs_il hC dL_law_340 rfl ?_
        refine zs_k hC dL_law_341 ?_
        refine zs_iadd hC dL_law_342 ?_
        refine zs_sld hC hscr dL_law_343 (fun _ hf => ?_) hf
        refine zs_callV [.int (xs (v3 + (nI 1)).toNatClampNeg)] hC cw_X12_gossip cl_RL_31 zL60 rfl (by decide) rfl rfl (Nat.le_of_ble_eq_true rfl) dL_law_344 (fun _ h => ctX12_gossip h) (fun r6 m6 _ hf => ?_) hf
        show zAW X 347 _ (.int r6 :: _) m6
        refine zs_ic_eq hC dL_law_347 (fun _ hf => ?_) (fun _ hf => ?_) hf
        · refine zs_iinc (nI 6) hC dL_law_1152 (by decide) rfl (by decide) rfl ?_
          refine zs_goto hC dL_law_1155 ?_
          exact zAW.weak (ih _ _ hf) (zLw_s (zLw_s (zLw_s (zLw_s zLw_0))))
        · refine zs_k hC dL_law_350 ?_
          exact hret _ _ _ _ _ dL_law_351 hf
      refine zs_case (nI 4) (fun hx hf => ?_) (fun e33_4 hf => ?_) hf
      · refine zs_tabI (off := 319) (tgt := 352) hC hx dL_law_33 (by decide) (by decide) rfl (by decide) ?_
        refine zs_al hC dL_law_352 rfl ?_
        refine zs_al hC dL_law_353 rfl ?_
        refine zs_il hC dL_law_354 rfl ?_
        refine zs_k hC dL_law_355 ?_
        refine zs_iadd hC dL_law_356 ?_
        refine zs_sld hC hscr dL_law_357 (fun _ hf => ?_) hf
        refine zs_callV [.int (xs (v3 + (nI 1)).toNatClampNeg)] hC cw_X11_copy cl_RL_32 zL0 rfl (by decide) rfl rfl (Nat.le_of_ble_eq_true rfl) dL_law_358 (fun _ h => ctX11_copy h) (fun r7 m7 _ hf => ?_) hf
        show zAW X 361 _ (.int r7 :: _) m7
        refine zs_al hC dL_law_361 rfl ?_
        refine zs_al hC dL_law_362 rfl ?_
        refine zs_il hC dL_law_363 rfl ?_
        refine zs_k hC dL_law_364 ?_
        refine zs_iadd hC dL_law_365 ?_
        refine zs_sld hC hscr dL_law_366 (fun _ hf => ?_) hf
        refine zs_callV [.int (xs (v3 + (nI 1)).toNatClampNeg)] hC cw_X12_copy cl_RL_35 zL60 rfl (by decide) rfl rfl (Nat.le_of_ble_eq_true rfl) dL_law_367 (fun _ h => ctX12_copy h) (fun r8 m8 _ hf => ?_) hf
        show zAW X 370 _ (.int r8 :: _) m8
        refine zs_ic_eq hC dL_law_370 (fun _ hf => ?_) (fun _ hf => ?_) hf
        · refine zs_iinc (nI 6) hC dL_law_1152 (by decide) rfl (by decide) rfl ?_
          refine zs_goto hC dL_law_1155 ?_
          exact zAW.weak (ih _ _ hf) (zLw_s (zLw_s (zLw_s (zLw_s zLw_0))))
        · refine zs_k hC dL_law_373 ?_
          exact hret _ _ _ _ _ dL_law_374 hf
      refine zs_case (nI 5) (fun hx hf => ?_) (fun e33_5 hf => ?_) hf
      · refine zs_tabI (off := 342) (tgt := 375) hC hx dL_law_33 (by decide) (by decide) rfl (by decide) ?_
        refine zs_al hC dL_law_375 rfl ?_
        refine zs_al hC dL_law_376 rfl ?_
        refine zs_il hC dL_law_377 rfl ?_
        refine zs_k hC dL_law_378 ?_
        refine zs_iadd hC dL_law_379 ?_
        refine zs_sld hC hscr dL_law_380 (fun _ hf => ?_) hf
        refine zs_callV [.int (xs (v3 + (nI 1)).toNatClampNeg)] hC cw_X11_weeks cl_RL_36 zL0 rfl (by decide) rfl rfl (Nat.le_of_ble_eq_true rfl) dL_law_381 (fun _ h => ctX11_weeks h) (fun r9 m9 _ hf => ?_) hf
        show zAW X 384 _ (.int r9 :: _) m9
        refine zs_al hC dL_law_384 rfl ?_
        refine zs_al hC dL_law_385 rfl ?_
        refine zs_il hC dL_law_386 rfl ?_
        refine zs_k hC dL_law_387 ?_
        refine zs_iadd hC dL_law_388 ?_
        refine zs_sld hC hscr dL_law_389 (fun _ hf => ?_) hf
        refine zs_callV [.int (xs (v3 + (nI 1)).toNatClampNeg)] hC cw_X12_weeks cl_RL_39 zL60 rfl (by decide) rfl rfl (Nat.le_of_ble_eq_true rfl) dL_law_390 (fun _ h => ctX12_weeks h) (fun r10 m10 _ hf => ?_) hf
        show zAW X 393 _ (.int r10 :: _) m10
        refine zs_ic_eq hC dL_law_393 (fun _ hf => ?_) (fun _ hf => ?_) hf
        · refine zs_iinc (nI 6) hC dL_law_1152 (by decide) rfl (by decide) rfl ?_
          refine zs_goto hC dL_law_1155 ?_
          exact zAW.weak (ih _ _ hf) (zLw_s (zLw_s (zLw_s (zLw_s zLw_0))))
        · refine zs_k hC dL_law_396 ?_
          exact hret _ _ _ _ _ dL_law_397 hf
      refine zs_case (nI 6) (fun hx hf => ?_) (fun e33_6 hf => ?_) hf
      · refine zs_tabI (off := 365) (tgt := 398) hC hx dL_law_33 (by decide) (by decide) rfl (by decide) ?_
        refine zs_al hC dL_law_398 rfl ?_
        refine zs_al hC dL_law_399 rfl ?_
        refine zs_il hC dL_law_400 rfl ?_
        refine zs_k hC dL_law_401 ?_
        refine zs_iadd hC dL_law_402 ?_
        refine zs_sld hC hscr dL_law_403 (fun _ hf => ?_) hf
        refine zs_al hC dL_law_404 rfl ?_
        refine zs_il hC dL_law_405 rfl ?_
        refine zs_k hC dL_law_406 ?_
        refine zs_iadd hC dL_law_407 ?_
        refine zs_sld hC hscr dL_law_408 (fun _ hf => ?_) hf
        refine zs_callV [.int (xs (v3 + (nI 1)).toNatClampNeg), .int (xs (v3 + (nI 2)).toNatClampNeg)] hC cw_X11_tried cl_RL_40 zL0 rfl (by decide) rfl rfl (Nat.le_of_ble_eq_true rfl) dL_law_409 (fun _ h => ctX11_tried h) (fun r11 m11 _ hf => ?_) hf
        show zAW X 412 _ (.int r11 :: _) m11
        refine zs_al hC dL_law_412 rfl ?_
        refine zs_al hC dL_law_413 rfl ?_
        refine zs_il hC dL_law_414 rfl ?_
        refine zs_k hC dL_law_415 ?_
        refine zs_iadd hC dL_law_416 ?_
        refine zs_sld hC hscr dL_law_417 (fun _ hf => ?_) hf
        refine zs_al hC dL_law_418 rfl ?_
        refine zs_il hC dL_law_419 rfl ?_
        refine zs_k hC dL_law_420 ?_
        refine zs_iadd hC dL_law_421 ?_
        refine zs_sld hC hscr dL_law_422 (fun _ hf => ?_) hf
        refine zs_callV [.int (xs (v3 + (nI 1)).toNatClampNeg), .int (xs (v3 + (nI 2)).toNatClampNeg)] hC cw_X12_tried cl_RL_44 zL60 rfl (by decide) rfl rfl (Nat.le_of_ble_eq_true rfl) dL_law_423 (fun _ h => ctX12_tried h) (fun r12 m12 _ hf => ?_) hf
        show zAW X 426 _ (.int r12 :: _) m12
        refine zs_ic_eq hC dL_law_426 (fun _ hf => ?_) (fun _ hf => ?_) hf
        · refine zs_iinc (nI 6) hC dL_law_1152 (by decide) rfl (by decide) rfl ?_
          refine zs_goto hC dL_law_1155 ?_
          exact zAW.weak (ih _ _ hf) (zLw_s (zLw_s (zLw_s (zLw_s zLw_0))))
        · refine zs_k hC dL_law_429 ?_
          exact hret _ _ _ _ _ dL_law_430 hf
      refine zs_case (nI 7) (fun hx hf => ?_) (fun e33_7 hf => ?_) hf
      · refine zs_tabI (off := 398) (tgt := 431) hC hx dL_law_33 (by decide) (by decide) rfl (by decide) ?_
        refine zs_al hC dL_law_431 rfl ?_
        refine zs_al hC dL_law_432 rfl ?_
        refine zs_il hC dL_law_433 rfl ?_
        refine zs_k hC dL_law_434 ?_
        refine zs_iadd hC dL_law_435 ?_
        refine zs_sld hC hscr dL_law_436 (fun _ hf => ?_) hf
        refine zs_al hC dL_law_437 rfl ?_
        refine zs_il hC dL_law_438 rfl ?_
        refine zs_k hC dL_law_439 ?_
        refine zs_iadd hC dL_law_440 ?_
        refine zs_sld hC hscr dL_law_441 (fun _ hf => ?_) hf
        refine zs_callV [.int (xs (v3 + (nI 1)).toNatClampNeg), .int (xs (v3 + (nI 2)).toNatClampNeg)] hC cw_X11_personIs cl_RL_45 zL0 rfl (by decide) rfl rfl (Nat.le_of_ble_eq_true rfl) dL_law_442 (fun _ h => ctX11_personIs h) (fun r13 m13 _ hf => ?_) hf
        show zAW X 445 _ (.int r13 :: _) m13
        refine zs_al hC dL_law_445 rfl ?_
        refine zs_al hC dL_law_446 rfl ?_
        refine zs_il hC dL_law_447 rfl ?_
        refine zs_k hC dL_law_448 ?_
        refine zs_iadd hC dL_law_449 ?_
        refine zs_sld hC hscr dL_law_450 (fun _ hf => ?_) hf
        refine zs_al hC dL_law_451 rfl ?_
        refine zs_il hC dL_law_452 rfl ?_
        refine zs_k hC dL_law_453 ?_
        refine zs_iadd hC dL_law_454 ?_
        refine zs_sld hC hscr dL_law_455 (fun _ hf => ?_) hf
        refine zs_callV [.int (xs (v3 + (nI 1)).toNatClampNeg), .int (xs (v3 + (nI 2)).toNatClampNeg)] hC cw_X12_personIs cl_RL_48 zL60 rfl (by decide) rfl rfl (Nat.le_of_ble_eq_true rfl) dL_law_456 (fun _ h => ctX12_personIs h) (fun r14 m14 _ hf => ?_) hf
        show zAW X 459 _ (.int r14 :: _) m14
        refine zs_ic_eq hC dL_law_459 (fun _ hf => ?_) (fun _ hf => ?_) hf
        · refine zs_iinc (nI 6) hC dL_law_1152 (by decide) rfl (by decide) rfl ?_
          refine zs_goto hC dL_law_1155 ?_
          exact zAW.weak (ih _ _ hf) (zLw_s (zLw_s (zLw_s (zLw_s zLw_0))))
        · refine zs_k hC dL_law_462 ?_
          exact hret _ _ _ _ _ dL_law_463 hf
      refine zs_case (nI 8) (fun hx hf => ?_) (fun e33_8 hf => ?_) hf
      · refine zs_tabI (off := 431) (tgt := 464) hC hx dL_law_33 (by decide) (by decide) rfl (by decide) ?_
        refine zs_al hC dL_law_464 rfl ?_
        refine zs_al hC dL_law_465 rfl ?_
        refine zs_il hC dL_law_466 rfl ?_
        refine zs_k hC dL_law_467 ?_
        refine zs_iadd hC dL_law_468 ?_
        refine zs_sld hC hscr dL_law_469 (fun _ hf => ?_) hf
        refine zs_al hC dL_law_470 rfl ?_
        refine zs_il hC dL_law_471 rfl ?_
        refine zs_k hC dL_law_472 ?_
        refine zs_iadd hC dL_law_473 ?_
        refine zs_sld hC hscr dL_law_474 (fun _ hf => ?_) hf
        refine zs_callV [.int (xs (v3 + (nI 1)).toNatClampNeg), .int (xs (v3 + (nI 2)).toNatClampNeg)] hC cw_X11_allKnow cl_RL_49 zL0 rfl (by decide) rfl rfl (Nat.le_of_ble_eq_true rfl) dL_law_475 (fun _ h => ctX11_allKnow h) (fun r15 m15 _ hf => ?_) hf
        show zAW X 478 _ (.int r15 :: _) m15
        refine zs_al hC dL_law_478 rfl ?_
        refine zs_al hC dL_law_479 rfl ?_
        refine zs_il hC dL_law_480 rfl ?_
        refine zs_k hC dL_law_481 ?_
        refine zs_iadd hC dL_law_482 ?_
        refine zs_sld hC hscr dL_law_483 (fun _ hf => ?_) hf
        refine zs_al hC dL_law_484 rfl ?_
        refine zs_il hC dL_law_485 rfl ?_
        refine zs_k hC dL_law_486 ?_
        refine zs_iadd hC dL_law_487 ?_
        refine zs_sld hC hscr dL_law_488 (fun _ hf => ?_) hf
        refine zs_callV [.int (xs (v3 + (nI 1)).toNatClampNeg), .int (xs (v3 + (nI 2)).toNatClampNeg)] hC cw_X12_allKnow cl_RL_52 zL60 rfl (by decide) rfl rfl (Nat.le_of_ble_eq_true rfl) dL_law_489 (fun _ h => ctX12_allKnow h) (fun r16 m16 _ hf => ?_) hf
        show zAW X 492 _ (.int r16 :: _) m16
        refine zs_ic_eq hC dL_law_492 (fun _ hf => ?_) (fun _ hf => ?_) hf
        · refine zs_iinc (nI 6) hC dL_law_1152 (by decide) rfl (by decide) rfl ?_
          refine zs_goto hC dL_law_1155 ?_
          exact zAW.weak (ih _ _ hf) (zLw_s (zLw_s (zLw_s (zLw_s zLw_0))))
        · refine zs_k hC dL_law_495 ?_
          exact hret _ _ _ _ _ dL_law_496 hf
      refine zs_case (nI 9) (fun hx hf => ?_) (fun e33_9 hf => ?_) hf
      · refine zs_tabI (off := 464) (tgt := 497) hC hx dL_law_33 (by decide) (by decide) rfl (by decide) ?_
        refine zs_al hC dL_law_497 rfl ?_
        refine zs_al hC dL_law_498 rfl ?_
        refine zs_il hC dL_law_499 rfl ?_
        refine zs_k hC dL_law_500 ?_
        refine zs_iadd hC dL_law_501 ?_
        refine zs_sld hC hscr dL_law_502 (fun _ hf => ?_) hf
        refine zs_callV [.int (xs (v3 + (nI 1)).toNatClampNeg)] hC cw_X11_whose cl_RL_53 zL0 rfl (by decide) rfl rfl (Nat.le_of_ble_eq_true rfl) dL_law_503 (fun _ h => ctX11_whose h) (fun r17 m17 _ hf => ?_) hf
        show zAW X 506 _ (.int r17 :: _) m17
        refine zs_al hC dL_law_506 rfl ?_
        refine zs_al hC dL_law_507 rfl ?_
        refine zs_il hC dL_law_508 rfl ?_
        refine zs_k hC dL_law_509 ?_
        refine zs_iadd hC dL_law_510 ?_
        refine zs_sld hC hscr dL_law_511 (fun _ hf => ?_) hf
        refine zs_callV [.int (xs (v3 + (nI 1)).toNatClampNeg)] hC cw_X12_whose cl_RL_56 zL60 rfl (by decide) rfl rfl (Nat.le_of_ble_eq_true rfl) dL_law_512 (fun _ h => ctX12_whose h) (fun r18 m18 _ hf => ?_) hf
        show zAW X 515 _ (.int r18 :: _) m18
        refine zs_ic_eq hC dL_law_515 (fun _ hf => ?_) (fun _ hf => ?_) hf
        · refine zs_iinc (nI 6) hC dL_law_1152 (by decide) rfl (by decide) rfl ?_
          refine zs_goto hC dL_law_1155 ?_
          exact zAW.weak (ih _ _ hf) (zLw_s (zLw_s (zLw_s (zLw_s zLw_0))))
        · refine zs_k hC dL_law_518 ?_
          exact hret _ _ _ _ _ dL_law_519 hf
      refine zs_case (nI 10) (fun hx hf => ?_) (fun e33_10 hf => ?_) hf
      · refine zs_tabI (off := 487) (tgt := 520) hC hx dL_law_33 (by decide) (by decide) rfl (by decide) ?_
        refine zs_al hC dL_law_520 rfl ?_
        refine zs_callV [] hC cw_X11_alone cl_RL_57 zL0 rfl (by decide) rfl rfl (Nat.le_of_ble_eq_true rfl) dL_law_521 (fun _ h => ctX11_alone h) (fun r19 m19 _ hf => ?_) hf
        show zAW X 524 _ (.int r19 :: _) m19
        refine zs_al hC dL_law_524 rfl ?_
        refine zs_callV [] hC cw_X12_alone cl_RL_61 zL60 rfl (by decide) rfl rfl (Nat.le_of_ble_eq_true rfl) dL_law_525 (fun _ h => ctX12_alone h) (fun r20 m20 _ hf => ?_) hf
        show zAW X 528 _ (.int r20 :: _) m20
        refine zs_ic_eq hC dL_law_528 (fun _ hf => ?_) (fun _ hf => ?_) hf
        · refine zs_iinc (nI 6) hC dL_law_1152 (by decide) rfl (by decide) rfl ?_
          refine zs_goto hC dL_law_1155 ?_
          exact zAW.weak (ih _ _ hf) (zLw_s (zLw_s (zLw_s (zLw_s zLw_0))))
        · refine zs_k hC dL_law_531 ?_
          exact hret _ _ _ _ _ dL_law_532 hf
      refine zs_case (nI 11) (fun hx hf => ?_) (fun e33_11 hf => ?_) hf
      · refine zs_tabI (off := 500) (tgt := 533) hC hx dL_law_33 (by decide) (by decide) rfl (by decide) ?_
        refine zs_al hC dL_law_533 rfl ?_
        refine zs_al hC dL_law_534 rfl ?_
        refine zs_il hC dL_law_535 rfl ?_
        refine zs_k hC dL_law_536 ?_
        refine zs_iadd hC dL_law_537 ?_
        refine zs_sld hC hscr dL_law_538 (fun _ hf => ?_) hf
        refine zs_callV [.int (xs (v3 + (nI 1)).toNatClampNeg)] hC cw_X11_enough cl_RL_62 zL0 rfl (by decide) rfl rfl (Nat.le_of_ble_eq_true rfl) dL_law_539 (fun _ h => ctX11_enough h) (fun r21 m21 _ hf => ?_) hf
        show zAW X 542 _ (.int r21 :: _) m21
        refine zs_al hC dL_law_542 rfl ?_
        refine zs_al hC dL_law_543 rfl ?_
        refine zs_il hC dL_law_544 rfl ?_
        refine zs_k hC dL_law_545 ?_
        refine zs_iadd hC dL_law_546 ?_
        refine zs_sld hC hscr dL_law_547 (fun _ hf => ?_) hf
        refine zs_callV [.int (xs (v3 + (nI 1)).toNatClampNeg)] hC cw_X12_enough cl_RL_65 zL60 rfl (by decide) rfl rfl (Nat.le_of_ble_eq_true rfl) dL_law_548 (fun _ h => ctX12_enough h) (fun r22 m22 _ hf => ?_) hf
        show zAW X 551 _ (.int r22 :: _) m22
        refine zs_ic_eq hC dL_law_551 (fun _ hf => ?_) (fun _ hf => ?_) hf
        · refine zs_iinc (nI 6) hC dL_law_1152 (by decide) rfl (by decide) rfl ?_
          refine zs_goto hC dL_law_1155 ?_
          exact zAW.weak (ih _ _ hf) (zLw_s (zLw_s (zLw_s (zLw_s zLw_0))))
        · refine zs_k hC dL_law_554 ?_
          exact hret _ _ _ _ _ dL_law_555 hf
      refine zs_case (nI 12) (fun hx hf => ?_) (fun e33_12 hf => ?_) hf
      · refine zs_tabI (off := 523) (tgt := 556) hC hx dL_law_33 (by decide) (by decide) rfl (by decide) ?_
        refine zs_al hC dL_law_556 rfl ?_
        refine zs_al hC dL_law_557 rfl ?_
        refine zs_il hC dL_law_558 rfl ?_
        refine zs_k hC dL_law_559 ?_
        refine zs_iadd hC dL_law_560 ?_
        refine zs_sld hC hscr dL_law_561 (fun _ hf => ?_) hf
        refine zs_al hC dL_law_562 rfl ?_
        refine zs_il hC dL_law_563 rfl ?_
        refine zs_k hC dL_law_564 ?_
        refine zs_iadd hC dL_law_565 ?_
        refine zs_sld hC hscr dL_law_566 (fun _ hf => ?_) hf
        refine zs_callV [.int (xs (v3 + (nI 1)).toNatClampNeg), .int (xs (v3 + (nI 2)).toNatClampNeg)] hC cw_X11_backNumber cl_RL_66 zL0 rfl (by decide) rfl rfl (Nat.le_of_ble_eq_true rfl) dL_law_567 (fun _ h => ctX11_backNumber h) (fun r23 m23 _ hf => ?_) hf
        show zAW X 570 _ (.int r23 :: _) m23
        refine zs_al hC dL_law_570 rfl ?_
        refine zs_al hC dL_law_571 rfl ?_
        refine zs_il hC dL_law_572 rfl ?_
        refine zs_k hC dL_law_573 ?_
        refine zs_iadd hC dL_law_574 ?_
        refine zs_sld hC hscr dL_law_575 (fun _ hf => ?_) hf
        refine zs_al hC dL_law_576 rfl ?_
        refine zs_il hC dL_law_577 rfl ?_
        refine zs_k hC dL_law_578 ?_
        refine zs_iadd hC dL_law_579 ?_
        refine zs_sld hC hscr dL_law_580 (fun _ hf => ?_) hf
        refine zs_callV [.int (xs (v3 + (nI 1)).toNatClampNeg), .int (xs (v3 + (nI 2)).toNatClampNeg)] hC cw_X12_backNumber cl_RL_69 zL60 rfl (by decide) rfl rfl (Nat.le_of_ble_eq_true rfl) dL_law_581 (fun _ h => ctX12_backNumber h) (fun r24 m24 _ hf => ?_) hf
        show zAW X 584 _ (.int r24 :: _) m24
        refine zs_ic_eq hC dL_law_584 (fun _ hf => ?_) (fun _ hf => ?_) hf
        · refine zs_iinc (nI 6) hC dL_law_1152 (by decide) rfl (by decide) rfl ?_
          refine zs_goto hC dL_law_1155 ?_
          exact zAW.weak (ih _ _ hf) (zLw_s (zLw_s (zLw_s (zLw_s zLw_0))))
        · refine zs_k hC dL_law_587 ?_
          exact hret _ _ _ _ _ dL_law_588 hf
      refine zs_case (nI 13) (fun hx hf => ?_) (fun e33_13 hf => ?_) hf
      · refine zs_tabI (off := 556) (tgt := 589) hC hx dL_law_33 (by decide) (by decide) rfl (by decide) ?_
        refine zs_al hC dL_law_589 rfl ?_
        refine zs_al hC dL_law_590 rfl ?_
        refine zs_il hC dL_law_591 rfl ?_
        refine zs_k hC dL_law_592 ?_
        refine zs_iadd hC dL_law_593 ?_
        refine zs_sld hC hscr dL_law_594 (fun _ hf => ?_) hf
        refine zs_al hC dL_law_595 rfl ?_
        refine zs_il hC dL_law_596 rfl ?_
        refine zs_k hC dL_law_597 ?_
        refine zs_iadd hC dL_law_598 ?_
        refine zs_sld hC hscr dL_law_599 (fun _ hf => ?_) hf
        refine zs_callV [.int (xs (v3 + (nI 1)).toNatClampNeg), .int (xs (v3 + (nI 2)).toNatClampNeg)] hC cw_X11_blackmail cl_RL_70 zL0 rfl (by decide) rfl rfl (Nat.le_of_ble_eq_true rfl) dL_law_600 (fun _ h => ctX11_blackmail h) (fun r25 m25 _ hf => ?_) hf
        show zAW X 603 _ (.int r25 :: _) m25
        refine zs_al hC dL_law_603 rfl ?_
        refine zs_al hC dL_law_604 rfl ?_
        refine zs_il hC dL_law_605 rfl ?_
        refine zs_k hC dL_law_606 ?_
        refine zs_iadd hC dL_law_607 ?_
        refine zs_sld hC hscr dL_law_608 (fun _ hf => ?_) hf
        refine zs_al hC dL_law_609 rfl ?_
        refine zs_il hC dL_law_610 rfl ?_
        refine zs_k hC dL_law_611 ?_
        refine zs_iadd hC dL_law_612 ?_
        refine zs_sld hC hscr dL_law_613 (fun _ hf => ?_) hf
        refine zs_callV [.int (xs (v3 + (nI 1)).toNatClampNeg), .int (xs (v3 + (nI 2)).toNatClampNeg)] hC cw_X12_blackmail cl_RL_73 zL60 rfl (by decide) rfl rfl (Nat.le_of_ble_eq_true rfl) dL_law_614 (fun _ h => ctX12_blackmail h) (fun r26 m26 _ hf => ?_) hf
        show zAW X 617 _ (.int r26 :: _) m26
        refine zs_ic_eq hC dL_law_617 (fun _ hf => ?_) (fun _ hf => ?_) hf
        · refine zs_iinc (nI 6) hC dL_law_1152 (by decide) rfl (by decide) rfl ?_
          refine zs_goto hC dL_law_1155 ?_
          exact zAW.weak (ih _ _ hf) (zLw_s (zLw_s (zLw_s (zLw_s zLw_0))))
        · refine zs_k hC dL_law_620 ?_
          exact hret _ _ _ _ _ dL_law_621 hf
      refine zs_case (nI 14) (fun hx hf => ?_) (fun e33_14 hf => ?_) hf
      · refine zs_tabI (off := 589) (tgt := 622) hC hx dL_law_33 (by decide) (by decide) rfl (by decide) ?_
        refine zs_al hC dL_law_622 rfl ?_
        refine zs_al hC dL_law_623 rfl ?_
        refine zs_il hC dL_law_624 rfl ?_
        refine zs_k hC dL_law_625 ?_
        refine zs_iadd hC dL_law_626 ?_
        refine zs_sld hC hscr dL_law_627 (fun _ hf => ?_) hf
        refine zs_callV [.int (xs (v3 + (nI 1)).toNatClampNeg)] hC cw_X11_mostPrinted cl_RL_74 zL0 rfl (by decide) rfl rfl (Nat.le_of_ble_eq_true rfl) dL_law_628 (fun _ h => ctX11_mostPrinted h) (fun r27 m27 _ hf => ?_) hf
        show zAW X 631 _ (.int r27 :: _) m27
        refine zs_al hC dL_law_631 rfl ?_
        refine zs_al hC dL_law_632 rfl ?_
        refine zs_il hC dL_law_633 rfl ?_
        refine zs_k hC dL_law_634 ?_
        refine zs_iadd hC dL_law_635 ?_
        refine zs_sld hC hscr dL_law_636 (fun _ hf => ?_) hf
        refine zs_callV [.int (xs (v3 + (nI 1)).toNatClampNeg)] hC cw_X12_mostPrinted cl_RL_77 zL60 rfl (by decide) rfl rfl (Nat.le_of_ble_eq_true rfl) dL_law_637 (fun _ h => ctX12_mostPrinted h) (fun r28 m28 _ hf => ?_) hf
        show zAW X 640 _ (.int r28 :: _) m28
        refine zs_ic_eq hC dL_law_640 (fun _ hf => ?_) (fun _ hf => ?_) hf
        · refine zs_iinc (nI 6) hC dL_law_1152 (by decide) rfl (by decide) rfl ?_
          refine zs_goto hC dL_law_1155 ?_
          exact zAW.weak (ih _ _ hf) (zLw_s (zLw_s (zLw_s (zLw_s zLw_0))))
        · refine zs_k hC dL_law_643 ?_
          exact hret _ _ _ _ _ dL_law_644 hf
      refine zs_case (nI 15) (fun hx hf => ?_) (fun e33_15 hf => ?_) hf
      · refine zs_tabI (off := 612) (tgt := 645) hC hx dL_law_33 (by decide) (by decide) rfl (by decide) ?_
        refine zs_al hC dL_law_645 rfl ?_
        refine zs_al hC dL_law_646 rfl ?_
        refine zs_il hC dL_law_647 rfl ?_
        refine zs_k hC dL_law_648 ?_
        refine zs_iadd hC dL_law_649 ?_
        refine zs_sld hC hscr dL_law_650 (fun _ hf => ?_) hf
        refine zs_callV [.int (xs (v3 + (nI 1)).toNatClampNeg)] hC cw_X11_silent cl_RL_78 zL0 rfl (by decide) rfl rfl (Nat.le_of_ble_eq_true rfl) dL_law_651 (fun _ h => ctX11_silent h) (fun r29 m29 _ hf => ?_) hf
        show zAW X 654 _ (.int r29 :: _) m29
        refine zs_al hC dL_law_654 rfl ?_
        refine zs_al hC dL_law_655 rfl ?_
        refine zs_il hC dL_law_656 rfl ?_
        refine zs_k hC dL_law_657 ?_
        refine zs_iadd hC dL_law_658 ?_
        refine zs_sld hC hscr dL_law_659 (fun _ hf => ?_) hf
        refine zs_callV [.int (xs (v3 + (nI 1)).toNatClampNeg)] hC cw_X12_silent cl_RL_81 zL60 rfl (by decide) rfl rfl (Nat.le_of_ble_eq_true rfl) dL_law_660 (fun _ h => ctX12_silent h) (fun r30 m30 _ hf => ?_) hf
        show zAW X 663 _ (.int r30 :: _) m30
        refine zs_ic_eq hC dL_law_663 (fun _ hf => ?_) (fun _ hf => ?_) hf
        · refine zs_iinc (nI 6) hC dL_law_1152 (by decide) rfl (by decide) rfl ?_
          refine zs_goto hC dL_law_1155 ?_
          exact zAW.weak (ih _ _ hf) (zLw_s (zLw_s (zLw_s (zLw_s zLw_0))))
        · refine zs_k hC dL_law_666 ?_
          exact hret _ _ _ _ _ dL_law_667 hf
      refine zs_case (nI 16) (fun hx hf => ?_) (fun e33_16 hf => ?_) hf
      · refine zs_tabI (off := 635) (tgt := 668) hC hx dL_law_33 (by decide) (by decide) rfl (by decide) ?_
        refine zs_al hC dL_law_668 rfl ?_
        refine zs_al hC dL_law_669 rfl ?_
        refine zs_il hC dL_law_670 rfl ?_
        refine zs_k hC dL_law_671 ?_
        refine zs_iadd hC dL_law_672 ?_
        refine zs_sld hC hscr dL_law_673 (fun _ hf => ?_) hf
        refine zs_callV [.int (xs (v3 + (nI 1)).toNatClampNeg)] hC cw_X11_pair cl_RL_82 zL0 rfl (by decide) rfl rfl (Nat.le_of_ble_eq_true rfl) dL_law_674 (fun _ h => ctX11_pair h) (fun r31 m31 _ hf => ?_) hf
        show zAW X 677 _ (.int r31 :: _) m31
        refine zs_al hC dL_law_677 rfl ?_
        refine zs_al hC dL_law_678 rfl ?_
        refine zs_il hC dL_law_679 rfl ?_
        refine zs_k hC dL_law_680 ?_
        refine zs_iadd hC dL_law_681 ?_
        refine zs_sld hC hscr dL_law_682 (fun _ hf => ?_) hf
        refine zs_callV [.int (xs (v3 + (nI 1)).toNatClampNeg)] hC cw_X12_pair cl_RL_85 zL60 rfl (by decide) rfl rfl (Nat.le_of_ble_eq_true rfl) dL_law_683 (fun _ h => ctX12_pair h) (fun r32 m32 _ hf => ?_) hf
        show zAW X 686 _ (.int r32 :: _) m32
        refine zs_ic_eq hC dL_law_686 (fun _ hf => ?_) (fun _ hf => ?_) hf
        · refine zs_iinc (nI 6) hC dL_law_1152 (by decide) rfl (by decide) rfl ?_
          refine zs_goto hC dL_law_1155 ?_
          exact zAW.weak (ih _ _ hf) (zLw_s (zLw_s (zLw_s (zLw_s zLw_0))))
        · refine zs_k hC dL_law_689 ?_
          exact hret _ _ _ _ _ dL_law_690 hf
      refine zs_case (nI 17) (fun hx hf => ?_) (fun e33_17 hf => ?_) hf
      · refine zs_tabI (off := 658) (tgt := 691) hC hx dL_law_33 (by decide) (by decide) rfl (by decide) ?_
        refine zs_al hC dL_law_691 rfl ?_
        refine zs_al hC dL_law_692 rfl ?_
        refine zs_il hC dL_law_693 rfl ?_
        refine zs_k hC dL_law_694 ?_
        refine zs_iadd hC dL_law_695 ?_
        refine zs_sld hC hscr dL_law_696 (fun _ hf => ?_) hf
        refine zs_callV [.int (xs (v3 + (nI 1)).toNatClampNeg)] hC cw_X11_reached cl_RL_86 zL0 rfl (by decide) rfl rfl (Nat.le_of_ble_eq_true rfl) dL_law_697 (fun _ h => ctX11_reached h) (fun r33 m33 _ hf => ?_) hf
        show zAW X 700 _ (.int r33 :: _) m33
        refine zs_al hC dL_law_700 rfl ?_
        refine zs_al hC dL_law_701 rfl ?_
        refine zs_il hC dL_law_702 rfl ?_
        refine zs_k hC dL_law_703 ?_
        refine zs_iadd hC dL_law_704 ?_
        refine zs_sld hC hscr dL_law_705 (fun _ hf => ?_) hf
        refine zs_callV [.int (xs (v3 + (nI 1)).toNatClampNeg)] hC cw_X12_reached cl_RL_89 zL60 rfl (by decide) rfl rfl (Nat.le_of_ble_eq_true rfl) dL_law_706 (fun _ h => ctX12_reached h) (fun r34 m34 _ hf => ?_) hf
        show zAW X 709 _ (.int r34 :: _) m34
        refine zs_ic_eq hC dL_law_709 (fun _ hf => ?_) (fun _ hf => ?_) hf
        · refine zs_iinc (nI 6) hC dL_law_1152 (by decide) rfl (by decide) rfl ?_
          refine zs_goto hC dL_law_1155 ?_
          exact zAW.weak (ih _ _ hf) (zLw_s (zLw_s (zLw_s (zLw_s zLw_0))))
        · refine zs_k hC dL_law_712 ?_
          exact hret _ _ _ _ _ dL_law_713 hf
      refine zs_case (nI 18) (fun hx hf => ?_) (fun e33_18 hf => ?_) hf
      · refine zs_tabI (off := 681) (tgt := 714) hC hx dL_law_33 (by decide) (by decide) rfl (by decide) ?_
        refine zs_al hC dL_law_714 rfl ?_
        refine zs_al hC dL_law_715 rfl ?_
        refine zs_il hC dL_law_716 rfl ?_
        refine zs_k hC dL_law_717 ?_
        refine zs_iadd hC dL_law_718 ?_
        refine zs_sld hC hscr dL_law_719 (fun _ hf => ?_) hf
        refine zs_al hC dL_law_720 rfl ?_
        refine zs_il hC dL_law_721 rfl ?_
        refine zs_k hC dL_law_722 ?_
        refine zs_iadd hC dL_law_723 ?_
        refine zs_sld hC hscr dL_law_724 (fun _ hf => ?_) hf
        refine zs_callV [.int (xs (v3 + (nI 1)).toNatClampNeg), .int (xs (v3 + (nI 2)).toNatClampNeg)] hC cw_X11_lineOf cl_RL_90 zL0 rfl (by decide) rfl rfl (Nat.le_of_ble_eq_true rfl) dL_law_725 (fun _ h => ctX11_lineOf h) (fun r35 m35 _ hf => ?_) hf
        show zAW X 728 _ (.int r35 :: _) m35
        refine zs_al hC dL_law_728 rfl ?_
        refine zs_al hC dL_law_729 rfl ?_
        refine zs_il hC dL_law_730 rfl ?_
        refine zs_k hC dL_law_731 ?_
        refine zs_iadd hC dL_law_732 ?_
        refine zs_sld hC hscr dL_law_733 (fun _ hf => ?_) hf
        refine zs_al hC dL_law_734 rfl ?_
        refine zs_il hC dL_law_735 rfl ?_
        refine zs_k hC dL_law_736 ?_
        refine zs_iadd hC dL_law_737 ?_
        refine zs_sld hC hscr dL_law_738 (fun _ hf => ?_) hf
        refine zs_callV [.int (xs (v3 + (nI 1)).toNatClampNeg), .int (xs (v3 + (nI 2)).toNatClampNeg)] hC cw_X12_lineOf cl_RL_93 zL60 rfl (by decide) rfl rfl (Nat.le_of_ble_eq_true rfl) dL_law_739 (fun _ h => ctX12_lineOf h) (fun r36 m36 _ hf => ?_) hf
        show zAW X 742 _ (.int r36 :: _) m36
        refine zs_ic_eq hC dL_law_742 (fun _ hf => ?_) (fun _ hf => ?_) hf
        · refine zs_iinc (nI 6) hC dL_law_1152 (by decide) rfl (by decide) rfl ?_
          refine zs_goto hC dL_law_1155 ?_
          exact zAW.weak (ih _ _ hf) (zLw_s (zLw_s (zLw_s (zLw_s zLw_0))))
        · refine zs_k hC dL_law_745 ?_
          exact hret _ _ _ _ _ dL_law_746 hf
      refine zs_case (nI 19) (fun hx hf => ?_) (fun e33_19 hf => ?_) hf
      · refine zs_tabI (off := 714) (tgt := 747) hC hx dL_law_33 (by decide) (by decide) rfl (by decide) ?_
        refine zs_al hC dL_law_747 rfl ?_
        refine zs_al hC dL_law_748 rfl ?_
        refine zs_il hC dL_law_749 rfl ?_
        refine zs_k hC dL_law_750 ?_
        refine zs_iadd hC dL_law_751 ?_
        refine zs_sld hC hscr dL_law_752 (fun _ hf => ?_) hf
        refine zs_callV [.int (xs (v3 + (nI 1)).toNatClampNeg)] hC cw_X11_copyIs cl_RL_94 zL0 rfl (by decide) rfl rfl (Nat.le_of_ble_eq_true rfl) dL_law_753 (fun _ h => ctX11_copyIs h) (fun r37 m37 _ hf => ?_) hf
        show zAW X 756 _ (.int r37 :: _) m37
        refine zs_al hC dL_law_756 rfl ?_
        refine zs_al hC dL_law_757 rfl ?_
        refine zs_il hC dL_law_758 rfl ?_
        refine zs_k hC dL_law_759 ?_
        refine zs_iadd hC dL_law_760 ?_
        refine zs_sld hC hscr dL_law_761 (fun _ hf => ?_) hf
        refine zs_callV [.int (xs (v3 + (nI 1)).toNatClampNeg)] hC cw_X12_copyIs cl_RL_97 zL60 rfl (by decide) rfl rfl (Nat.le_of_ble_eq_true rfl) dL_law_762 (fun _ h => ctX12_copyIs h) (fun r38 m38 _ hf => ?_) hf
        show zAW X 765 _ (.int r38 :: _) m38
        refine zs_ic_eq hC dL_law_765 (fun _ hf => ?_) (fun _ hf => ?_) hf
        · refine zs_iinc (nI 6) hC dL_law_1152 (by decide) rfl (by decide) rfl ?_
          refine zs_goto hC dL_law_1155 ?_
          exact zAW.weak (ih _ _ hf) (zLw_s (zLw_s (zLw_s (zLw_s zLw_0))))
        · refine zs_k hC dL_law_768 ?_
          exact hret _ _ _ _ _ dL_law_769 hf
      refine zs_case (nI 20) (fun hx hf => ?_) (fun e33_20 hf => ?_) hf
      · refine zs_tabI (off := 737) (tgt := 770) hC hx dL_law_33 (by decide) (by decide) rfl (by decide) ?_
        refine zs_al hC dL_law_770 rfl ?_
        refine zs_al hC dL_law_771 rfl ?_
        refine zs_il hC dL_law_772 rfl ?_
        refine zs_k hC dL_law_773 ?_
        refine zs_iadd hC dL_law_774 ?_
        refine zs_sld hC hscr dL_law_775 (fun _ hf => ?_) hf
        refine zs_al hC dL_law_776 rfl ?_
        refine zs_il hC dL_law_777 rfl ?_
        refine zs_k hC dL_law_778 ?_
        refine zs_iadd hC dL_law_779 ?_
        refine zs_sld hC hscr dL_law_780 (fun _ hf => ?_) hf
        refine zs_callV [.int (xs (v3 + (nI 1)).toNatClampNeg), .int (xs (v3 + (nI 2)).toNatClampNeg)] hC cw_X11_set cl_RL_98 zL0 rfl (by decide) rfl rfl (Nat.le_of_ble_eq_true rfl) dL_law_781 (fun _ h => ctX11_set h) (fun r39 m39 _ hf => ?_) hf
        show zAW X 784 _ (.int r39 :: _) m39
        refine zs_al hC dL_law_784 rfl ?_
        refine zs_al hC dL_law_785 rfl ?_
        refine zs_il hC dL_law_786 rfl ?_
        refine zs_k hC dL_law_787 ?_
        refine zs_iadd hC dL_law_788 ?_
        refine zs_sld hC hscr dL_law_789 (fun _ hf => ?_) hf
        refine zs_al hC dL_law_790 rfl ?_
        refine zs_il hC dL_law_791 rfl ?_
        refine zs_k hC dL_law_792 ?_
        refine zs_iadd hC dL_law_793 ?_
        refine zs_sld hC hscr dL_law_794 (fun _ hf => ?_) hf
        refine zs_callV [.int (xs (v3 + (nI 1)).toNatClampNeg), .int (xs (v3 + (nI 2)).toNatClampNeg)] hC cw_X12_set cl_RL_101 zL60 rfl (by decide) rfl rfl (Nat.le_of_ble_eq_true rfl) dL_law_795 (fun _ h => ctX12_set h) (fun r40 m40 _ hf => ?_) hf
        show zAW X 798 _ (.int r40 :: _) m40
        refine zs_ic_eq hC dL_law_798 (fun _ hf => ?_) (fun _ hf => ?_) hf
        · refine zs_iinc (nI 6) hC dL_law_1152 (by decide) rfl (by decide) rfl ?_
          refine zs_goto hC dL_law_1155 ?_
          exact zAW.weak (ih _ _ hf) (zLw_s (zLw_s (zLw_s (zLw_s zLw_0))))
        · refine zs_k hC dL_law_801 ?_
          exact hret _ _ _ _ _ dL_law_802 hf
      refine zs_case (nI 21) (fun hx hf => ?_) (fun e33_21 hf => ?_) hf
      · refine zs_tabI (off := 770) (tgt := 803) hC hx dL_law_33 (by decide) (by decide) rfl (by decide) ?_
        refine zs_al hC dL_law_803 rfl ?_
        refine zs_al hC dL_law_804 rfl ?_
        refine zs_il hC dL_law_805 rfl ?_
        refine zs_k hC dL_law_806 ?_
        refine zs_iadd hC dL_law_807 ?_
        refine zs_sld hC hscr dL_law_808 (fun _ hf => ?_) hf
        refine zs_callV [.int (xs (v3 + (nI 1)).toNatClampNeg)] hC cw_X11_type cl_RL_102 zL0 rfl (by decide) rfl rfl (Nat.le_of_ble_eq_true rfl) dL_law_809 (fun _ h => ctX11_type h) (fun r41 m41 _ hf => ?_) hf
        show zAW X 812 _ (.int r41 :: _) m41
        refine zs_al hC dL_law_812 rfl ?_
        refine zs_al hC dL_law_813 rfl ?_
        refine zs_il hC dL_law_814 rfl ?_
        refine zs_k hC dL_law_815 ?_
        refine zs_iadd hC dL_law_816 ?_
        refine zs_sld hC hscr dL_law_817 (fun _ hf => ?_) hf
        refine zs_callV [.int (xs (v3 + (nI 1)).toNatClampNeg)] hC cw_X12_type cl_RL_105 zL60 rfl (by decide) rfl rfl (Nat.le_of_ble_eq_true rfl) dL_law_818 (fun _ h => ctX12_type h) (fun r42 m42 _ hf => ?_) hf
        show zAW X 821 _ (.int r42 :: _) m42
        refine zs_ic_eq hC dL_law_821 (fun _ hf => ?_) (fun _ hf => ?_) hf
        · refine zs_iinc (nI 6) hC dL_law_1152 (by decide) rfl (by decide) rfl ?_
          refine zs_goto hC dL_law_1155 ?_
          exact zAW.weak (ih _ _ hf) (zLw_s (zLw_s (zLw_s (zLw_s zLw_0))))
        · refine zs_k hC dL_law_824 ?_
          exact hret _ _ _ _ _ dL_law_825 hf
      refine zs_case (nI 22) (fun hx hf => ?_) (fun e33_22 hf => ?_) hf
      · refine zs_tabI (off := 793) (tgt := 826) hC hx dL_law_33 (by decide) (by decide) rfl (by decide) ?_
        refine zs_al hC dL_law_826 rfl ?_
        refine zs_al hC dL_law_827 rfl ?_
        refine zs_il hC dL_law_828 rfl ?_
        refine zs_k hC dL_law_829 ?_
        refine zs_iadd hC dL_law_830 ?_
        refine zs_sld hC hscr dL_law_831 (fun _ hf => ?_) hf
        refine zs_callV [.int (xs (v3 + (nI 1)).toNatClampNeg)] hC cw_X11_bought cl_RL_106 zL0 rfl (by decide) rfl rfl (Nat.le_of_ble_eq_true rfl) dL_law_832 (fun _ h => ctX11_bought h) (fun r43 m43 _ hf => ?_) hf
        show zAW X 835 _ (.int r43 :: _) m43
        refine zs_al hC dL_law_835 rfl ?_
        refine zs_al hC dL_law_836 rfl ?_
        refine zs_il hC dL_law_837 rfl ?_
        refine zs_k hC dL_law_838 ?_
        refine zs_iadd hC dL_law_839 ?_
        refine zs_sld hC hscr dL_law_840 (fun _ hf => ?_) hf
        refine zs_callV [.int (xs (v3 + (nI 1)).toNatClampNeg)] hC cw_X12_bought cl_RL_109 zL60 rfl (by decide) rfl rfl (Nat.le_of_ble_eq_true rfl) dL_law_841 (fun _ h => ctX12_bought h) (fun r44 m44 _ hf => ?_) hf
        show zAW X 844 _ (.int r44 :: _) m44
        refine zs_ic_eq hC dL_law_844 (fun _ hf => ?_) (fun _ hf => ?_) hf
        · refine zs_iinc (nI 6) hC dL_law_1152 (by decide) rfl (by decide) rfl ?_
          refine zs_goto hC dL_law_1155 ?_
          exact zAW.weak (ih _ _ hf) (zLw_s (zLw_s (zLw_s (zLw_s zLw_0))))
        · refine zs_k hC dL_law_847 ?_
          exact hret _ _ _ _ _ dL_law_848 hf
      refine zs_case (nI 23) (fun hx hf => ?_) (fun e33_23 hf => ?_) hf
      · refine zs_tabI (off := 816) (tgt := 849) hC hx dL_law_33 (by decide) (by decide) rfl (by decide) ?_
        refine zs_al hC dL_law_849 rfl ?_
        refine zs_al hC dL_law_850 rfl ?_
        refine zs_il hC dL_law_851 rfl ?_
        refine zs_k hC dL_law_852 ?_
        refine zs_iadd hC dL_law_853 ?_
        refine zs_sld hC hscr dL_law_854 (fun _ hf => ?_) hf
        refine zs_al hC dL_law_855 rfl ?_
        refine zs_il hC dL_law_856 rfl ?_
        refine zs_k hC dL_law_857 ?_
        refine zs_iadd hC dL_law_858 ?_
        refine zs_sld hC hscr dL_law_859 (fun _ hf => ?_) hf
        refine zs_callV [.int (xs (v3 + (nI 1)).toNatClampNeg), .int (xs (v3 + (nI 2)).toNatClampNeg)] hC cw_X11_nuns cl_RL_110 zL0 rfl (by decide) rfl rfl (Nat.le_of_ble_eq_true rfl) dL_law_860 (fun _ h => ctX11_nuns h) (fun r45 m45 _ hf => ?_) hf
        show zAW X 863 _ (.int r45 :: _) m45
        refine zs_al hC dL_law_863 rfl ?_
        refine zs_al hC dL_law_864 rfl ?_
        refine zs_il hC dL_law_865 rfl ?_
        refine zs_k hC dL_law_866 ?_
        refine zs_iadd hC dL_law_867 ?_
        refine zs_sld hC hscr dL_law_868 (fun _ hf => ?_) hf
        refine zs_al hC dL_law_869 rfl ?_
        refine zs_il hC dL_law_870 rfl ?_
        refine zs_k hC dL_law_871 ?_
        refine zs_iadd hC dL_law_872 ?_
        refine zs_sld hC hscr dL_law_873 (fun _ hf => ?_) hf
        refine zs_callV [.int (xs (v3 + (nI 1)).toNatClampNeg), .int (xs (v3 + (nI 2)).toNatClampNeg)] hC cw_X12_nuns cl_RL_113 zL60 rfl (by decide) rfl rfl (Nat.le_of_ble_eq_true rfl) dL_law_874 (fun _ h => ctX12_nuns h) (fun r46 m46 _ hf => ?_) hf
        show zAW X 877 _ (.int r46 :: _) m46
        refine zs_ic_eq hC dL_law_877 (fun _ hf => ?_) (fun _ hf => ?_) hf
        · refine zs_iinc (nI 6) hC dL_law_1152 (by decide) rfl (by decide) rfl ?_
          refine zs_goto hC dL_law_1155 ?_
          exact zAW.weak (ih _ _ hf) (zLw_s (zLw_s (zLw_s (zLw_s zLw_0))))
        · refine zs_k hC dL_law_880 ?_
          exact hret _ _ _ _ _ dL_law_881 hf
      refine zs_case (nI 24) (fun hx hf => ?_) (fun e33_24 hf => ?_) hf
      · refine zs_tabI (off := 849) (tgt := 882) hC hx dL_law_33 (by decide) (by decide) rfl (by decide) ?_
        refine zs_al hC dL_law_882 rfl ?_
        refine zs_al hC dL_law_883 rfl ?_
        refine zs_il hC dL_law_884 rfl ?_
        refine zs_k hC dL_law_885 ?_
        refine zs_iadd hC dL_law_886 ?_
        refine zs_sld hC hscr dL_law_887 (fun _ hf => ?_) hf
        refine zs_al hC dL_law_888 rfl ?_
        refine zs_il hC dL_law_889 rfl ?_
        refine zs_k hC dL_law_890 ?_
        refine zs_iadd hC dL_law_891 ?_
        refine zs_sld hC hscr dL_law_892 (fun _ hf => ?_) hf
        refine zs_al hC dL_law_893 rfl ?_
        refine zs_il hC dL_law_894 rfl ?_
        refine zs_k hC dL_law_895 ?_
        refine zs_iadd hC dL_law_896 ?_
        refine zs_sld hC hscr dL_law_897 (fun _ hf => ?_) hf
        refine zs_callV [.int (xs (v3 + (nI 1)).toNatClampNeg), .int (xs (v3 + (nI 2)).toNatClampNeg), .int (xs (v3 + (nI 3)).toNatClampNeg)] hC cw_X11_space cl_RL_114 zL0 rfl (by decide) rfl rfl (Nat.le_of_ble_eq_true rfl) dL_law_898 (fun _ h => ctX11_space h) (fun r47 m47 _ hf => ?_) hf
        show zAW X 901 _ (.int r47 :: _) m47
        refine zs_al hC dL_law_901 rfl ?_
        refine zs_al hC dL_law_902 rfl ?_
        refine zs_il hC dL_law_903 rfl ?_
        refine zs_k hC dL_law_904 ?_
        refine zs_iadd hC dL_law_905 ?_
        refine zs_sld hC hscr dL_law_906 (fun _ hf => ?_) hf
        refine zs_al hC dL_law_907 rfl ?_
        refine zs_il hC dL_law_908 rfl ?_
        refine zs_k hC dL_law_909 ?_
        refine zs_iadd hC dL_law_910 ?_
        refine zs_sld hC hscr dL_law_911 (fun _ hf => ?_) hf
        refine zs_al hC dL_law_912 rfl ?_
        refine zs_il hC dL_law_913 rfl ?_
        refine zs_k hC dL_law_914 ?_
        refine zs_iadd hC dL_law_915 ?_
        refine zs_sld hC hscr dL_law_916 (fun _ hf => ?_) hf
        refine zs_callV [.int (xs (v3 + (nI 1)).toNatClampNeg), .int (xs (v3 + (nI 2)).toNatClampNeg), .int (xs (v3 + (nI 3)).toNatClampNeg)] hC cw_X12_space cl_RL_118 zL60 rfl (by decide) rfl rfl (Nat.le_of_ble_eq_true rfl) dL_law_917 (fun _ h => ctX12_space h) (fun r48 m48 _ hf => ?_) hf
        show zAW X 920 _ (.int r48 :: _) m48
        refine zs_ic_eq hC dL_law_920 (fun _ hf => ?_) (fun _ hf => ?_) hf
        · refine zs_iinc (nI 6) hC dL_law_1152 (by decide) rfl (by decide) rfl ?_
          refine zs_goto hC dL_law_1155 ?_
          exact zAW.weak (ih _ _ hf) (zLw_s (zLw_s (zLw_s (zLw_s zLw_0))))
        · refine zs_k hC dL_law_923 ?_
          exact hret _ _ _ _ _ dL_law_924 hf
      refine zs_case (nI 25) (fun hx hf => ?_) (fun e33_25 hf => ?_) hf
      · refine zs_tabI (off := 892) (tgt := 925) hC hx dL_law_33 (by decide) (by decide) rfl (by decide) ?_
        refine zs_al hC dL_law_925 rfl ?_
        refine zs_al hC dL_law_926 rfl ?_
        refine zs_il hC dL_law_927 rfl ?_
        refine zs_k hC dL_law_928 ?_
        refine zs_iadd hC dL_law_929 ?_
        refine zs_sld hC hscr dL_law_930 (fun _ hf => ?_) hf
        refine zs_al hC dL_law_931 rfl ?_
        refine zs_il hC dL_law_932 rfl ?_
        refine zs_k hC dL_law_933 ?_
        refine zs_iadd hC dL_law_934 ?_
        refine zs_sld hC hscr dL_law_935 (fun _ hf => ?_) hf
        refine zs_callV [.int (xs (v3 + (nI 1)).toNatClampNeg), .int (xs (v3 + (nI 2)).toNatClampNeg)] hC cw_X11_style cl_RL_119 zL0 rfl (by decide) rfl rfl (Nat.le_of_ble_eq_true rfl) dL_law_936 (fun _ h => ctX11_style h) (fun r49 m49 _ hf => ?_) hf
        show zAW X 939 _ (.int r49 :: _) m49
        refine zs_al hC dL_law_939 rfl ?_
        refine zs_al hC dL_law_940 rfl ?_
        refine zs_il hC dL_law_941 rfl ?_
        refine zs_k hC dL_law_942 ?_
        refine zs_iadd hC dL_law_943 ?_
        refine zs_sld hC hscr dL_law_944 (fun _ hf => ?_) hf
        refine zs_al hC dL_law_945 rfl ?_
        refine zs_il hC dL_law_946 rfl ?_
        refine zs_k hC dL_law_947 ?_
        refine zs_iadd hC dL_law_948 ?_
        refine zs_sld hC hscr dL_law_949 (fun _ hf => ?_) hf
        refine zs_callV [.int (xs (v3 + (nI 1)).toNatClampNeg), .int (xs (v3 + (nI 2)).toNatClampNeg)] hC cw_X12_style cl_RL_122 zL60 rfl (by decide) rfl rfl (Nat.le_of_ble_eq_true rfl) dL_law_950 (fun _ h => ctX12_style h) (fun r50 m50 _ hf => ?_) hf
        show zAW X 953 _ (.int r50 :: _) m50
        refine zs_ic_eq hC dL_law_953 (fun _ hf => ?_) (fun _ hf => ?_) hf
        · refine zs_iinc (nI 6) hC dL_law_1152 (by decide) rfl (by decide) rfl ?_
          refine zs_goto hC dL_law_1155 ?_
          exact zAW.weak (ih _ _ hf) (zLw_s (zLw_s (zLw_s (zLw_s zLw_0))))
        · refine zs_k hC dL_law_956 ?_
          exact hret _ _ _ _ _ dL_law_957 hf
      refine zs_case (nI 26) (fun hx hf => ?_) (fun e33_26 hf => ?_) hf
      · refine zs_tabI (off := 925) (tgt := 958) hC hx dL_law_33 (by decide) (by decide) rfl (by decide) ?_
        refine zs_al hC dL_law_958 rfl ?_
        refine zs_al hC dL_law_959 rfl ?_
        refine zs_il hC dL_law_960 rfl ?_
        refine zs_k hC dL_law_961 ?_
        refine zs_iadd hC dL_law_962 ?_
        refine zs_sld hC hscr dL_law_963 (fun _ hf => ?_) hf
        refine zs_al hC dL_law_964 rfl ?_
        refine zs_il hC dL_law_965 rfl ?_
        refine zs_k hC dL_law_966 ?_
        refine zs_iadd hC dL_law_967 ?_
        refine zs_sld hC hscr dL_law_968 (fun _ hf => ?_) hf
        refine zs_callV [.int (xs (v3 + (nI 1)).toNatClampNeg), .int (xs (v3 + (nI 2)).toNatClampNeg)] hC cw_X11_names cl_RL_123 zL0 rfl (by decide) rfl rfl (Nat.le_of_ble_eq_true rfl) dL_law_969 (fun _ h => ctX11_names h) (fun r51 m51 _ hf => ?_) hf
        show zAW X 972 _ (.int r51 :: _) m51
        refine zs_al hC dL_law_972 rfl ?_
        refine zs_al hC dL_law_973 rfl ?_
        refine zs_il hC dL_law_974 rfl ?_
        refine zs_k hC dL_law_975 ?_
        refine zs_iadd hC dL_law_976 ?_
        refine zs_sld hC hscr dL_law_977 (fun _ hf => ?_) hf
        refine zs_al hC dL_law_978 rfl ?_
        refine zs_il hC dL_law_979 rfl ?_
        refine zs_k hC dL_law_980 ?_
        refine zs_iadd hC dL_law_981 ?_
        refine zs_sld hC hscr dL_law_982 (fun _ hf => ?_) hf
        refine zs_callV [.int (xs (v3 + (nI 1)).toNatClampNeg), .int (xs (v3 + (nI 2)).toNatClampNeg)] hC cw_X12_names cl_RL_126 zL60 rfl (by decide) rfl rfl (Nat.le_of_ble_eq_true rfl) dL_law_983 (fun _ h => ctX12_names h) (fun r52 m52 _ hf => ?_) hf
        show zAW X 986 _ (.int r52 :: _) m52
        refine zs_ic_eq hC dL_law_986 (fun _ hf => ?_) (fun _ hf => ?_) hf
        · refine zs_iinc (nI 6) hC dL_law_1152 (by decide) rfl (by decide) rfl ?_
          refine zs_goto hC dL_law_1155 ?_
          exact zAW.weak (ih _ _ hf) (zLw_s (zLw_s (zLw_s (zLw_s zLw_0))))
        · refine zs_k hC dL_law_989 ?_
          exact hret _ _ _ _ _ dL_law_990 hf
      refine zs_case (nI 27) (fun hx hf => ?_) (fun e33_27 hf => ?_) hf
      · refine zs_tabI (off := 958) (tgt := 991) hC hx dL_law_33 (by decide) (by decide) rfl (by decide) ?_
        refine zs_al hC dL_law_991 rfl ?_
        refine zs_al hC dL_law_992 rfl ?_
        refine zs_il hC dL_law_993 rfl ?_
        refine zs_k hC dL_law_994 ?_
        refine zs_iadd hC dL_law_995 ?_
        refine zs_sld hC hscr dL_law_996 (fun _ hf => ?_) hf
        refine zs_al hC dL_law_997 rfl ?_
        refine zs_il hC dL_law_998 rfl ?_
        refine zs_k hC dL_law_999 ?_
        refine zs_iadd hC dL_law_1000 ?_
        refine zs_sld hC hscr dL_law_1001 (fun _ hf => ?_) hf
        refine zs_callV [.int (xs (v3 + (nI 1)).toNatClampNeg), .int (xs (v3 + (nI 2)).toNatClampNeg)] hC cw_X11_duty cl_RL_127 zL0 rfl (by decide) rfl rfl (Nat.le_of_ble_eq_true rfl) dL_law_1002 (fun _ h => ctX11_duty h) (fun r53 m53 _ hf => ?_) hf
        show zAW X 1005 _ (.int r53 :: _) m53
        refine zs_al hC dL_law_1005 rfl ?_
        refine zs_al hC dL_law_1006 rfl ?_
        refine zs_il hC dL_law_1007 rfl ?_
        refine zs_k hC dL_law_1008 ?_
        refine zs_iadd hC dL_law_1009 ?_
        refine zs_sld hC hscr dL_law_1010 (fun _ hf => ?_) hf
        refine zs_al hC dL_law_1011 rfl ?_
        refine zs_il hC dL_law_1012 rfl ?_
        refine zs_k hC dL_law_1013 ?_
        refine zs_iadd hC dL_law_1014 ?_
        refine zs_sld hC hscr dL_law_1015 (fun _ hf => ?_) hf
        refine zs_callV [.int (xs (v3 + (nI 1)).toNatClampNeg), .int (xs (v3 + (nI 2)).toNatClampNeg)] hC cw_X12_duty cl_RL_130 zL60 rfl (by decide) rfl rfl (Nat.le_of_ble_eq_true rfl) dL_law_1016 (fun _ h => ctX12_duty h) (fun r54 m54 _ hf => ?_) hf
        show zAW X 1019 _ (.int r54 :: _) m54
        refine zs_ic_eq hC dL_law_1019 (fun _ hf => ?_) (fun _ hf => ?_) hf
        · refine zs_iinc (nI 6) hC dL_law_1152 (by decide) rfl (by decide) rfl ?_
          refine zs_goto hC dL_law_1155 ?_
          exact zAW.weak (ih _ _ hf) (zLw_s (zLw_s (zLw_s (zLw_s zLw_0))))
        · refine zs_k hC dL_law_1022 ?_
          exact hret _ _ _ _ _ dL_law_1023 hf
      refine zs_case (nI 28) (fun hx hf => ?_) (fun e33_28 hf => ?_) hf
      · refine zs_tabI (off := 991) (tgt := 1024) hC hx dL_law_33 (by decide) (by decide) rfl (by decide) ?_
        refine zs_al hC dL_law_1024 rfl ?_
        refine zs_al hC dL_law_1025 rfl ?_
        refine zs_il hC dL_law_1026 rfl ?_
        refine zs_k hC dL_law_1027 ?_
        refine zs_iadd hC dL_law_1028 ?_
        refine zs_sld hC hscr dL_law_1029 (fun _ hf => ?_) hf
        refine zs_al hC dL_law_1030 rfl ?_
        refine zs_il hC dL_law_1031 rfl ?_
        refine zs_k hC dL_law_1032 ?_
        refine zs_iadd hC dL_law_1033 ?_
        refine zs_sld hC hscr dL_law_1034 (fun _ hf => ?_) hf
        refine zs_callV [.int (xs (v3 + (nI 1)).toNatClampNeg), .int (xs (v3 + (nI 2)).toNatClampNeg)] hC cw_X11_hands cl_RL_131 zL0 rfl (by decide) rfl rfl (Nat.le_of_ble_eq_true rfl) dL_law_1035 (fun _ h => ctX11_hands h) (fun r55 m55 _ hf => ?_) hf
        show zAW X 1038 _ (.int r55 :: _) m55
        refine zs_al hC dL_law_1038 rfl ?_
        refine zs_al hC dL_law_1039 rfl ?_
        refine zs_il hC dL_law_1040 rfl ?_
        refine zs_k hC dL_law_1041 ?_
        refine zs_iadd hC dL_law_1042 ?_
        refine zs_sld hC hscr dL_law_1043 (fun _ hf => ?_) hf
        refine zs_al hC dL_law_1044 rfl ?_
        refine zs_il hC dL_law_1045 rfl ?_
        refine zs_k hC dL_law_1046 ?_
        refine zs_iadd hC dL_law_1047 ?_
        refine zs_sld hC hscr dL_law_1048 (fun _ hf => ?_) hf
        refine zs_callV [.int (xs (v3 + (nI 1)).toNatClampNeg), .int (xs (v3 + (nI 2)).toNatClampNeg)] hC cw_X12_hands cl_RL_134 zL60 rfl (by decide) rfl rfl (Nat.le_of_ble_eq_true rfl) dL_law_1049 (fun _ h => ctX12_hands h) (fun r56 m56 _ hf => ?_) hf
        show zAW X 1052 _ (.int r56 :: _) m56
        refine zs_ic_eq hC dL_law_1052 (fun _ hf => ?_) (fun _ hf => ?_) hf
        · refine zs_iinc (nI 6) hC dL_law_1152 (by decide) rfl (by decide) rfl ?_
          refine zs_goto hC dL_law_1155 ?_
          exact zAW.weak (ih _ _ hf) (zLw_s (zLw_s (zLw_s (zLw_s zLw_0))))
        · refine zs_k hC dL_law_1055 ?_
          exact hret _ _ _ _ _ dL_law_1056 hf
      refine zs_case (nI 29) (fun hx hf => ?_) (fun e33_29 hf => ?_) hf
      · refine zs_tabI (off := 1024) (tgt := 1057) hC hx dL_law_33 (by decide) (by decide) rfl (by decide) ?_
        refine zs_al hC dL_law_1057 rfl ?_
        refine zs_al hC dL_law_1058 rfl ?_
        refine zs_il hC dL_law_1059 rfl ?_
        refine zs_k hC dL_law_1060 ?_
        refine zs_iadd hC dL_law_1061 ?_
        refine zs_sld hC hscr dL_law_1062 (fun _ hf => ?_) hf
        refine zs_callV [.int (xs (v3 + (nI 1)).toNatClampNeg)] hC cw_X11_seed cl_RL_135 zL0 rfl (by decide) rfl rfl (Nat.le_of_ble_eq_true rfl) dL_law_1063 (fun _ h => ctX11_seed h) (fun r57 m57 _ hf => ?_) hf
        show zAW X 1066 _ (.int r57 :: _) m57
        refine zs_al hC dL_law_1066 rfl ?_
        refine zs_al hC dL_law_1067 rfl ?_
        refine zs_il hC dL_law_1068 rfl ?_
        refine zs_k hC dL_law_1069 ?_
        refine zs_iadd hC dL_law_1070 ?_
        refine zs_sld hC hscr dL_law_1071 (fun _ hf => ?_) hf
        refine zs_callV [.int (xs (v3 + (nI 1)).toNatClampNeg)] hC cw_X12_seed cl_RL_139 zL60 rfl (by decide) rfl rfl (Nat.le_of_ble_eq_true rfl) dL_law_1072 (fun _ h => ctX12_seed h) (fun r58 m58 _ hf => ?_) hf
        show zAW X 1075 _ (.int r58 :: _) m58
        refine zs_ic_eq hC dL_law_1075 (fun _ hf => ?_) (fun _ hf => ?_) hf
        · refine zs_iinc (nI 6) hC dL_law_1152 (by decide) rfl (by decide) rfl ?_
          refine zs_goto hC dL_law_1155 ?_
          exact zAW.weak (ih _ _ hf) (zLw_s (zLw_s (zLw_s (zLw_s zLw_0))))
        · refine zs_k hC dL_law_1078 ?_
          exact hret _ _ _ _ _ dL_law_1079 hf
      refine zs_case (nI 30) (fun hx hf => ?_) (fun e33_30 hf => ?_) hf
      · refine zs_tabI (off := 1047) (tgt := 1080) hC hx dL_law_33 (by decide) (by decide) rfl (by decide) ?_
        refine zs_al hC dL_law_1080 rfl ?_
        refine zs_callV [] hC cw_X11_keep cl_RL_140 zL0 rfl (by decide) rfl rfl (Nat.le_of_ble_eq_true rfl) dL_law_1081 (fun _ h => ctX11_keep h) (fun r59 m59 _ hf => ?_) hf
        show zAW X 1084 _ (.int r59 :: _) m59
        refine zs_al hC dL_law_1084 rfl ?_
        refine zs_callV [] hC cw_X12_keep cl_RL_143 zL60 rfl (by decide) rfl rfl (Nat.le_of_ble_eq_true rfl) dL_law_1085 (fun _ h => ctX12_keep h) (fun r60 m60 _ hf => ?_) hf
        show zAW X 1088 _ (.int r60 :: _) m60
        refine zs_ic_eq hC dL_law_1088 (fun _ hf => ?_) (fun _ hf => ?_) hf
        · refine zs_iinc (nI 6) hC dL_law_1152 (by decide) rfl (by decide) rfl ?_
          refine zs_goto hC dL_law_1155 ?_
          exact zAW.weak (ih _ _ hf) (zLw_s (zLw_s (zLw_s (zLw_s zLw_0))))
        · refine zs_k hC dL_law_1091 ?_
          exact hret _ _ _ _ _ dL_law_1092 hf
      refine zs_case (nI 31) (fun hx hf => ?_) (fun e33_31 hf => ?_) hf
      · refine zs_tabI (off := 1060) (tgt := 1093) hC hx dL_law_33 (by decide) (by decide) rfl (by decide) ?_
        refine zs_al hC dL_law_1093 rfl ?_
        refine zs_callV [] hC cw_X11_undo cl_RL_144 zL0 rfl (by decide) rfl rfl (Nat.le_of_ble_eq_true rfl) dL_law_1094 (fun _ h => ctX11_undo h) (fun r61 m61 _ hf => ?_) hf
        show zAW X 1097 _ (.int r61 :: _) m61
        refine zs_al hC dL_law_1097 rfl ?_
        refine zs_callV [] hC cw_X12_undo cl_RL_148 zL60 rfl (by decide) rfl rfl (Nat.le_of_ble_eq_true rfl) dL_law_1098 (fun _ h => ctX12_undo h) (fun r62 m62 _ hf => ?_) hf
        show zAW X 1101 _ (.int r62 :: _) m62
        refine zs_ic_eq hC dL_law_1101 (fun _ hf => ?_) (fun _ hf => ?_) hf
        · refine zs_iinc (nI 6) hC dL_law_1152 (by decide) rfl (by decide) rfl ?_
          refine zs_goto hC dL_law_1155 ?_
          exact zAW.weak (ih _ _ hf) (zLw_s (zLw_s (zLw_s (zLw_s zLw_0))))
        · refine zs_k hC dL_law_1104 ?_
          exact hret _ _ _ _ _ dL_law_1105 hf
      refine zs_case (nI 32) (fun hx hf => ?_) (fun e33_32 hf => ?_) hf
      · refine zs_tabI (off := 1073) (tgt := 1106) hC hx dL_law_33 (by decide) (by decide) rfl (by decide) ?_
        refine zs_al hC dL_law_1106 rfl ?_
        refine zs_al hC dL_law_1107 rfl ?_
        refine zs_il hC dL_law_1108 rfl ?_
        refine zs_k hC dL_law_1109 ?_
        refine zs_iadd hC dL_law_1110 ?_
        refine zs_sld hC hscr dL_law_1111 (fun _ hf => ?_) hf
        refine zs_callV [.int (xs (v3 + (nI 1)).toNatClampNeg)] hC cw_X11_check cl_RL_149 zL0 rfl (by decide) rfl rfl (Nat.le_of_ble_eq_true rfl) dL_law_1112 (fun _ h => ctX11_check h) (fun r63 m63 _ hf => ?_) hf
        show zAW X 1115 _ (.int r63 :: _) m63
        refine zs_al hC dL_law_1115 rfl ?_
        refine zs_al hC dL_law_1116 rfl ?_
        refine zs_il hC dL_law_1117 rfl ?_
        refine zs_k hC dL_law_1118 ?_
        refine zs_iadd hC dL_law_1119 ?_
        refine zs_sld hC hscr dL_law_1120 (fun _ hf => ?_) hf
        refine zs_callV [.int (xs (v3 + (nI 1)).toNatClampNeg)] hC cw_X12_check cl_RL_152 zL60 rfl (by decide) rfl rfl (Nat.le_of_ble_eq_true rfl) dL_law_1121 (fun _ h => ctX12_check h) (fun r64 m64 _ hf => ?_) hf
        show zAW X 1124 _ (.int r64 :: _) m64
        refine zs_ic_eq hC dL_law_1124 (fun _ hf => ?_) (fun _ hf => ?_) hf
        · refine zs_iinc (nI 6) hC dL_law_1152 (by decide) rfl (by decide) rfl ?_
          refine zs_goto hC dL_law_1155 ?_
          exact zAW.weak (ih _ _ hf) (zLw_s (zLw_s (zLw_s (zLw_s zLw_0))))
        · refine zs_k hC dL_law_1127 ?_
          exact hret _ _ _ _ _ dL_law_1128 hf
      refine zs_case (nI 33) (fun hx hf => ?_) (fun e33_33 hf => ?_) hf
      · refine zs_tabI (off := 1096) (tgt := 1129) hC hx dL_law_33 (by decide) (by decide) rfl (by decide) ?_
        refine zs_al hC dL_law_1129 rfl ?_
        refine zs_al hC dL_law_1130 rfl ?_
        refine zs_il hC dL_law_1131 rfl ?_
        refine zs_k hC dL_law_1132 ?_
        refine zs_iadd hC dL_law_1133 ?_
        refine zs_sld hC hscr dL_law_1134 (fun _ hf => ?_) hf
        refine zs_callV [.int (xs (v3 + (nI 1)).toNatClampNeg)] hC cw_X11_count cl_RL_153 zL0 rfl (by decide) rfl rfl (Nat.le_of_ble_eq_true rfl) dL_law_1135 (fun _ h => ctX11_count h) (fun r65 m65 _ hf => ?_) hf
        show zAW X 1138 _ (.int r65 :: _) m65
        refine zs_al hC dL_law_1138 rfl ?_
        refine zs_al hC dL_law_1139 rfl ?_
        refine zs_il hC dL_law_1140 rfl ?_
        refine zs_k hC dL_law_1141 ?_
        refine zs_iadd hC dL_law_1142 ?_
        refine zs_sld hC hscr dL_law_1143 (fun _ hf => ?_) hf
        refine zs_callV [.int (xs (v3 + (nI 1)).toNatClampNeg)] hC cw_X12_count cl_RL_156 zL60 rfl (by decide) rfl rfl (Nat.le_of_ble_eq_true rfl) dL_law_1144 (fun _ h => ctX12_count h) (fun r66 m66 _ hf => ?_) hf
        show zAW X 1147 _ (.int r66 :: _) m66
        refine zs_ic_eq hC dL_law_1147 (fun _ hf => ?_) (fun _ hf => ?_) hf
        · refine zs_iinc (nI 6) hC dL_law_1152 (by decide) rfl (by decide) rfl ?_
          refine zs_goto hC dL_law_1155 ?_
          exact zAW.weak (ih _ _ hf) (zLw_s (zLw_s (zLw_s (zLw_s zLw_0))))
        · refine zs_k hC dL_law_1150 ?_
          exact hret _ _ _ _ _ dL_law_1151 hf
      have e33_0 := lv_neT (a := 0) e33_0 (by decide)
      have e33_1 := lv_neT (a := 1) e33_1 (by decide)
      have e33_2 := lv_neT (a := 2) e33_2 (by decide)
      have e33_3 := lv_neT (a := 3) e33_3 (by decide)
      have e33_4 := lv_neT (a := 4) e33_4 (by decide)
      have e33_5 := lv_neT (a := 5) e33_5 (by decide)
      have e33_6 := lv_neT (a := 6) e33_6 (by decide)
      have e33_7 := lv_neT (a := 7) e33_7 (by decide)
      have e33_8 := lv_neT (a := 8) e33_8 (by decide)
      have e33_9 := lv_neT (a := 9) e33_9 (by decide)
      have e33_10 := lv_neT (a := 10) e33_10 (by decide)
      have e33_11 := lv_neT (a := 11) e33_11 (by decide)
      have e33_12 := lv_neT (a := 12) e33_12 (by decide)
      have e33_13 := lv_neT (a := 13) e33_13 (by decide)
      have e33_14 := lv_neT (a := 14) e33_14 (by decide)
      have e33_15 := lv_neT (a := 15) e33_15 (by decide)
      have e33_16 := lv_neT (a := 16) e33_16 (by decide)
      have e33_17 := lv_neT (a := 17) e33_17 (by decide)
      have e33_18 := lv_neT (a := 18) e33_18 (by decide)
      have e33_19 := lv_neT (a := 19) e33_19 (by decide)
      have e33_20 := lv_neT (a := 20) e33_20 (by decide)
      have e33_21 := lv_neT (a := 21) e33_21 (by decide)
      have e33_22 := lv_neT (a := 22) e33_22 (by decide)
      have e33_23 := lv_neT (a := 23) e33_23 (by decide)
      have e33_24 := lv_neT (a := 24) e33_24 (by decide)
      have e33_25 := lv_neT (a := 25) e33_25 (by decide)
      have e33_26 := lv_neT (a := 26) e33_26 (by decide)
      have e33_27 := lv_neT (a := 27) e33_27 (by decide)
      have e33_28 := lv_neT (a := 28) e33_28 (by decide)
      have e33_29 := lv_neT (a := 29) e33_29 (by decide)
      have e33_30 := lv_neT (a := 30) e33_30 (by decide)
      have e33_31 := lv_neT (a := 31) e33_31 (by decide)
      have e33_32 := lv_neT (a := 32) e33_32 (by decide)
      have e33_33 := lv_neT (a := 33) e33_33 (by decide)
      refine zs_tabO (tgt := 1152) hC dL_law_33 (by omega) (by decide) ?_
      refine zs_iinc (nI 6) hC dL_law_1152 (by decide) rfl (by decide) rfl ?_
      refine zs_goto hC dL_law_1155 ?_
      exact zAW.weak (ih _ _ hf) (zLw_s (zLw_s (zLw_s (zLw_s zLw_0))))
