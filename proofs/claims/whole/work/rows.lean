section
-- ===== PART A: goes FIRST, ahead of the names: the tables' words, and 'selects' of the private methods out of them =====
/-- a private method of a class that the tables say can be made, by its rows of tables_1 -/
def lw_okq (q : MethodName × Nat) : Prop := (q.1.cls ≠ "java/lang/invoke/MethodHandle" ∧ q.1.cls ≠ "java/lang/invoke/VarHandle") ∧ Cond.instantiable q.1.cls q.2 ∈ tables_1 ∧ Cond.privateMethod q.1 ∈ tables_1 ∧ Cond.instanceMethod q.1 ∈ tables_1
theorem lw_p0 : lw_okq (⟨"WhisperPress$LawBook", "readsValue", "(LWhisperPress$Tape;I)Z"⟩, 2) := ⟨⟨by decide +kernel, by decide +kernel⟩, List.mem_of_getElem? (i := 97) (by decide +kernel), List.mem_of_getElem? (i := 379) (by decide +kernel), List.mem_of_getElem? (i := 380) (by decide +kernel)⟩
theorem lw_p1 : lw_okq (⟨"WhisperPress$LawBook", "readsFactor", "(LWhisperPress$Tape;I)Z"⟩, 2) := ⟨⟨by decide +kernel, by decide +kernel⟩, List.mem_of_getElem? (i := 97) (by decide +kernel), List.mem_of_getElem? (i := 383) (by decide +kernel), List.mem_of_getElem? (i := 384) (by decide +kernel)⟩
theorem lw_p2 : lw_okq (⟨"WhisperPress$LawBook", "readsCondition", "(LWhisperPress$Tape;I)Z"⟩, 2) := ⟨⟨by decide +kernel, by decide +kernel⟩, List.mem_of_getElem? (i := 97) (by decide +kernel), List.mem_of_getElem? (i := 409) (by decide +kernel), List.mem_of_getElem? (i := 410) (by decide +kernel)⟩
theorem lw_p3 : lw_okq (⟨"WhisperPress$LawBook", "readsTest", "(LWhisperPress$Tape;I)Z"⟩, 2) := ⟨⟨by decide +kernel, by decide +kernel⟩, List.mem_of_getElem? (i := 97) (by decide +kernel), List.mem_of_getElem? (i := 413) (by decide +kernel), List.mem_of_getElem? (i := 414) (by decide +kernel)⟩
theorem lw_p4 : lw_okq (⟨"WhisperPress$LawBook", "takesEffect", "()V"⟩, 2) := ⟨⟨by decide +kernel, by decide +kernel⟩, List.mem_of_getElem? (i := 97) (by decide +kernel), List.mem_of_getElem? (i := 430) (by decide +kernel), List.mem_of_getElem? (i := 431) (by decide +kernel)⟩
theorem lw_p5 : lw_okq (⟨"WhisperPress$GossipSheet", "readsWho", "(LWhisperPress$Tape;I)Z"⟩, 4) := ⟨⟨by decide +kernel, by decide +kernel⟩, List.mem_of_getElem? (i := 173) (by decide +kernel), List.mem_of_getElem? (i := 446) (by decide +kernel), List.mem_of_getElem? (i := 447) (by decide +kernel)⟩
theorem lw_p6 : lw_okq (⟨"WhisperPress$GossipSheet", "readsWhat", "(LWhisperPress$Tape;I)Z"⟩, 4) := ⟨⟨by decide +kernel, by decide +kernel⟩, List.mem_of_getElem? (i := 173) (by decide +kernel), List.mem_of_getElem? (i := 456) (by decide +kernel), List.mem_of_getElem? (i := 457) (by decide +kernel)⟩
theorem lw_p7 : lw_okq (⟨"WhisperPress$GossipSheet", "readsSecret", "(LWhisperPress$Tape;)Z"⟩, 4) := ⟨⟨by decide +kernel, by decide +kernel⟩, List.mem_of_getElem? (i := 173) (by decide +kernel), List.mem_of_getElem? (i := 460) (by decide +kernel), List.mem_of_getElem? (i := 461) (by decide +kernel)⟩
theorem lw_p8 : lw_okq (⟨"WhisperPress$GossipSheet", "readsOther", "(LWhisperPress$Tape;I)Z"⟩, 4) := ⟨⟨by decide +kernel, by decide +kernel⟩, List.mem_of_getElem? (i := 173) (by decide +kernel), List.mem_of_getElem? (i := 467) (by decide +kernel), List.mem_of_getElem? (i := 468) (by decide +kernel)⟩
theorem lw_p9 : lw_okq (⟨"WhisperPress$CopySheet", "readsWord", "(LWhisperPress$Tape;)Z"⟩, 3) := ⟨⟨by decide +kernel, by decide +kernel⟩, List.mem_of_getElem? (i := 193) (by decide +kernel), List.mem_of_getElem? (i := 487) (by decide +kernel), List.mem_of_getElem? (i := 488) (by decide +kernel)⟩
theorem lw_p10 : lw_okq (⟨"WhisperPress$CopySheet", "readsLetters", "(LWhisperPress$Tape;I)I"⟩, 3) := ⟨⟨by decide +kernel, by decide +kernel⟩, List.mem_of_getElem? (i := 193) (by decide +kernel), List.mem_of_getElem? (i := 493) (by decide +kernel), List.mem_of_getElem? (i := 494) (by decide +kernel)⟩
theorem lw_p11 : lw_okq (⟨"WhisperPress$Week", "hasHisTurn", "(LWhisperPress$State;LWhisperPress$Law;II)V"⟩, 3) := ⟨⟨by decide +kernel, by decide +kernel⟩, List.mem_of_getElem? (i := 156) (by decide +kernel), List.mem_of_getElem? (i := 532) (by decide +kernel), List.mem_of_getElem? (i := 533) (by decide +kernel)⟩
theorem lw_p12 : lw_okq (⟨"WhisperPress$Week", "looksAt", "(LWhisperPress$State;II)V"⟩, 3) := ⟨⟨by decide +kernel, by decide +kernel⟩, List.mem_of_getElem? (i := 156) (by decide +kernel), List.mem_of_getElem? (i := 536) (by decide +kernel), List.mem_of_getElem? (i := 537) (by decide +kernel)⟩
theorem lw_p13 : lw_okq (⟨"WhisperPress$Week", "choice", "(LWhisperPress$State;LWhisperPress$Law;I)I"⟩, 3) := ⟨⟨by decide +kernel, by decide +kernel⟩, List.mem_of_getElem? (i := 156) (by decide +kernel), List.mem_of_getElem? (i := 546) (by decide +kernel), List.mem_of_getElem? (i := 547) (by decide +kernel)⟩
theorem lw_p14 : lw_okq (⟨"WhisperPress$Week", "looksAtOther", "(LWhisperPress$State;II)V"⟩, 3) := ⟨⟨by decide +kernel, by decide +kernel⟩, List.mem_of_getElem? (i := 156) (by decide +kernel), List.mem_of_getElem? (i := 550) (by decide +kernel), List.mem_of_getElem? (i := 551) (by decide +kernel)⟩
theorem lw_p15 : lw_okq (⟨"WhisperPress$Week", "asked", "(LWhisperPress$Law;II)I"⟩, 3) := ⟨⟨by decide +kernel, by decide +kernel⟩, List.mem_of_getElem? (i := 156) (by decide +kernel), List.mem_of_getElem? (i := 555) (by decide +kernel), List.mem_of_getElem? (i := 556) (by decide +kernel)⟩
def lw_privs_1 : List (MethodName × Nat) := [(⟨"WhisperPress$LawBook", "readsValue", "(LWhisperPress$Tape;I)Z"⟩, 2), (⟨"WhisperPress$LawBook", "readsFactor", "(LWhisperPress$Tape;I)Z"⟩, 2), (⟨"WhisperPress$LawBook", "readsCondition", "(LWhisperPress$Tape;I)Z"⟩, 2), (⟨"WhisperPress$LawBook", "readsTest", "(LWhisperPress$Tape;I)Z"⟩, 2), (⟨"WhisperPress$LawBook", "takesEffect", "()V"⟩, 2), (⟨"WhisperPress$GossipSheet", "readsWho", "(LWhisperPress$Tape;I)Z"⟩, 4), (⟨"WhisperPress$GossipSheet", "readsWhat", "(LWhisperPress$Tape;I)Z"⟩, 4), (⟨"WhisperPress$GossipSheet", "readsSecret", "(LWhisperPress$Tape;)Z"⟩, 4), (⟨"WhisperPress$GossipSheet", "readsOther", "(LWhisperPress$Tape;I)Z"⟩, 4), (⟨"WhisperPress$CopySheet", "readsWord", "(LWhisperPress$Tape;)Z"⟩, 3), (⟨"WhisperPress$CopySheet", "readsLetters", "(LWhisperPress$Tape;I)I"⟩, 3), (⟨"WhisperPress$Week", "hasHisTurn", "(LWhisperPress$State;LWhisperPress$Law;II)V"⟩, 3), (⟨"WhisperPress$Week", "looksAt", "(LWhisperPress$State;II)V"⟩, 3), (⟨"WhisperPress$Week", "choice", "(LWhisperPress$State;LWhisperPress$Law;I)I"⟩, 3), (⟨"WhisperPress$Week", "looksAtOther", "(LWhisperPress$State;II)V"⟩, 3), (⟨"WhisperPress$Week", "asked", "(LWhisperPress$Law;II)I"⟩, 3)]
theorem lw_r1 : ∀ q ∈ lw_privs_1, lw_okq q := List.forall_mem_cons.mpr ⟨lw_p0, List.forall_mem_cons.mpr ⟨lw_p1, List.forall_mem_cons.mpr ⟨lw_p2, List.forall_mem_cons.mpr ⟨lw_p3, List.forall_mem_cons.mpr ⟨lw_p4, List.forall_mem_cons.mpr ⟨lw_p5, List.forall_mem_cons.mpr ⟨lw_p6, List.forall_mem_cons.mpr ⟨lw_p7, List.forall_mem_cons.mpr ⟨lw_p8, List.forall_mem_cons.mpr ⟨lw_p9, List.forall_mem_cons.mpr ⟨lw_p10, List.forall_mem_cons.mpr ⟨lw_p11, List.forall_mem_cons.mpr ⟨lw_p12, List.forall_mem_cons.mpr ⟨lw_p13, List.forall_mem_cons.mpr ⟨lw_p14, List.forall_mem_cons.mpr ⟨lw_p15, fun _ h => absurd h List.not_mem_nil⟩⟩⟩⟩⟩⟩⟩⟩⟩⟩⟩⟩⟩⟩⟩⟩
theorem lw_p16 : lw_okq (⟨"WhisperPress$Week", "reckoned", "(LWhisperPress$Law;II)I"⟩, 3) := ⟨⟨by decide +kernel, by decide +kernel⟩, List.mem_of_getElem? (i := 156) (by decide +kernel), List.mem_of_getElem? (i := 559) (by decide +kernel), List.mem_of_getElem? (i := 560) (by decide +kernel)⟩
theorem lw_p17 : lw_okq (⟨"WhisperPress$Week", "isRead", "(LWhisperPress$State;LWhisperPress$Law;I)V"⟩, 3) := ⟨⟨by decide +kernel, by decide +kernel⟩, List.mem_of_getElem? (i := 156) (by decide +kernel), List.mem_of_getElem? (i := 591) (by decide +kernel), List.mem_of_getElem? (i := 592) (by decide +kernel)⟩
theorem lw_p18 : lw_okq (⟨"WhisperPress$Week", "holdsAny", "(LWhisperPress$Law;)Z"⟩, 3) := ⟨⟨by decide +kernel, by decide +kernel⟩, List.mem_of_getElem? (i := 156) (by decide +kernel), List.mem_of_getElem? (i := 614) (by decide +kernel), List.mem_of_getElem? (i := 615) (by decide +kernel)⟩
theorem lw_p19 : lw_okq (⟨"WhisperPress$Cover", "isCovered", "(III)Z"⟩, 4) := ⟨⟨by decide +kernel, by decide +kernel⟩, List.mem_of_getElem? (i := 232) (by decide +kernel), List.mem_of_getElem? (i := 679) (by decide +kernel), List.mem_of_getElem? (i := 680) (by decide +kernel)⟩
theorem lw_p20 : lw_okq (⟨"WhisperPress$Archive", "whisperedToBy", "(I)I"⟩, 1) := ⟨⟨by decide +kernel, by decide +kernel⟩, List.mem_of_getElem? (i := 253) (by decide +kernel), List.mem_of_getElem? (i := 751) (by decide +kernel), List.mem_of_getElem? (i := 752) (by decide +kernel)⟩
theorem lw_p21 : lw_okq (⟨"WhisperPress$Setting", "setsFrom", "(LWhisperPress$CopySheet;II)V"⟩, 3) := ⟨⟨by decide +kernel, by decide +kernel⟩, List.mem_of_getElem? (i := 213) (by decide +kernel), List.mem_of_getElem? (i := 764) (by decide +kernel), List.mem_of_getElem? (i := 765) (by decide +kernel)⟩
theorem lw_p22 : lw_okq (⟨"WhisperPress$Desk", "shares", "(LWhisperPress$Tape;IIII)V"⟩, 4) := ⟨⟨by decide +kernel, by decide +kernel⟩, List.mem_of_getElem? (i := 264) (by decide +kernel), List.mem_of_getElem? (i := 815) (by decide +kernel), List.mem_of_getElem? (i := 816) (by decide +kernel)⟩
theorem lw_p23 : lw_okq (⟨"WhisperPress$Desk", "lettersApartAt", "(LWhisperPress$Tape;III)I"⟩, 4) := ⟨⟨by decide +kernel, by decide +kernel⟩, List.mem_of_getElem? (i := 264) (by decide +kernel), List.mem_of_getElem? (i := 862) (by decide +kernel), List.mem_of_getElem? (i := 863) (by decide +kernel)⟩
theorem lw_p24 : lw_okq (⟨"WhisperPressModel", "types", "(I)V"⟩, 46) := ⟨⟨by decide +kernel, by decide +kernel⟩, List.mem_of_getElem? (i := 907) (by decide +kernel), List.mem_of_getElem? (i := 1066) (by decide +kernel), List.mem_of_getElem? (i := 1067) (by decide +kernel)⟩
theorem lw_p25 : lw_okq (⟨"WhisperPressModel", "beginsText", "(I)V"⟩, 46) := ⟨⟨by decide +kernel, by decide +kernel⟩, List.mem_of_getElem? (i := 907) (by decide +kernel), List.mem_of_getElem? (i := 1074) (by decide +kernel), List.mem_of_getElem? (i := 1075) (by decide +kernel)⟩
theorem lw_p26 : lw_okq (⟨"WhisperPressModel", "readsRule", "()Z"⟩, 46) := ⟨⟨by decide +kernel, by decide +kernel⟩, List.mem_of_getElem? (i := 907) (by decide +kernel), List.mem_of_getElem? (i := 1078) (by decide +kernel), List.mem_of_getElem? (i := 1079) (by decide +kernel)⟩
theorem lw_p27 : lw_okq (⟨"WhisperPressModel", "here", "()I"⟩, 46) := ⟨⟨by decide +kernel, by decide +kernel⟩, List.mem_of_getElem? (i := 907) (by decide +kernel), List.mem_of_getElem? (i := 1082) (by decide +kernel), List.mem_of_getElem? (i := 1083) (by decide +kernel)⟩
theorem lw_p28 : lw_okq (⟨"WhisperPressModel", "wrongAt", "(II)Z"⟩, 46) := ⟨⟨by decide +kernel, by decide +kernel⟩, List.mem_of_getElem? (i := 907) (by decide +kernel), List.mem_of_getElem? (i := 1086) (by decide +kernel), List.mem_of_getElem? (i := 1087) (by decide +kernel)⟩
theorem lw_p29 : lw_okq (⟨"WhisperPressModel", "readsSum", "()Z"⟩, 46) := ⟨⟨by decide +kernel, by decide +kernel⟩, List.mem_of_getElem? (i := 907) (by decide +kernel), List.mem_of_getElem? (i := 1090) (by decide +kernel), List.mem_of_getElem? (i := 1091) (by decide +kernel)⟩
theorem lw_p30 : lw_okq (⟨"WhisperPressModel", "readsFactor", "()Z"⟩, 46) := ⟨⟨by decide +kernel, by decide +kernel⟩, List.mem_of_getElem? (i := 907) (by decide +kernel), List.mem_of_getElem? (i := 1094) (by decide +kernel), List.mem_of_getElem? (i := 1095) (by decide +kernel)⟩
theorem lw_p31 : lw_okq (⟨"WhisperPressModel", "opens", "(I)Z"⟩, 46) := ⟨⟨by decide +kernel, by decide +kernel⟩, List.mem_of_getElem? (i := 907) (by decide +kernel), List.mem_of_getElem? (i := 1098) (by decide +kernel), List.mem_of_getElem? (i := 1099) (by decide +kernel)⟩
def lw_privs_2 : List (MethodName × Nat) := [(⟨"WhisperPress$Week", "reckoned", "(LWhisperPress$Law;II)I"⟩, 3), (⟨"WhisperPress$Week", "isRead", "(LWhisperPress$State;LWhisperPress$Law;I)V"⟩, 3), (⟨"WhisperPress$Week", "holdsAny", "(LWhisperPress$Law;)Z"⟩, 3), (⟨"WhisperPress$Cover", "isCovered", "(III)Z"⟩, 4), (⟨"WhisperPress$Archive", "whisperedToBy", "(I)I"⟩, 1), (⟨"WhisperPress$Setting", "setsFrom", "(LWhisperPress$CopySheet;II)V"⟩, 3), (⟨"WhisperPress$Desk", "shares", "(LWhisperPress$Tape;IIII)V"⟩, 4), (⟨"WhisperPress$Desk", "lettersApartAt", "(LWhisperPress$Tape;III)I"⟩, 4), (⟨"WhisperPressModel", "types", "(I)V"⟩, 46), (⟨"WhisperPressModel", "beginsText", "(I)V"⟩, 46), (⟨"WhisperPressModel", "readsRule", "()Z"⟩, 46), (⟨"WhisperPressModel", "here", "()I"⟩, 46), (⟨"WhisperPressModel", "wrongAt", "(II)Z"⟩, 46), (⟨"WhisperPressModel", "readsSum", "()Z"⟩, 46), (⟨"WhisperPressModel", "readsFactor", "()Z"⟩, 46), (⟨"WhisperPressModel", "opens", "(I)Z"⟩, 46)]
theorem lw_r2 : ∀ q ∈ lw_privs_2, lw_okq q := List.forall_mem_cons.mpr ⟨lw_p16, List.forall_mem_cons.mpr ⟨lw_p17, List.forall_mem_cons.mpr ⟨lw_p18, List.forall_mem_cons.mpr ⟨lw_p19, List.forall_mem_cons.mpr ⟨lw_p20, List.forall_mem_cons.mpr ⟨lw_p21, List.forall_mem_cons.mpr ⟨lw_p22, List.forall_mem_cons.mpr ⟨lw_p23, List.forall_mem_cons.mpr ⟨lw_p24, List.forall_mem_cons.mpr ⟨lw_p25, List.forall_mem_cons.mpr ⟨lw_p26, List.forall_mem_cons.mpr ⟨lw_p27, List.forall_mem_cons.mpr ⟨lw_p28, List.forall_mem_cons.mpr ⟨lw_p29, List.forall_mem_cons.mpr ⟨lw_p30, List.forall_mem_cons.mpr ⟨lw_p31, fun _ h => absurd h List.not_mem_nil⟩⟩⟩⟩⟩⟩⟩⟩⟩⟩⟩⟩⟩⟩⟩⟩
theorem lw_p32 : lw_okq (⟨"WhisperPressModel", "isDigit", "()Z"⟩, 46) := ⟨⟨by decide +kernel, by decide +kernel⟩, List.mem_of_getElem? (i := 907) (by decide +kernel), List.mem_of_getElem? (i := 1103) (by decide +kernel), List.mem_of_getElem? (i := 1104) (by decide +kernel)⟩
theorem lw_p33 : lw_okq (⟨"WhisperPressModel", "readsNumber", "()Z"⟩, 46) := ⟨⟨by decide +kernel, by decide +kernel⟩, List.mem_of_getElem? (i := 907) (by decide +kernel), List.mem_of_getElem? (i := 1107) (by decide +kernel), List.mem_of_getElem? (i := 1108) (by decide +kernel)⟩
theorem lw_p34 : lw_okq (⟨"WhisperPressModel", "notes", "(II)V"⟩, 46) := ⟨⟨by decide +kernel, by decide +kernel⟩, List.mem_of_getElem? (i := 907) (by decide +kernel), List.mem_of_getElem? (i := 1111) (by decide +kernel), List.mem_of_getElem? (i := 1112) (by decide +kernel)⟩
theorem lw_p35 : lw_okq (⟨"WhisperPressModel", "closesSums", "(Z)V"⟩, 46) := ⟨⟨by decide +kernel, by decide +kernel⟩, List.mem_of_getElem? (i := 907) (by decide +kernel), List.mem_of_getElem? (i := 1121) (by decide +kernel), List.mem_of_getElem? (i := 1122) (by decide +kernel)⟩
theorem lw_p36 : lw_okq (⟨"WhisperPressModel", "waitTop", "()I"⟩, 46) := ⟨⟨by decide +kernel, by decide +kernel⟩, List.mem_of_getElem? (i := 907) (by decide +kernel), List.mem_of_getElem? (i := 1125) (by decide +kernel), List.mem_of_getElem? (i := 1126) (by decide +kernel)⟩
theorem lw_p37 : lw_okq (⟨"WhisperPressModel", "hasOpenSum", "(I)Z"⟩, 46) := ⟨⟨by decide +kernel, by decide +kernel⟩, List.mem_of_getElem? (i := 907) (by decide +kernel), List.mem_of_getElem? (i := 1129) (by decide +kernel), List.mem_of_getElem? (i := 1130) (by decide +kernel)⟩
theorem lw_p38 : lw_okq (⟨"WhisperPressModel", "readsCondition", "()Z"⟩, 46) := ⟨⟨by decide +kernel, by decide +kernel⟩, List.mem_of_getElem? (i := 907) (by decide +kernel), List.mem_of_getElem? (i := 1133) (by decide +kernel), List.mem_of_getElem? (i := 1134) (by decide +kernel)⟩
theorem lw_p39 : lw_okq (⟨"WhisperPressModel", "readsCompared", "()Z"⟩, 46) := ⟨⟨by decide +kernel, by decide +kernel⟩, List.mem_of_getElem? (i := 907) (by decide +kernel), List.mem_of_getElem? (i := 1137) (by decide +kernel), List.mem_of_getElem? (i := 1138) (by decide +kernel)⟩
theorem lw_p40 : lw_okq (⟨"WhisperPressModel", "endsPiece", "()V"⟩, 46) := ⟨⟨by decide +kernel, by decide +kernel⟩, List.mem_of_getElem? (i := 907) (by decide +kernel), List.mem_of_getElem? (i := 1141) (by decide +kernel), List.mem_of_getElem? (i := 1142) (by decide +kernel)⟩
theorem lw_p41 : lw_okq (⟨"WhisperPressModel", "lands", "(Z)V"⟩, 46) := ⟨⟨by decide +kernel, by decide +kernel⟩, List.mem_of_getElem? (i := 907) (by decide +kernel), List.mem_of_getElem? (i := 1145) (by decide +kernel), List.mem_of_getElem? (i := 1146) (by decide +kernel)⟩
theorem lw_p42 : lw_okq (⟨"WhisperPressModel", "jumps", "(I)V"⟩, 46) := ⟨⟨by decide +kernel, by decide +kernel⟩, List.mem_of_getElem? (i := 907) (by decide +kernel), List.mem_of_getElem? (i := 1149) (by decide +kernel), List.mem_of_getElem? (i := 1150) (by decide +kernel)⟩
theorem lw_p43 : lw_okq (⟨"WhisperPressModel", "takes", "(I)Z"⟩, 46) := ⟨⟨by decide +kernel, by decide +kernel⟩, List.mem_of_getElem? (i := 907) (by decide +kernel), List.mem_of_getElem? (i := 1153) (by decide +kernel), List.mem_of_getElem? (i := 1154) (by decide +kernel)⟩
theorem lw_p44 : lw_okq (⟨"WhisperPressModel", "readsLine", "()Z"⟩, 46) := ⟨⟨by decide +kernel, by decide +kernel⟩, List.mem_of_getElem? (i := 907) (by decide +kernel), List.mem_of_getElem? (i := 1164) (by decide +kernel), List.mem_of_getElem? (i := 1165) (by decide +kernel)⟩
theorem lw_p45 : lw_okq (⟨"WhisperPressModel", "isLetter", "()Z"⟩, 46) := ⟨⟨by decide +kernel, by decide +kernel⟩, List.mem_of_getElem? (i := 907) (by decide +kernel), List.mem_of_getElem? (i := 1168) (by decide +kernel), List.mem_of_getElem? (i := 1169) (by decide +kernel)⟩
theorem lw_p46 : lw_okq (⟨"WhisperPressModel", "isTold", "(I)Z"⟩, 46) := ⟨⟨by decide +kernel, by decide +kernel⟩, List.mem_of_getElem? (i := 907) (by decide +kernel), List.mem_of_getElem? (i := 1172) (by decide +kernel), List.mem_of_getElem? (i := 1173) (by decide +kernel)⟩
theorem lw_p47 : lw_okq (⟨"WhisperPressModel", "readsSecret", "(IZ)Z"⟩, 46) := ⟨⟨by decide +kernel, by decide +kernel⟩, List.mem_of_getElem? (i := 907) (by decide +kernel), List.mem_of_getElem? (i := 1176) (by decide +kernel), List.mem_of_getElem? (i := 1177) (by decide +kernel)⟩
def lw_privs_3 : List (MethodName × Nat) := [(⟨"WhisperPressModel", "isDigit", "()Z"⟩, 46), (⟨"WhisperPressModel", "readsNumber", "()Z"⟩, 46), (⟨"WhisperPressModel", "notes", "(II)V"⟩, 46), (⟨"WhisperPressModel", "closesSums", "(Z)V"⟩, 46), (⟨"WhisperPressModel", "waitTop", "()I"⟩, 46), (⟨"WhisperPressModel", "hasOpenSum", "(I)Z"⟩, 46), (⟨"WhisperPressModel", "readsCondition", "()Z"⟩, 46), (⟨"WhisperPressModel", "readsCompared", "()Z"⟩, 46), (⟨"WhisperPressModel", "endsPiece", "()V"⟩, 46), (⟨"WhisperPressModel", "lands", "(Z)V"⟩, 46), (⟨"WhisperPressModel", "jumps", "(I)V"⟩, 46), (⟨"WhisperPressModel", "takes", "(I)Z"⟩, 46), (⟨"WhisperPressModel", "readsLine", "()Z"⟩, 46), (⟨"WhisperPressModel", "isLetter", "()Z"⟩, 46), (⟨"WhisperPressModel", "isTold", "(I)Z"⟩, 46), (⟨"WhisperPressModel", "readsSecret", "(IZ)Z"⟩, 46)]
theorem lw_r3 : ∀ q ∈ lw_privs_3, lw_okq q := List.forall_mem_cons.mpr ⟨lw_p32, List.forall_mem_cons.mpr ⟨lw_p33, List.forall_mem_cons.mpr ⟨lw_p34, List.forall_mem_cons.mpr ⟨lw_p35, List.forall_mem_cons.mpr ⟨lw_p36, List.forall_mem_cons.mpr ⟨lw_p37, List.forall_mem_cons.mpr ⟨lw_p38, List.forall_mem_cons.mpr ⟨lw_p39, List.forall_mem_cons.mpr ⟨lw_p40, List.forall_mem_cons.mpr ⟨lw_p41, List.forall_mem_cons.mpr ⟨lw_p42, List.forall_mem_cons.mpr ⟨lw_p43, List.forall_mem_cons.mpr ⟨lw_p44, List.forall_mem_cons.mpr ⟨lw_p45, List.forall_mem_cons.mpr ⟨lw_p46, List.forall_mem_cons.mpr ⟨lw_p47, fun _ h => absurd h List.not_mem_nil⟩⟩⟩⟩⟩⟩⟩⟩⟩⟩⟩⟩⟩⟩⟩⟩
theorem lw_p48 : lw_okq (⟨"WhisperPressModel", "readsOther", "(I)Z"⟩, 46) := ⟨⟨by decide +kernel, by decide +kernel⟩, List.mem_of_getElem? (i := 907) (by decide +kernel), List.mem_of_getElem? (i := 1180) (by decide +kernel), List.mem_of_getElem? (i := 1181) (by decide +kernel)⟩
theorem lw_p49 : lw_okq (⟨"WhisperPressModel", "readsBreath", "(I)Z"⟩, 46) := ⟨⟨by decide +kernel, by decide +kernel⟩, List.mem_of_getElem? (i := 907) (by decide +kernel), List.mem_of_getElem? (i := 1184) (by decide +kernel), List.mem_of_getElem? (i := 1185) (by decide +kernel)⟩
theorem lw_p50 : lw_okq (⟨"WhisperPressModel", "readsWord", "()Z"⟩, 46) := ⟨⟨by decide +kernel, by decide +kernel⟩, List.mem_of_getElem? (i := 907) (by decide +kernel), List.mem_of_getElem? (i := 1192) (by decide +kernel), List.mem_of_getElem? (i := 1193) (by decide +kernel)⟩
theorem lw_p51 : lw_okq (⟨"WhisperPressModel", "weeksGo", "(I)V"⟩, 46) := ⟨⟨by decide +kernel, by decide +kernel⟩, List.mem_of_getElem? (i := 907) (by decide +kernel), List.mem_of_getElem? (i := 1200) (by decide +kernel), List.mem_of_getElem? (i := 1201) (by decide +kernel)⟩
theorem lw_p52 : lw_okq (⟨"WhisperPressModel", "weekGoes", "()V"⟩, 46) := ⟨⟨by decide +kernel, by decide +kernel⟩, List.mem_of_getElem? (i := 907) (by decide +kernel), List.mem_of_getElem? (i := 1204) (by decide +kernel), List.mem_of_getElem? (i := 1205) (by decide +kernel)⟩
theorem lw_p53 : lw_okq (⟨"WhisperPressModel", "whispers", "(I)V"⟩, 46) := ⟨⟨by decide +kernel, by decide +kernel⟩, List.mem_of_getElem? (i := 907) (by decide +kernel), List.mem_of_getElem? (i := 1208) (by decide +kernel), List.mem_of_getElem? (i := 1209) (by decide +kernel)⟩
theorem lw_p54 : lw_okq (⟨"WhisperPressModel", "chosenBy", "(I)I"⟩, 46) := ⟨⟨by decide +kernel, by decide +kernel⟩, List.mem_of_getElem? (i := 907) (by decide +kernel), List.mem_of_getElem? (i := 1212) (by decide +kernel), List.mem_of_getElem? (i := 1213) (by decide +kernel)⟩
theorem lw_p55 : lw_okq (⟨"WhisperPressModel", "feels", "(II)V"⟩, 46) := ⟨⟨by decide +kernel, by decide +kernel⟩, List.mem_of_getElem? (i := 907) (by decide +kernel), List.mem_of_getElem? (i := 1216) (by decide +kernel), List.mem_of_getElem? (i := 1217) (by decide +kernel)⟩
theorem lw_p56 : lw_okq (⟨"WhisperPressModel", "byLaw", "(II)I"⟩, 46) := ⟨⟨by decide +kernel, by decide +kernel⟩, List.mem_of_getElem? (i := 907) (by decide +kernel), List.mem_of_getElem? (i := 1223) (by decide +kernel), List.mem_of_getElem? (i := 1224) (by decide +kernel)⟩
theorem lw_p57 : lw_okq (⟨"WhisperPressModel", "reckonsTo", "(II)I"⟩, 46) := ⟨⟨by decide +kernel, by decide +kernel⟩, List.mem_of_getElem? (i := 907) (by decide +kernel), List.mem_of_getElem? (i := 1227) (by decide +kernel), List.mem_of_getElem? (i := 1228) (by decide +kernel)⟩
theorem lw_p58 : lw_okq (⟨"WhisperPressModel", "draws", "()I"⟩, 46) := ⟨⟨by decide +kernel, by decide +kernel⟩, List.mem_of_getElem? (i := 907) (by decide +kernel), List.mem_of_getElem? (i := 1234) (by decide +kernel), List.mem_of_getElem? (i := 1235) (by decide +kernel)⟩
theorem lw_p59 : lw_okq (⟨"WhisperPressModel", "nextTold", "(II)I"⟩, 46) := ⟨⟨by decide +kernel, by decide +kernel⟩, List.mem_of_getElem? (i := 907) (by decide +kernel), List.mem_of_getElem? (i := 1244) (by decide +kernel), List.mem_of_getElem? (i := 1245) (by decide +kernel)⟩
theorem lw_p60 : lw_okq (⟨"WhisperPressModel", "prints", "(III)V"⟩, 46) := ⟨⟨by decide +kernel, by decide +kernel⟩, List.mem_of_getElem? (i := 907) (by decide +kernel), List.mem_of_getElem? (i := 1248) (by decide +kernel), List.mem_of_getElem? (i := 1249) (by decide +kernel)⟩
theorem lw_p61 : lw_okq (⟨"WhisperPressModel", "holdsAnyOrNone", "(I)Z"⟩, 46) := ⟨⟨by decide +kernel, by decide +kernel⟩, List.mem_of_getElem? (i := 907) (by decide +kernel), List.mem_of_getElem? (i := 1252) (by decide +kernel), List.mem_of_getElem? (i := 1253) (by decide +kernel)⟩
theorem lw_p62 : lw_okq (⟨"WhisperPressModel", "knownByAny", "()I"⟩, 46) := ⟨⟨by decide +kernel, by decide +kernel⟩, List.mem_of_getElem? (i := 907) (by decide +kernel), List.mem_of_getElem? (i := 1260) (by decide +kernel), List.mem_of_getElem? (i := 1261) (by decide +kernel)⟩
theorem lw_p63 : lw_okq (⟨"WhisperPressModel", "knownByAll", "()I"⟩, 46) := ⟨⟨by decide +kernel, by decide +kernel⟩, List.mem_of_getElem? (i := 907) (by decide +kernel), List.mem_of_getElem? (i := 1264) (by decide +kernel), List.mem_of_getElem? (i := 1265) (by decide +kernel)⟩
def lw_privs_4 : List (MethodName × Nat) := [(⟨"WhisperPressModel", "readsOther", "(I)Z"⟩, 46), (⟨"WhisperPressModel", "readsBreath", "(I)Z"⟩, 46), (⟨"WhisperPressModel", "readsWord", "()Z"⟩, 46), (⟨"WhisperPressModel", "weeksGo", "(I)V"⟩, 46), (⟨"WhisperPressModel", "weekGoes", "()V"⟩, 46), (⟨"WhisperPressModel", "whispers", "(I)V"⟩, 46), (⟨"WhisperPressModel", "chosenBy", "(I)I"⟩, 46), (⟨"WhisperPressModel", "feels", "(II)V"⟩, 46), (⟨"WhisperPressModel", "byLaw", "(II)I"⟩, 46), (⟨"WhisperPressModel", "reckonsTo", "(II)I"⟩, 46), (⟨"WhisperPressModel", "draws", "()I"⟩, 46), (⟨"WhisperPressModel", "nextTold", "(II)I"⟩, 46), (⟨"WhisperPressModel", "prints", "(III)V"⟩, 46), (⟨"WhisperPressModel", "holdsAnyOrNone", "(I)Z"⟩, 46), (⟨"WhisperPressModel", "knownByAny", "()I"⟩, 46), (⟨"WhisperPressModel", "knownByAll", "()I"⟩, 46)]
theorem lw_r4 : ∀ q ∈ lw_privs_4, lw_okq q := List.forall_mem_cons.mpr ⟨lw_p48, List.forall_mem_cons.mpr ⟨lw_p49, List.forall_mem_cons.mpr ⟨lw_p50, List.forall_mem_cons.mpr ⟨lw_p51, List.forall_mem_cons.mpr ⟨lw_p52, List.forall_mem_cons.mpr ⟨lw_p53, List.forall_mem_cons.mpr ⟨lw_p54, List.forall_mem_cons.mpr ⟨lw_p55, List.forall_mem_cons.mpr ⟨lw_p56, List.forall_mem_cons.mpr ⟨lw_p57, List.forall_mem_cons.mpr ⟨lw_p58, List.forall_mem_cons.mpr ⟨lw_p59, List.forall_mem_cons.mpr ⟨lw_p60, List.forall_mem_cons.mpr ⟨lw_p61, List.forall_mem_cons.mpr ⟨lw_p62, List.forall_mem_cons.mpr ⟨lw_p63, fun _ h => absurd h List.not_mem_nil⟩⟩⟩⟩⟩⟩⟩⟩⟩⟩⟩⟩⟩⟩⟩⟩
theorem lw_p64 : lw_okq (⟨"WhisperPressModel", "toldSet", "()I"⟩, 46) := ⟨⟨by decide +kernel, by decide +kernel⟩, List.mem_of_getElem? (i := 907) (by decide +kernel), List.mem_of_getElem? (i := 1268) (by decide +kernel), List.mem_of_getElem? (i := 1269) (by decide +kernel)⟩
theorem lw_p65 : lw_okq (⟨"WhisperPressModel", "issueOf", "(I)I"⟩, 46) := ⟨⟨by decide +kernel, by decide +kernel⟩, List.mem_of_getElem? (i := 907) (by decide +kernel), List.mem_of_getElem? (i := 1304) (by decide +kernel), List.mem_of_getElem? (i := 1305) (by decide +kernel)⟩
theorem lw_p66 : lw_okq (⟨"WhisperPressModel", "printedOf", "(III)I"⟩, 46) := ⟨⟨by decide +kernel, by decide +kernel⟩, List.mem_of_getElem? (i := 907) (by decide +kernel), List.mem_of_getElem? (i := 1308) (by decide +kernel), List.mem_of_getElem? (i := 1309) (by decide +kernel)⟩
theorem lw_p67 : lw_okq (⟨"WhisperPressModel", "laysBlackmail", "(I)V"⟩, 46) := ⟨⟨by decide +kernel, by decide +kernel⟩, List.mem_of_getElem? (i := 907) (by decide +kernel), List.mem_of_getElem? (i := 1316) (by decide +kernel), List.mem_of_getElem? (i := 1317) (by decide +kernel)⟩
theorem lw_p68 : lw_okq (⟨"WhisperPressModel", "backMany", "()I"⟩, 46) := ⟨⟨by decide +kernel, by decide +kernel⟩, List.mem_of_getElem? (i := 907) (by decide +kernel), List.mem_of_getElem? (i := 1320) (by decide +kernel), List.mem_of_getElem? (i := 1321) (by decide +kernel)⟩
theorem lw_p69 : lw_okq (⟨"WhisperPressModel", "secretsOf", "(I)I"⟩, 46) := ⟨⟨by decide +kernel, by decide +kernel⟩, List.mem_of_getElem? (i := 907) (by decide +kernel), List.mem_of_getElem? (i := 1324) (by decide +kernel), List.mem_of_getElem? (i := 1325) (by decide +kernel)⟩
theorem lw_p70 : lw_okq (⟨"WhisperPressModel", "oftenPrinted", "(II)I"⟩, 46) := ⟨⟨by decide +kernel, by decide +kernel⟩, List.mem_of_getElem? (i := 907) (by decide +kernel), List.mem_of_getElem? (i := 1332) (by decide +kernel), List.mem_of_getElem? (i := 1333) (by decide +kernel)⟩
theorem lw_p71 : lw_okq (⟨"WhisperPressModel", "setsCopy", "(I)V"⟩, 46) := ⟨⟨by decide +kernel, by decide +kernel⟩, List.mem_of_getElem? (i := 907) (by decide +kernel), List.mem_of_getElem? (i := 1348) (by decide +kernel), List.mem_of_getElem? (i := 1349) (by decide +kernel)⟩
theorem lw_p72 : lw_okq (⟨"WhisperPressModel", "octet", "(I)I"⟩, 46) := ⟨⟨by decide +kernel, by decide +kernel⟩, List.mem_of_getElem? (i := 907) (by decide +kernel), List.mem_of_getElem? (i := 1373) (by decide +kernel), List.mem_of_getElem? (i := 1374) (by decide +kernel)⟩
theorem lw_p73 : lw_okq (⟨"WhisperPressModel", "readers", "()I"⟩, 46) := ⟨⟨by decide +kernel, by decide +kernel⟩, List.mem_of_getElem? (i := 907) (by decide +kernel), List.mem_of_getElem? (i := 1420) (by decide +kernel), List.mem_of_getElem? (i := 1421) (by decide +kernel)⟩
theorem lw_p74 : lw_okq (⟨"WhisperPressModel", "breathOfAll", "()I"⟩, 46) := ⟨⟨by decide +kernel, by decide +kernel⟩, List.mem_of_getElem? (i := 907) (by decide +kernel), List.mem_of_getElem? (i := 1424) (by decide +kernel), List.mem_of_getElem? (i := 1425) (by decide +kernel)⟩
def lw_privs_5 : List (MethodName × Nat) := [(⟨"WhisperPressModel", "toldSet", "()I"⟩, 46), (⟨"WhisperPressModel", "issueOf", "(I)I"⟩, 46), (⟨"WhisperPressModel", "printedOf", "(III)I"⟩, 46), (⟨"WhisperPressModel", "laysBlackmail", "(I)V"⟩, 46), (⟨"WhisperPressModel", "backMany", "()I"⟩, 46), (⟨"WhisperPressModel", "secretsOf", "(I)I"⟩, 46), (⟨"WhisperPressModel", "oftenPrinted", "(II)I"⟩, 46), (⟨"WhisperPressModel", "setsCopy", "(I)V"⟩, 46), (⟨"WhisperPressModel", "octet", "(I)I"⟩, 46), (⟨"WhisperPressModel", "readers", "()I"⟩, 46), (⟨"WhisperPressModel", "breathOfAll", "()I"⟩, 46)]
theorem lw_r5 : ∀ q ∈ lw_privs_5, lw_okq q := List.forall_mem_cons.mpr ⟨lw_p64, List.forall_mem_cons.mpr ⟨lw_p65, List.forall_mem_cons.mpr ⟨lw_p66, List.forall_mem_cons.mpr ⟨lw_p67, List.forall_mem_cons.mpr ⟨lw_p68, List.forall_mem_cons.mpr ⟨lw_p69, List.forall_mem_cons.mpr ⟨lw_p70, List.forall_mem_cons.mpr ⟨lw_p71, List.forall_mem_cons.mpr ⟨lw_p72, List.forall_mem_cons.mpr ⟨lw_p73, List.forall_mem_cons.mpr ⟨lw_p74, fun _ h => absurd h List.not_mem_nil⟩⟩⟩⟩⟩⟩⟩⟩⟩⟩⟩
def lw_privs : List (MethodName × Nat) := lw_privs_1 ++ (lw_privs_2 ++ (lw_privs_3 ++ (lw_privs_4 ++ (lw_privs_5))))
def lw_tbl : List Cond := k2_sels lw_privs ++ tables_1
theorem lw_privs_ok : ∀ q ∈ lw_privs, lw_okq q := by
  show ∀ q ∈ lw_privs_1 ++ (lw_privs_2 ++ (lw_privs_3 ++ (lw_privs_4 ++ (lw_privs_5)))), lw_okq q
  exact List.forall_mem_append.mpr ⟨lw_r1, List.forall_mem_append.mpr ⟨lw_r2, List.forall_mem_append.mpr ⟨lw_r3, List.forall_mem_append.mpr ⟨lw_r4, lw_r5⟩⟩⟩⟩
end
section
def RX0 : String := "WhisperPress$Archive"
def TX0 : u_T := fun k => match k with
  | _ => ("WhisperPress$Archive", "pairs", "[I", true)
def tyX0 : Nat → FieldType := fun k => match k with
  | _ => .array .int
theorem nmX0 : ∀ a, a < 1 → ∀ b, b < 1 → a ≠ b → (TX0 a).2.1 ≠ (TX0 b).2.1 := by decide +kernel
theorem tyX0_ok : ∀ k, k < 1 → parseFieldDescriptor (TX0 k).2.2.1 = some (tyX0 k) := by decide +kernel
abbrev cX0_init : ByteArray := prog_2_method_1_code
def yX0_init : MethodName := ⟨RX0, "<init>", "()V"⟩
abbrev cX0_tallies : ByteArray := prog_2_method_2_code
def yX0_tallies : MethodName := ⟨RX0, "tallies", "(LWhisperPress$State;)V"⟩
abbrev cX0_mostOftenPair : ByteArray := prog_2_method_3_code
def yX0_mostOftenPair : MethodName := ⟨RX0, "mostOftenPair", "()I"⟩
abbrev cX0_timesTo : ByteArray := prog_2_method_4_code
def yX0_timesTo : MethodName := ⟨RX0, "timesTo", "(I)I"⟩
abbrev cX0_mostWhisperedTo : ByteArray := prog_2_method_5_code
def yX0_mostWhisperedTo : MethodName := ⟨RX0, "mostWhisperedTo", "()I"⟩
abbrev cX0_whisperedToBy : ByteArray := prog_2_method_6_code
def yX0_whisperedToBy : MethodName := ⟨RX0, "whisperedToBy", "(I)I"⟩
abbrev cX0_reachedFrom : ByteArray := prog_2_method_7_code
def yX0_reachedFrom : MethodName := ⟨RX0, "reachedFrom", "(I)I"⟩
def RX1 : String := "WhisperPress$CopySheet"
def TX1 : u_T := fun k => match k with
  | 0 => ("WhisperPress$CopySheet", "lengths", "[I", true)
  | 1 => ("WhisperPress$CopySheet", "uses", "[I", true)
  | _ => ("WhisperPress$CopySheet", "words", "I", false)
def tyX1 : Nat → FieldType := fun k => match k with
  | 0 => .array .int
  | 1 => .array .int
  | _ => .int
theorem nmX1 : ∀ a, a < 3 → ∀ b, b < 3 → a ≠ b → (TX1 a).2.1 ≠ (TX1 b).2.1 := by decide +kernel
theorem tyX1_ok : ∀ k, k < 3 → parseFieldDescriptor (TX1 k).2.2.1 = some (tyX1 k) := by decide +kernel
abbrev cX1_init : ByteArray := prog_3_method_1_code
def yX1_init : MethodName := ⟨RX1, "<init>", "()V"⟩
abbrev cX1_reads : ByteArray := prog_3_method_2_code
def yX1_reads : MethodName := ⟨RX1, "reads", "(LWhisperPress$Tape;)Z"⟩
abbrev cX1_readsWord : ByteArray := prog_3_method_3_code
def yX1_readsWord : MethodName := ⟨RX1, "readsWord", "(LWhisperPress$Tape;)Z"⟩
abbrev cX1_readsLetters : ByteArray := prog_3_method_4_code
def yX1_readsLetters : MethodName := ⟨RX1, "readsLetters", "(LWhisperPress$Tape;I)I"⟩
abbrev cX1_allLetters : ByteArray := prog_3_method_5_code
def yX1_allLetters : MethodName := ⟨RX1, "allLetters", "()I"⟩
abbrev cX1_longestWord : ByteArray := prog_3_method_6_code
def yX1_longestWord : MethodName := ⟨RX1, "longestWord", "()I"⟩
abbrev cX1_unlikeLetters : ByteArray := prog_3_method_7_code
def yX1_unlikeLetters : MethodName := ⟨RX1, "unlikeLetters", "()I"⟩
abbrev cX1_lackingTypes : ByteArray := prog_3_method_8_code
def yX1_lackingTypes : MethodName := ⟨RX1, "lackingTypes", "(I)I"⟩
def RX2 : String := "WhisperPress$Cover"
def TX2 : u_T := fun k => match k with
  | 0 => ("WhisperPress$Cover", "sets", "[I", true)
  | 1 => ("WhisperPress$Cover", "together", "[I", true)
  | 2 => ("WhisperPress$Cover", "largest", "[I", true)
  | _ => ("WhisperPress$Cover", "chosen", "I", false)
def tyX2 : Nat → FieldType := fun k => match k with
  | 0 => .array .int
  | 1 => .array .int
  | 2 => .array .int
  | _ => .int
theorem nmX2 : ∀ a, a < 4 → ∀ b, b < 4 → a ≠ b → (TX2 a).2.1 ≠ (TX2 b).2.1 := by decide +kernel
theorem tyX2_ok : ∀ k, k < 4 → parseFieldDescriptor (TX2 k).2.2.1 = some (tyX2 k) := by decide +kernel
abbrev cX2_init : ByteArray := prog_4_method_1_code
def yX2_init : MethodName := ⟨RX2, "<init>", "()V"⟩
abbrev cX2_finds : ByteArray := prog_4_method_2_code
def yX2_finds : MethodName := ⟨RX2, "finds", "(II)Z"⟩
abbrev cX2_isCovered : ByteArray := prog_4_method_3_code
def yX2_isCovered : MethodName := ⟨RX2, "isCovered", "(III)Z"⟩
def RX3 : String := "WhisperPress$Desk"
def TX3 : u_T := fun k => match k with
  | 0 => ("WhisperPress$Desk", "loads", "[I", true)
  | 1 => ("WhisperPress$Desk", "leastTime", "I", false)
  | 2 => ("WhisperPress$Desk", "days", "[I", true)
  | _ => ("WhisperPress$Desk", "apart", "[I", true)
def tyX3 : Nat → FieldType := fun k => match k with
  | 0 => .array .int
  | 1 => .int
  | 2 => .array .int
  | _ => .array .int
theorem nmX3 : ∀ a, a < 4 → ∀ b, b < 4 → a ≠ b → (TX3 a).2.1 ≠ (TX3 b).2.1 := by decide +kernel
theorem tyX3_ok : ∀ k, k < 4 → parseFieldDescriptor (TX3 k).2.2.1 = some (tyX3 k) := by decide +kernel
abbrev cX3_init : ByteArray := prog_5_method_1_code
def yX3_init : MethodName := ⟨RX3, "<init>", "()V"⟩
abbrev cX3_timeOfNuns : ByteArray := prog_5_method_2_code
def yX3_timeOfNuns : MethodName := ⟨RX3, "timeOfNuns", "(LWhisperPress$Tape;II)I"⟩
abbrev cX3_shares : ByteArray := prog_5_method_3_code
def yX3_shares : MethodName := ⟨RX3, "shares", "(LWhisperPress$Tape;IIII)V"⟩
abbrev cX3_noticesThatPayMost : ByteArray := prog_5_method_4_code
def yX3_noticesThatPayMost : MethodName := ⟨RX3, "noticesThatPayMost", "(LWhisperPress$Tape;II)I"⟩
abbrev cX3_paidFor : ByteArray := prog_5_method_5_code
def yX3_paidFor : MethodName := ⟨RX3, "paidFor", "(LWhisperPress$Tape;II)I"⟩
abbrev cX3_added : ByteArray := prog_5_method_6_code
def yX3_added : MethodName := ⟨RX3, "added", "(LWhisperPress$Tape;III)I"⟩
abbrev cX3_nearestWriter : ByteArray := prog_5_method_7_code
def yX3_nearestWriter : MethodName := ⟨RX3, "nearestWriter", "(LWhisperPress$Tape;I)I"⟩
abbrev cX3_differenceOf : ByteArray := prog_5_method_8_code
def yX3_differenceOf : MethodName := ⟨RX3, "differenceOf", "(LWhisperPress$Tape;II)I"⟩
abbrev cX3_lettersApart : ByteArray := prog_5_method_9_code
def yX3_lettersApart : MethodName := ⟨RX3, "lettersApart", "(LWhisperPress$Tape;II)I"⟩
abbrev cX3_lettersApartAt : ByteArray := prog_5_method_10_code
def yX3_lettersApartAt : MethodName := ⟨RX3, "lettersApartAt", "(LWhisperPress$Tape;III)I"⟩
abbrev cX3_dutyOn : ByteArray := prog_5_method_11_code
def yX3_dutyOn : MethodName := ⟨RX3, "dutyOn", "(LWhisperPress$Tape;II)I"⟩
abbrev cX3_lastToGetIt : ByteArray := prog_5_method_12_code
def yX3_lastToGetIt : MethodName := ⟨RX3, "lastToGetIt", "(LWhisperPress$Tape;I)I"⟩
def RX4 : String := "WhisperPress$GossipSheet"
def TX4 : u_T := fun k => match k with
  | 0 => ("WhisperPress$GossipSheet", "who", "[I", true)
  | 1 => ("WhisperPress$GossipSheet", "verbs", "[I", true)
  | 2 => ("WhisperPress$GossipSheet", "objects", "[I", true)
  | _ => ("WhisperPress$GossipSheet", "lines", "I", false)
def tyX4 : Nat → FieldType := fun k => match k with
  | 0 => .array .int
  | 1 => .array .int
  | 2 => .array .int
  | _ => .int
theorem nmX4 : ∀ a, a < 4 → ∀ b, b < 4 → a ≠ b → (TX4 a).2.1 ≠ (TX4 b).2.1 := by decide +kernel
theorem tyX4_ok : ∀ k, k < 4 → parseFieldDescriptor (TX4 k).2.2.1 = some (tyX4 k) := by decide +kernel
abbrev cX4_init : ByteArray := prog_6_method_1_code
def yX4_init : MethodName := ⟨RX4, "<init>", "()V"⟩
abbrev cX4_reads : ByteArray := prog_6_method_2_code
def yX4_reads : MethodName := ⟨RX4, "reads", "(LWhisperPress$Tape;I)Z"⟩
abbrev cX4_readsWho : ByteArray := prog_6_method_3_code
def yX4_readsWho : MethodName := ⟨RX4, "readsWho", "(LWhisperPress$Tape;I)Z"⟩
abbrev cX4_readsWhat : ByteArray := prog_6_method_4_code
def yX4_readsWhat : MethodName := ⟨RX4, "readsWhat", "(LWhisperPress$Tape;I)Z"⟩
abbrev cX4_readsSecret : ByteArray := prog_6_method_5_code
def yX4_readsSecret : MethodName := ⟨RX4, "readsSecret", "(LWhisperPress$Tape;)Z"⟩
abbrev cX4_readsOther : ByteArray := prog_6_method_6_code
def yX4_readsOther : MethodName := ⟨RX4, "readsOther", "(LWhisperPress$Tape;I)Z"⟩
abbrev cX4_isDoneTo : ByteArray := prog_6_method_7_code
def yX4_isDoneTo : MethodName := ⟨RX4, "isDoneTo", "(LWhisperPress$State;)V"⟩
def RX5 : String := "WhisperPress$Law"
def TX5 : u_T := fun k => match k with
  | 0 => ("WhisperPress$Law", "codes", "[I", true)
  | 1 => ("WhisperPress$Law", "args", "[I", true)
  | 2 => ("WhisperPress$Law", "kinds", "[I", true)
  | 3 => ("WhisperPress$Law", "valueFrom", "[I", true)
  | 4 => ("WhisperPress$Law", "testFrom", "[I", true)
  | 5 => ("WhisperPress$Law", "testTo", "[I", true)
  | 6 => ("WhisperPress$Law", "size", "I", false)
  | _ => ("WhisperPress$Law", "rules", "I", false)
def tyX5 : Nat → FieldType := fun k => match k with
  | 0 => .array .int
  | 1 => .array .int
  | 2 => .array .int
  | 3 => .array .int
  | 4 => .array .int
  | 5 => .array .int
  | 6 => .int
  | _ => .int
theorem nmX5 : ∀ a, a < 8 → ∀ b, b < 8 → a ≠ b → (TX5 a).2.1 ≠ (TX5 b).2.1 := by decide +kernel
theorem tyX5_ok : ∀ k, k < 8 → parseFieldDescriptor (TX5 k).2.2.1 = some (tyX5 k) := by decide +kernel
abbrev cX5_init : ByteArray := prog_7_method_1_code
def yX5_init : MethodName := ⟨RX5, "<init>", "()V"⟩
abbrev cX5_clears : ByteArray := prog_7_method_2_code
def yX5_clears : MethodName := ⟨RX5, "clears", "()V"⟩
abbrev cX5_puts : ByteArray := prog_7_method_3_code
def yX5_puts : MethodName := ⟨RX5, "puts", "(II)I"⟩
abbrev cX5_joins : ByteArray := prog_7_method_4_code
def yX5_joins : MethodName := ⟨RX5, "joins", "(I)V"⟩
abbrev cX5_landsHere : ByteArray := prog_7_method_5_code
def yX5_landsHere : MethodName := ⟨RX5, "landsHere", "(I)V"⟩
abbrev cX5_hasKind : ByteArray := prog_7_method_6_code
def yX5_hasKind : MethodName := ⟨RX5, "hasKind", "(I)Z"⟩
def RX6 : String := "WhisperPress$LawBook"
def TX6 : u_T := fun k => match k with
  | 0 => ("WhisperPress$LawBook", "standing", "LWhisperPress$Law;", false)
  | _ => ("WhisperPress$LawBook", "draft", "LWhisperPress$Law;", false)
def tyX6 : Nat → FieldType := fun k => match k with
  | 0 => .object "WhisperPress$Law"
  | _ => .object "WhisperPress$Law"
theorem nmX6 : ∀ a, a < 2 → ∀ b, b < 2 → a ≠ b → (TX6 a).2.1 ≠ (TX6 b).2.1 := by decide +kernel
theorem tyX6_ok : ∀ k, k < 2 → parseFieldDescriptor (TX6 k).2.2.1 = some (tyX6 k) := by decide +kernel
abbrev cX6_init : ByteArray := prog_8_method_1_code
def yX6_init : MethodName := ⟨RX6, "<init>", "()V"⟩
abbrev cX6_reads : ByteArray := prog_8_method_2_code
def yX6_reads : MethodName := ⟨RX6, "reads", "(LWhisperPress$Tape;)Z"⟩
abbrev cX6_takesEffect : ByteArray := prog_8_method_3_code
def yX6_takesEffect : MethodName := ⟨RX6, "takesEffect", "()V"⟩
abbrev cX6_readsCondition : ByteArray := prog_8_method_4_code
def yX6_readsCondition : MethodName := ⟨RX6, "readsCondition", "(LWhisperPress$Tape;I)Z"⟩
abbrev cX6_readsTest : ByteArray := prog_8_method_5_code
def yX6_readsTest : MethodName := ⟨RX6, "readsTest", "(LWhisperPress$Tape;I)Z"⟩
abbrev cX6_readsValue : ByteArray := prog_8_method_6_code
def yX6_readsValue : MethodName := ⟨RX6, "readsValue", "(LWhisperPress$Tape;I)Z"⟩
abbrev cX6_readsFactor : ByteArray := prog_8_method_7_code
def yX6_readsFactor : MethodName := ⟨RX6, "readsFactor", "(LWhisperPress$Tape;I)Z"⟩
def RX7 : String := "WhisperPress$Setting"
def TX7 : u_T := fun k => match k with
  | 0 => ("WhisperPress$Setting", "squares", "[I", true)
  | 1 => ("WhisperPress$Setting", "lines", "[I", true)
  | _ => ("WhisperPress$Setting", "nextLine", "[I", true)
def tyX7 : Nat → FieldType := fun k => match k with
  | 0 => .array .int
  | 1 => .array .int
  | _ => .array .int
theorem nmX7 : ∀ a, a < 3 → ∀ b, b < 3 → a ≠ b → (TX7 a).2.1 ≠ (TX7 b).2.1 := by decide +kernel
theorem tyX7_ok : ∀ k, k < 3 → parseFieldDescriptor (TX7 k).2.2.1 = some (tyX7 k) := by decide +kernel
abbrev cX7_init : ByteArray := prog_9_method_1_code
def yX7_init : MethodName := ⟨RX7, "<init>", "()V"⟩
abbrev cX7_sets : ByteArray := prog_9_method_2_code
def yX7_sets : MethodName := ⟨RX7, "sets", "(LWhisperPress$CopySheet;I)V"⟩
abbrev cX7_setsFrom : ByteArray := prog_9_method_3_code
def yX7_setsFrom : MethodName := ⟨RX7, "setsFrom", "(LWhisperPress$CopySheet;II)V"⟩
abbrev cX7_lineWith : ByteArray := prog_9_method_4_code
def yX7_lineWith : MethodName := ⟨RX7, "lineWith", "(I)I"⟩
def RX8 : String := "WhisperPress$State"
def TX8 : u_T := fun k => match k with
  | 0 => ("WhisperPress$State", "secrets", "[I", true)
  | 1 => ("WhisperPress$State", "breath", "[I", true)
  | 2 => ("WhisperPress$State", "printed", "[I", true)
  | 3 => ("WhisperPress$State", "whispers", "[I", true)
  | 4 => ("WhisperPress$State", "told", "I", false)
  | 5 => ("WhisperPress$State", "readers", "I", false)
  | 6 => ("WhisperPress$State", "week", "I", false)
  | _ => ("WhisperPress$State", "x", "I", false)
def tyX8 : Nat → FieldType := fun k => match k with
  | 0 => .array .int
  | 1 => .array .int
  | 2 => .array .int
  | 3 => .array .int
  | 4 => .int
  | 5 => .int
  | 6 => .int
  | _ => .int
theorem nmX8 : ∀ a, a < 8 → ∀ b, b < 8 → a ≠ b → (TX8 a).2.1 ≠ (TX8 b).2.1 := by decide +kernel
theorem tyX8_ok : ∀ k, k < 8 → parseFieldDescriptor (TX8 k).2.2.1 = some (tyX8 k) := by decide +kernel
abbrev cX8_init : ByteArray := prog_10_method_1_code
def yX8_init : MethodName := ⟨RX8, "<init>", "()V"⟩
abbrev cX8_becomes : ByteArray := prog_10_method_2_code
def yX8_becomes : MethodName := ⟨RX8, "becomes", "(LWhisperPress$State;)V"⟩
abbrev cX8_tells : ByteArray := prog_10_method_3_code
def yX8_tells : MethodName := ⟨RX8, "tells", "(IIZ)V"⟩
abbrev cX8_reads : ByteArray := prog_10_method_4_code
def yX8_reads : MethodName := ⟨RX8, "reads", "(IZ)V"⟩
abbrev cX8_isTold : ByteArray := prog_10_method_5_code
def yX8_isTold : MethodName := ⟨RX8, "isTold", "(I)Z"⟩
abbrev cX8_isReader : ByteArray := prog_10_method_6_code
def yX8_isReader : MethodName := ⟨RX8, "isReader", "(I)Z"⟩
abbrev cX8_secretsOf : ByteArray := prog_10_method_7_code
def yX8_secretsOf : MethodName := ⟨RX8, "secretsOf", "(I)I"⟩
abbrev cX8_knownToAny : ByteArray := prog_10_method_8_code
def yX8_knownToAny : MethodName := ⟨RX8, "knownToAny", "()I"⟩
abbrev cX8_knownToAll : ByteArray := prog_10_method_9_code
def yX8_knownToAll : MethodName := ⟨RX8, "knownToAll", "()I"⟩
abbrev cX8_whoKnow : ByteArray := prog_10_method_10_code
def yX8_whoKnow : MethodName := ⟨RX8, "whoKnow", "(I)I"⟩
abbrev cX8_allBreath : ByteArray := prog_10_method_11_code
def yX8_allBreath : MethodName := ⟨RX8, "allBreath", "()I"⟩
abbrev cX8_draw : ByteArray := prog_10_method_12_code
def yX8_draw : MethodName := ⟨RX8, "draw", "()I"⟩
abbrev cX8_issues : ByteArray := prog_10_method_13_code
def yX8_issues : MethodName := ⟨RX8, "issues", "()I"⟩
abbrev cX8_slotOf : ByteArray := prog_10_method_14_code
def yX8_slotOf : MethodName := ⟨RX8, "slotOf", "(I)I"⟩
abbrev cX8_whisperOf : ByteArray := prog_10_method_15_code
def yX8_whisperOf : MethodName := ⟨RX8, "whisperOf", "(II)I"⟩
abbrev cX8_prints : ByteArray := prog_10_method_16_code
def yX8_prints : MethodName := ⟨RX8, "prints", "(II)V"⟩
abbrev cX8_secretsIn : ByteArray := prog_10_method_17_code
def yX8_secretsIn : MethodName := ⟨RX8, "secretsIn", "(I)I"⟩
def RX9 : String := "WhisperPress$Tape"
def TX9 : u_T := fun k => match k with
  | 0 => ("WhisperPress$Tape", "bytes", "[I", true)
  | 1 => ("WhisperPress$Tape", "length", "I", false)
  | 2 => ("WhisperPress$Tape", "at", "I", false)
  | _ => ("WhisperPress$Tape", "fault", "I", false)
def tyX9 : Nat → FieldType := fun k => match k with
  | 0 => .array .int
  | 1 => .int
  | 2 => .int
  | _ => .int
theorem nmX9 : ∀ a, a < 4 → ∀ b, b < 4 → a ≠ b → (TX9 a).2.1 ≠ (TX9 b).2.1 := by decide +kernel
theorem tyX9_ok : ∀ k, k < 4 → parseFieldDescriptor (TX9 k).2.2.1 = some (tyX9 k) := by decide +kernel
abbrev cX9_init : ByteArray := prog_11_method_1_code
def yX9_init : MethodName := ⟨RX9, "<init>", "()V"⟩
abbrev cX9_puts : ByteArray := prog_11_method_2_code
def yX9_puts : MethodName := ⟨RX9, "puts", "(I)V"⟩
abbrev cX9_opens : ByteArray := prog_11_method_3_code
def yX9_opens : MethodName := ⟨RX9, "opens", "(I)Z"⟩
abbrev cX9_empties : ByteArray := prog_11_method_4_code
def yX9_empties : MethodName := ⟨RX9, "empties", "()V"⟩
abbrev cX9_byteAt : ByteArray := prog_11_method_5_code
def yX9_byteAt : MethodName := ⟨RX9, "byteAt", "(I)I"⟩
abbrev cX9_sign : ByteArray := prog_11_method_6_code
def yX9_sign : MethodName := ⟨RX9, "sign", "()I"⟩
abbrev cX9_isOver : ByteArray := prog_11_method_7_code
def yX9_isOver : MethodName := ⟨RX9, "isOver", "()Z"⟩
abbrev cX9_takes : ByteArray := prog_11_method_8_code
def yX9_takes : MethodName := ⟨RX9, "takes", "(I)Z"⟩
abbrev cX9_needs : ByteArray := prog_11_method_9_code
def yX9_needs : MethodName := ⟨RX9, "needs", "(I)Z"⟩
abbrev cX9_fails : ByteArray := prog_11_method_10_code
def yX9_fails : MethodName := ⟨RX9, "fails", "(I)Z"⟩
abbrev cX9_failsAt : ByteArray := prog_11_method_11_code
def yX9_failsAt : MethodName := ⟨RX9, "failsAt", "(II)Z"⟩
abbrev cX9_number : ByteArray := prog_11_method_12_code
def yX9_number : MethodName := ⟨RX9, "number", "(I)I"⟩
def RX10 : String := "WhisperPress$Week"
def TX10 : u_T := fun k => match k with
  | 0 => ("WhisperPress$Week", "facts", "[I", true)
  | 1 => ("WhisperPress$Week", "stack", "[I", true)
  | _ => ("WhisperPress$Week", "misprints", "I", false)
def tyX10 : Nat → FieldType := fun k => match k with
  | 0 => .array .int
  | 1 => .array .int
  | _ => .int
theorem nmX10 : ∀ a, a < 3 → ∀ b, b < 3 → a ≠ b → (TX10 a).2.1 ≠ (TX10 b).2.1 := by decide +kernel
theorem tyX10_ok : ∀ k, k < 3 → parseFieldDescriptor (TX10 k).2.2.1 = some (tyX10 k) := by decide +kernel
abbrev cX10_init : ByteArray := prog_12_method_1_code
def yX10_init : MethodName := ⟨RX10, "<init>", "()V"⟩
abbrev cX10_factOf : ByteArray := prog_12_method_2_code
def yX10_factOf : MethodName := ⟨RX10, "factOf", "(I)I"⟩
abbrev cX10_goesByTimes : ByteArray := prog_12_method_3_code
def yX10_goesByTimes : MethodName := ⟨RX10, "goesByTimes", "(ILWhisperPress$State;LWhisperPress$Law;)I"⟩
abbrev cX10_goesBy : ByteArray := prog_12_method_4_code
def yX10_goesBy : MethodName := ⟨RX10, "goesBy", "(LWhisperPress$State;LWhisperPress$Law;)I"⟩
abbrev cX10_hasHisTurn : ByteArray := prog_12_method_5_code
def yX10_hasHisTurn : MethodName := ⟨RX10, "hasHisTurn", "(LWhisperPress$State;LWhisperPress$Law;II)V"⟩
abbrev cX10_choice : ByteArray := prog_12_method_6_code
def yX10_choice : MethodName := ⟨RX10, "choice", "(LWhisperPress$State;LWhisperPress$Law;I)I"⟩
abbrev cX10_nextTold : ByteArray := prog_12_method_7_code
def yX10_nextTold : MethodName := ⟨RX10, "nextTold", "(LWhisperPress$State;II)I"⟩
abbrev cX10_isRead : ByteArray := prog_12_method_8_code
def yX10_isRead : MethodName := ⟨RX10, "isRead", "(LWhisperPress$State;LWhisperPress$Law;I)V"⟩
abbrev cX10_looksAt : ByteArray := prog_12_method_9_code
def yX10_looksAt : MethodName := ⟨RX10, "looksAt", "(LWhisperPress$State;II)V"⟩
abbrev cX10_looksAtOther : ByteArray := prog_12_method_10_code
def yX10_looksAtOther : MethodName := ⟨RX10, "looksAtOther", "(LWhisperPress$State;II)V"⟩
abbrev cX10_asked : ByteArray := prog_12_method_11_code
def yX10_asked : MethodName := ⟨RX10, "asked", "(LWhisperPress$Law;II)I"⟩
abbrev cX10_holdsAny : ByteArray := prog_12_method_12_code
def yX10_holdsAny : MethodName := ⟨RX10, "holdsAny", "(LWhisperPress$Law;)Z"⟩
abbrev cX10_reckoned : ByteArray := prog_12_method_13_code
def yX10_reckoned : MethodName := ⟨RX10, "reckoned", "(LWhisperPress$Law;II)I"⟩
abbrev cX10_joined : ByteArray := prog_12_method_14_code
def yX10_joined : MethodName := ⟨RX10, "joined", "(III)I"⟩
def RX11 : String := "WhisperPress"
def TX11 : u_T := fun k => match k with
  | 0 => ("WhisperPress", "tape", "LWhisperPress$Tape;", true)
  | 1 => ("WhisperPress", "now", "LWhisperPress$State;", true)
  | 2 => ("WhisperPress", "kept", "LWhisperPress$State;", true)
  | 3 => ("WhisperPress", "trial", "LWhisperPress$State;", true)
  | 4 => ("WhisperPress", "isKept", "Z", false)
  | 5 => ("WhisperPress", "lawBook", "LWhisperPress$LawBook;", true)
  | 6 => ("WhisperPress", "week", "LWhisperPress$Week;", true)
  | 7 => ("WhisperPress", "gossipSheet", "LWhisperPress$GossipSheet;", true)
  | 8 => ("WhisperPress", "copySheet", "LWhisperPress$CopySheet;", false)
  | 9 => ("WhisperPress", "copyDraft", "LWhisperPress$CopySheet;", false)
  | 10 => ("WhisperPress", "setting", "LWhisperPress$Setting;", true)
  | 11 => ("WhisperPress", "cover", "LWhisperPress$Cover;", true)
  | 12 => ("WhisperPress", "archive", "LWhisperPress$Archive;", true)
  | _ => ("WhisperPress", "desk", "LWhisperPress$Desk;", true)
def tyX11 : Nat → FieldType := fun k => match k with
  | 0 => .object "WhisperPress$Tape"
  | 1 => .object "WhisperPress$State"
  | 2 => .object "WhisperPress$State"
  | 3 => .object "WhisperPress$State"
  | 4 => .boolean
  | 5 => .object "WhisperPress$LawBook"
  | 6 => .object "WhisperPress$Week"
  | 7 => .object "WhisperPress$GossipSheet"
  | 8 => .object "WhisperPress$CopySheet"
  | 9 => .object "WhisperPress$CopySheet"
  | 10 => .object "WhisperPress$Setting"
  | 11 => .object "WhisperPress$Cover"
  | 12 => .object "WhisperPress$Archive"
  | _ => .object "WhisperPress$Desk"
theorem nmX11 : ∀ a, a < 14 → ∀ b, b < 14 → a ≠ b → (TX11 a).2.1 ≠ (TX11 b).2.1 := by decide +kernel
theorem tyX11_ok : ∀ k, k < 14 → parseFieldDescriptor (TX11 k).2.2.1 = some (tyX11 k) := by decide +kernel
abbrev cX11_init : ByteArray := prog_1_method_1_code
def yX11_init : MethodName := ⟨RX11, "<init>", "()V"⟩
abbrev cX11_person : ByteArray := prog_1_method_2_code
def yX11_person : MethodName := ⟨RX11, "person", "(IIZ)Z"⟩
abbrev cX11_feed : ByteArray := prog_1_method_3_code
def yX11_feed : MethodName := ⟨RX11, "feed", "(IIIII)I"⟩
abbrev cX11_law : ByteArray := prog_1_method_4_code
def yX11_law : MethodName := ⟨RX11, "law", "(I)I"⟩
abbrev cX11_gossip : ByteArray := prog_1_method_5_code
def yX11_gossip : MethodName := ⟨RX11, "gossip", "(I)I"⟩
abbrev cX11_copy : ByteArray := prog_1_method_6_code
def yX11_copy : MethodName := ⟨RX11, "copy", "(I)I"⟩
abbrev cX11_weeks : ByteArray := prog_1_method_7_code
def yX11_weeks : MethodName := ⟨RX11, "weeks", "(I)I"⟩
abbrev cX11_tried : ByteArray := prog_1_method_8_code
def yX11_tried : MethodName := ⟨RX11, "tried", "(II)I"⟩
abbrev cX11_personIs : ByteArray := prog_1_method_9_code
def yX11_personIs : MethodName := ⟨RX11, "personIs", "(II)I"⟩
abbrev cX11_allKnow : ByteArray := prog_1_method_10_code
def yX11_allKnow : MethodName := ⟨RX11, "allKnow", "(II)I"⟩
abbrev cX11_whose : ByteArray := prog_1_method_11_code
def yX11_whose : MethodName := ⟨RX11, "whose", "(I)I"⟩
abbrev cX11_alone : ByteArray := prog_1_method_12_code
def yX11_alone : MethodName := ⟨RX11, "alone", "()I"⟩
abbrev cX11_enough : ByteArray := prog_1_method_13_code
def yX11_enough : MethodName := ⟨RX11, "enough", "(I)I"⟩
abbrev cX11_backNumber : ByteArray := prog_1_method_14_code
def yX11_backNumber : MethodName := ⟨RX11, "backNumber", "(II)I"⟩
abbrev cX11_blackmail : ByteArray := prog_1_method_15_code
def yX11_blackmail : MethodName := ⟨RX11, "blackmail", "(II)I"⟩
abbrev cX11_mostPrinted : ByteArray := prog_1_method_16_code
def yX11_mostPrinted : MethodName := ⟨RX11, "mostPrinted", "(I)I"⟩
abbrev cX11_silent : ByteArray := prog_1_method_17_code
def yX11_silent : MethodName := ⟨RX11, "silent", "(I)I"⟩
abbrev cX11_pair : ByteArray := prog_1_method_18_code
def yX11_pair : MethodName := ⟨RX11, "pair", "(I)I"⟩
abbrev cX11_reached : ByteArray := prog_1_method_19_code
def yX11_reached : MethodName := ⟨RX11, "reached", "(I)I"⟩
abbrev cX11_lineOf : ByteArray := prog_1_method_20_code
def yX11_lineOf : MethodName := ⟨RX11, "lineOf", "(II)I"⟩
abbrev cX11_copyIs : ByteArray := prog_1_method_21_code
def yX11_copyIs : MethodName := ⟨RX11, "copyIs", "(I)I"⟩
abbrev cX11_set : ByteArray := prog_1_method_22_code
def yX11_set : MethodName := ⟨RX11, "set", "(II)I"⟩
abbrev cX11_type : ByteArray := prog_1_method_23_code
def yX11_type : MethodName := ⟨RX11, "type", "(I)I"⟩
abbrev cX11_bought : ByteArray := prog_1_method_24_code
def yX11_bought : MethodName := ⟨RX11, "bought", "(I)I"⟩
abbrev cX11_nuns : ByteArray := prog_1_method_25_code
def yX11_nuns : MethodName := ⟨RX11, "nuns", "(II)I"⟩
abbrev cX11_space : ByteArray := prog_1_method_26_code
def yX11_space : MethodName := ⟨RX11, "space", "(III)I"⟩
abbrev cX11_style : ByteArray := prog_1_method_27_code
def yX11_style : MethodName := ⟨RX11, "style", "(II)I"⟩
abbrev cX11_names : ByteArray := prog_1_method_28_code
def yX11_names : MethodName := ⟨RX11, "names", "(II)I"⟩
abbrev cX11_duty : ByteArray := prog_1_method_29_code
def yX11_duty : MethodName := ⟨RX11, "duty", "(II)I"⟩
abbrev cX11_hands : ByteArray := prog_1_method_30_code
def yX11_hands : MethodName := ⟨RX11, "hands", "(II)I"⟩
abbrev cX11_seed : ByteArray := prog_1_method_31_code
def yX11_seed : MethodName := ⟨RX11, "seed", "(I)Z"⟩
abbrev cX11_keep : ByteArray := prog_1_method_32_code
def yX11_keep : MethodName := ⟨RX11, "keep", "()I"⟩
abbrev cX11_undo : ByteArray := prog_1_method_33_code
def yX11_undo : MethodName := ⟨RX11, "undo", "()Z"⟩
abbrev cX11_check : ByteArray := prog_1_method_34_code
def yX11_check : MethodName := ⟨RX11, "check", "(I)I"⟩
abbrev cX11_count : ByteArray := prog_1_method_35_code
def yX11_count : MethodName := ⟨RX11, "count", "(I)I"⟩
abbrev cX11_isWithin : ByteArray := prog_1_method_36_code
def yX11_isWithin : MethodName := ⟨RX11, "isWithin", "(III)Z"⟩
abbrev cX11_isPerson : ByteArray := prog_1_method_37_code
def yX11_isPerson : MethodName := ⟨RX11, "isPerson", "(I)Z"⟩
abbrev cX11_isSecret : ByteArray := prog_1_method_38_code
def yX11_isSecret : MethodName := ⟨RX11, "isSecret", "(I)Z"⟩
abbrev cX11_isLetter : ByteArray := prog_1_method_39_code
def yX11_isLetter : MethodName := ⟨RX11, "isLetter", "(I)Z"⟩
abbrev cX11_hasBit : ByteArray := prog_1_method_40_code
def yX11_hasBit : MethodName := ⟨RX11, "hasBit", "(II)Z"⟩
abbrev cX11_packedWhisper : ByteArray := prog_1_method_41_code
def yX11_packedWhisper : MethodName := ⟨RX11, "packedWhisper", "(III)I"⟩
abbrev cX11_fromOf : ByteArray := prog_1_method_42_code
def yX11_fromOf : MethodName := ⟨RX11, "fromOf", "(I)I"⟩
abbrev cX11_toOf : ByteArray := prog_1_method_43_code
def yX11_toOf : MethodName := ⟨RX11, "toOf", "(I)I"⟩
abbrev cX11_secretOf : ByteArray := prog_1_method_44_code
def yX11_secretOf : MethodName := ⟨RX11, "secretOf", "(I)I"⟩
def RX12 : String := "WhisperPressModel"
def TX12 : u_T := fun k => match k with
  | 0 => ("WhisperPressModel", "now", "[I", true)
  | 1 => ("WhisperPressModel", "aside", "[I", true)
  | 2 => ("WhisperPressModel", "kept", "[I", true)
  | 3 => ("WhisperPressModel", "longOf", "[I", true)
  | 4 => ("WhisperPressModel", "oftenOf", "[I", true)
  | 5 => ("WhisperPressModel", "newLong", "[I", true)
  | 6 => ("WhisperPressModel", "newOften", "[I", true)
  | 7 => ("WhisperPressModel", "wordMany", "I", false)
  | 8 => ("WhisperPressModel", "tape", "[B", true)
  | 9 => ("WhisperPressModel", "taped", "I", false)
  | 10 => ("WhisperPressModel", "place0", "I", false)
  | 11 => ("WhisperPressModel", "length0", "I", false)
  | 12 => ("WhisperPressModel", "fault", "I", false)
  | 13 => ("WhisperPressModel", "number0", "I", false)
  | 14 => ("WhisperPressModel", "open", "I", false)
  | 15 => ("WhisperPressModel", "codeMany", "I", false)
  | 16 => ("WhisperPressModel", "waiting", "I", false)
  | 17 => ("WhisperPressModel", "saidMany", "I", false)
  | 18 => ("WhisperPressModel", "clauses", "I", false)
  | 19 => ("WhisperPressModel", "said", "[I", true)
  | 20 => ("WhisperPressModel", "waitsAt", "[I", true)
  | 21 => ("WhisperPressModel", "saidLetter", "[I", true)
  | 22 => ("WhisperPressModel", "saidFrom", "[I", true)
  | 23 => ("WhisperPressModel", "saidHalf", "[I", true)
  | 24 => ("WhisperPressModel", "saidTo", "[I", true)
  | 25 => ("WhisperPressModel", "codes", "[I", true)
  | 26 => ("WhisperPressModel", "clauseOf", "[I", true)
  | 27 => ("WhisperPressModel", "codeFrom", "[I", true)
  | 28 => ("WhisperPressModel", "codeHalf", "[I", true)
  | 29 => ("WhisperPressModel", "codeTo", "[I", true)
  | 30 => ("WhisperPressModel", "stack", "[I", true)
  | 31 => ("WhisperPressModel", "facts", "[I", true)
  | 32 => ("WhisperPressModel", "lines", "I", false)
  | 33 => ("WhisperPressModel", "newWords", "I", false)
  | 34 => ("WhisperPressModel", "printedNow", "I", false)
  | 35 => ("WhisperPressModel", "misprints", "I", false)
  | 36 => ("WhisperPressModel", "knownTo", "[I", true)
  | 37 => ("WhisperPressModel", "fewestFor", "[B", true)
  | 38 => ("WhisperPressModel", "fewestNow", "I", false)
  | 39 => ("WhisperPressModel", "oldestNow", "I", false)
  | 40 => ("WhisperPressModel", "squaresFrom", "[I", true)
  | 41 => ("WhisperPressModel", "linesFrom", "[I", true)
  | 42 => ("WhisperPressModel", "wordsIn", "[I", true)
  | 43 => ("WhisperPressModel", "editsTo", "[I", true)
  | 44 => ("WhisperPressModel", "daysTo", "[I", true)
  | _ => ("WhisperPressModel", "isKept", "Z", false)
def tyX12 : Nat → FieldType := fun k => match k with
  | 0 => .array .int
  | 1 => .array .int
  | 2 => .array .int
  | 3 => .array .int
  | 4 => .array .int
  | 5 => .array .int
  | 6 => .array .int
  | 7 => .int
  | 8 => .array .byte
  | 9 => .int
  | 10 => .int
  | 11 => .int
  | 12 => .int
  | 13 => .int
  | 14 => .int
  | 15 => .int
  | 16 => .int
  | 17 => .int
  | 18 => .int
  | 19 => .array .int
  | 20 => .array .int
  | 21 => .array .int
  | 22 => .array .int
  | 23 => .array .int
  | 24 => .array .int
  | 25 => .array .int
  | 26 => .array .int
  | 27 => .array .int
  | 28 => .array .int
  | 29 => .array .int
  | 30 => .array .int
  | 31 => .array .int
  | 32 => .int
  | 33 => .int
  | 34 => .int
  | 35 => .int
  | 36 => .array .int
  | 37 => .array .byte
  | 38 => .int
  | 39 => .int
  | 40 => .array .int
  | 41 => .array .int
  | 42 => .array .int
  | 43 => .array .int
  | 44 => .array .int
  | _ => .boolean
theorem nmX12 : ∀ a, a < 46 → ∀ b, b < 46 → a ≠ b → (TX12 a).2.1 ≠ (TX12 b).2.1 := by decide +kernel
theorem tyX12_ok : ∀ k, k < 46 → parseFieldDescriptor (TX12 k).2.2.1 = some (tyX12 k) := by decide +kernel
abbrev cX12_init : ByteArray := prog_14_method_1_code
def yX12_init : MethodName := ⟨RX12, "<init>", "()V"⟩
abbrev cX12_in : ByteArray := prog_14_method_2_code
def yX12_in : MethodName := ⟨RX12, "in", "(III)Z"⟩
abbrev cX12_min : ByteArray := prog_14_method_3_code
def yX12_min : MethodName := ⟨RX12, "min", "(II)I"⟩
abbrev cX12_max : ByteArray := prog_14_method_4_code
def yX12_max : MethodName := ⟨RX12, "max", "(II)I"⟩
abbrev cX12_size : ByteArray := prog_14_method_5_code
def yX12_size : MethodName := ⟨RX12, "size", "(I)I"⟩
abbrev cX12_has : ByteArray := prog_14_method_6_code
def yX12_has : MethodName := ⟨RX12, "has", "(II)Z"⟩
abbrev cX12_bits : ByteArray := prog_14_method_7_code
def yX12_bits : MethodName := ⟨RX12, "bits", "(I)I"⟩
abbrev cX12_copies : ByteArray := prog_14_method_8_code
def yX12_copies : MethodName := ⟨RX12, "copies", "([I[I)V"⟩
abbrev cX12_isTold : ByteArray := prog_14_method_9_code
def yX12_isTold : MethodName := ⟨RX12, "isTold", "(I)Z"⟩
abbrev cX12_toldSet : ByteArray := prog_14_method_10_code
def yX12_toldSet : MethodName := ⟨RX12, "toldSet", "()I"⟩
abbrev cX12_person : ByteArray := prog_14_method_11_code
def yX12_person : MethodName := ⟨RX12, "person", "(IIZ)Z"⟩
abbrev cX12_types : ByteArray := prog_14_method_12_code
def yX12_types : MethodName := ⟨RX12, "types", "(I)V"⟩
abbrev cX12_feed : ByteArray := prog_14_method_13_code
def yX12_feed : MethodName := ⟨RX12, "feed", "(IIIII)I"⟩
abbrev cX12_octet : ByteArray := prog_14_method_14_code
def yX12_octet : MethodName := ⟨RX12, "octet", "(I)I"⟩
abbrev cX12_here : ByteArray := prog_14_method_15_code
def yX12_here : MethodName := ⟨RX12, "here", "()I"⟩
abbrev cX12_isDigit : ByteArray := prog_14_method_16_code
def yX12_isDigit : MethodName := ⟨RX12, "isDigit", "()Z"⟩
abbrev cX12_wrongAt : ByteArray := prog_14_method_17_code
def yX12_wrongAt : MethodName := ⟨RX12, "wrongAt", "(II)Z"⟩
abbrev cX12_takes : ByteArray := prog_14_method_18_code
def yX12_takes : MethodName := ⟨RX12, "takes", "(I)Z"⟩
abbrev cX12_readsNumber : ByteArray := prog_14_method_19_code
def yX12_readsNumber : MethodName := ⟨RX12, "readsNumber", "()Z"⟩
abbrev cX12_notes : ByteArray := prog_14_method_20_code
def yX12_notes : MethodName := ⟨RX12, "notes", "(II)V"⟩
abbrev cX12_opens : ByteArray := prog_14_method_21_code
def yX12_opens : MethodName := ⟨RX12, "opens", "(I)Z"⟩
abbrev cX12_waitTop : ByteArray := prog_14_method_22_code
def yX12_waitTop : MethodName := ⟨RX12, "waitTop", "()I"⟩
abbrev cX12_factOf : ByteArray := prog_14_method_23_code
def yX12_factOf : MethodName := ⟨RX12, "factOf", "(I)I"⟩
abbrev cX12_sumSign : ByteArray := prog_14_method_24_code
def yX12_sumSign : MethodName := ⟨RX12, "sumSign", "(I)I"⟩
abbrev cX12_closesSums : ByteArray := prog_14_method_25_code
def yX12_closesSums : MethodName := ⟨RX12, "closesSums", "(Z)V"⟩
abbrev cX12_readsFactor : ByteArray := prog_14_method_26_code
def yX12_readsFactor : MethodName := ⟨RX12, "readsFactor", "()Z"⟩
abbrev cX12_hasOpenSum : ByteArray := prog_14_method_27_code
def yX12_hasOpenSum : MethodName := ⟨RX12, "hasOpenSum", "(I)Z"⟩
abbrev cX12_readsSum : ByteArray := prog_14_method_28_code
def yX12_readsSum : MethodName := ⟨RX12, "readsSum", "()Z"⟩
abbrev cX12_endsPiece : ByteArray := prog_14_method_29_code
def yX12_endsPiece : MethodName := ⟨RX12, "endsPiece", "()V"⟩
abbrev cX12_lands : ByteArray := prog_14_method_30_code
def yX12_lands : MethodName := ⟨RX12, "lands", "(Z)V"⟩
abbrev cX12_jumps : ByteArray := prog_14_method_31_code
def yX12_jumps : MethodName := ⟨RX12, "jumps", "(I)V"⟩
abbrev cX12_readsCompared : ByteArray := prog_14_method_32_code
def yX12_readsCompared : MethodName := ⟨RX12, "readsCompared", "()Z"⟩
abbrev cX12_readsCondition : ByteArray := prog_14_method_33_code
def yX12_readsCondition : MethodName := ⟨RX12, "readsCondition", "()Z"⟩
abbrev cX12_readsRule : ByteArray := prog_14_method_34_code
def yX12_readsRule : MethodName := ⟨RX12, "readsRule", "()Z"⟩
abbrev cX12_beginsText : ByteArray := prog_14_method_35_code
def yX12_beginsText : MethodName := ⟨RX12, "beginsText", "(I)V"⟩
abbrev cX12_law : ByteArray := prog_14_method_36_code
def yX12_law : MethodName := ⟨RX12, "law", "(I)I"⟩
abbrev cX12_reckon : ByteArray := prog_14_method_37_code
def yX12_reckon : MethodName := ⟨RX12, "reckon", "(III)I"⟩
abbrev cX12_reckonsTo : ByteArray := prog_14_method_38_code
def yX12_reckonsTo : MethodName := ⟨RX12, "reckonsTo", "(II)I"⟩
abbrev cX12_byLaw : ByteArray := prog_14_method_39_code
def yX12_byLaw : MethodName := ⟨RX12, "byLaw", "(II)I"⟩
abbrev cX12_holdsAnyOrNone : ByteArray := prog_14_method_40_code
def yX12_holdsAnyOrNone : MethodName := ⟨RX12, "holdsAnyOrNone", "(I)Z"⟩
abbrev cX12_feels : ByteArray := prog_14_method_41_code
def yX12_feels : MethodName := ⟨RX12, "feels", "(II)V"⟩
abbrev cX12_isLetter : ByteArray := prog_14_method_42_code
def yX12_isLetter : MethodName := ⟨RX12, "isLetter", "()Z"⟩
abbrev cX12_readsBreath : ByteArray := prog_14_method_43_code
def yX12_readsBreath : MethodName := ⟨RX12, "readsBreath", "(I)Z"⟩
abbrev cX12_readsSecret : ByteArray := prog_14_method_44_code
def yX12_readsSecret : MethodName := ⟨RX12, "readsSecret", "(IZ)Z"⟩
abbrev cX12_readsOther : ByteArray := prog_14_method_45_code
def yX12_readsOther : MethodName := ⟨RX12, "readsOther", "(I)Z"⟩
abbrev cX12_readsLine : ByteArray := prog_14_method_46_code
def yX12_readsLine : MethodName := ⟨RX12, "readsLine", "()Z"⟩
abbrev cX12_gossip : ByteArray := prog_14_method_47_code
def yX12_gossip : MethodName := ⟨RX12, "gossip", "(I)I"⟩
abbrev cX12_readsWord : ByteArray := prog_14_method_48_code
def yX12_readsWord : MethodName := ⟨RX12, "readsWord", "()Z"⟩
abbrev cX12_copy : ByteArray := prog_14_method_49_code
def yX12_copy : MethodName := ⟨RX12, "copy", "(I)I"⟩
abbrev cX12_chosenBy : ByteArray := prog_14_method_50_code
def yX12_chosenBy : MethodName := ⟨RX12, "chosenBy", "(I)I"⟩
abbrev cX12_draws : ByteArray := prog_14_method_51_code
def yX12_draws : MethodName := ⟨RX12, "draws", "()I"⟩
abbrev cX12_nextTold : ByteArray := prog_14_method_52_code
def yX12_nextTold : MethodName := ⟨RX12, "nextTold", "(II)I"⟩
abbrev cX12_prints : ByteArray := prog_14_method_53_code
def yX12_prints : MethodName := ⟨RX12, "prints", "(III)V"⟩
abbrev cX12_whispers : ByteArray := prog_14_method_54_code
def yX12_whispers : MethodName := ⟨RX12, "whispers", "(I)V"⟩
abbrev cX12_weekGoes : ByteArray := prog_14_method_55_code
def yX12_weekGoes : MethodName := ⟨RX12, "weekGoes", "()V"⟩
abbrev cX12_weeksGo : ByteArray := prog_14_method_56_code
def yX12_weeksGo : MethodName := ⟨RX12, "weeksGo", "(I)V"⟩
abbrev cX12_weeks : ByteArray := prog_14_method_57_code
def yX12_weeks : MethodName := ⟨RX12, "weeks", "(I)I"⟩
abbrev cX12_knownByAny : ByteArray := prog_14_method_58_code
def yX12_knownByAny : MethodName := ⟨RX12, "knownByAny", "()I"⟩
abbrev cX12_knownByAll : ByteArray := prog_14_method_59_code
def yX12_knownByAll : MethodName := ⟨RX12, "knownByAll", "()I"⟩
abbrev cX12_tried : ByteArray := prog_14_method_60_code
def yX12_tried : MethodName := ⟨RX12, "tried", "(II)I"⟩
abbrev cX12_personIs : ByteArray := prog_14_method_61_code
def yX12_personIs : MethodName := ⟨RX12, "personIs", "(II)I"⟩
abbrev cX12_allKnow : ByteArray := prog_14_method_62_code
def yX12_allKnow : MethodName := ⟨RX12, "allKnow", "(II)I"⟩
abbrev cX12_silent : ByteArray := prog_14_method_63_code
def yX12_silent : MethodName := ⟨RX12, "silent", "(I)I"⟩
abbrev cX12_whose : ByteArray := prog_14_method_64_code
def yX12_whose : MethodName := ⟨RX12, "whose", "(I)I"⟩
abbrev cX12_alone : ByteArray := prog_14_method_65_code
def yX12_alone : MethodName := ⟨RX12, "alone", "()I"⟩
abbrev cX12_enough : ByteArray := prog_14_method_66_code
def yX12_enough : MethodName := ⟨RX12, "enough", "(I)I"⟩
abbrev cX12_backMany : ByteArray := prog_14_method_67_code
def yX12_backMany : MethodName := ⟨RX12, "backMany", "()I"⟩
abbrev cX12_issueOf : ByteArray := prog_14_method_68_code
def yX12_issueOf : MethodName := ⟨RX12, "issueOf", "(I)I"⟩
abbrev cX12_printedOf : ByteArray := prog_14_method_69_code
def yX12_printedOf : MethodName := ⟨RX12, "printedOf", "(III)I"⟩
abbrev cX12_backNumber : ByteArray := prog_14_method_70_code
def yX12_backNumber : MethodName := ⟨RX12, "backNumber", "(II)I"⟩
abbrev cX12_secretsOf : ByteArray := prog_14_method_71_code
def yX12_secretsOf : MethodName := ⟨RX12, "secretsOf", "(I)I"⟩
abbrev cX12_laysBlackmail : ByteArray := prog_14_method_72_code
def yX12_laysBlackmail : MethodName := ⟨RX12, "laysBlackmail", "(I)V"⟩
abbrev cX12_blackmail : ByteArray := prog_14_method_73_code
def yX12_blackmail : MethodName := ⟨RX12, "blackmail", "(II)I"⟩
abbrev cX12_oftenPrinted : ByteArray := prog_14_method_74_code
def yX12_oftenPrinted : MethodName := ⟨RX12, "oftenPrinted", "(II)I"⟩
abbrev cX12_mostPrinted : ByteArray := prog_14_method_75_code
def yX12_mostPrinted : MethodName := ⟨RX12, "mostPrinted", "(I)I"⟩
abbrev cX12_pair : ByteArray := prog_14_method_76_code
def yX12_pair : MethodName := ⟨RX12, "pair", "(I)I"⟩
abbrev cX12_reached : ByteArray := prog_14_method_77_code
def yX12_reached : MethodName := ⟨RX12, "reached", "(I)I"⟩
abbrev cX12_setsCopy : ByteArray := prog_14_method_78_code
def yX12_setsCopy : MethodName := ⟨RX12, "setsCopy", "(I)V"⟩
abbrev cX12_set : ByteArray := prog_14_method_79_code
def yX12_set : MethodName := ⟨RX12, "set", "(II)I"⟩
abbrev cX12_lineOf : ByteArray := prog_14_method_80_code
def yX12_lineOf : MethodName := ⟨RX12, "lineOf", "(II)I"⟩
abbrev cX12_copyIs : ByteArray := prog_14_method_81_code
def yX12_copyIs : MethodName := ⟨RX12, "copyIs", "(I)I"⟩
abbrev cX12_type : ByteArray := prog_14_method_82_code
def yX12_type : MethodName := ⟨RX12, "type", "(I)I"⟩
abbrev cX12_bought : ByteArray := prog_14_method_83_code
def yX12_bought : MethodName := ⟨RX12, "bought", "(I)I"⟩
abbrev cX12_nuns : ByteArray := prog_14_method_84_code
def yX12_nuns : MethodName := ⟨RX12, "nuns", "(II)I"⟩
abbrev cX12_space : ByteArray := prog_14_method_85_code
def yX12_space : MethodName := ⟨RX12, "space", "(III)I"⟩
abbrev cX12_style : ByteArray := prog_14_method_86_code
def yX12_style : MethodName := ⟨RX12, "style", "(II)I"⟩
abbrev cX12_names : ByteArray := prog_14_method_87_code
def yX12_names : MethodName := ⟨RX12, "names", "(II)I"⟩
abbrev cX12_duty : ByteArray := prog_14_method_88_code
def yX12_duty : MethodName := ⟨RX12, "duty", "(II)I"⟩
abbrev cX12_hands : ByteArray := prog_14_method_89_code
def yX12_hands : MethodName := ⟨RX12, "hands", "(II)I"⟩
abbrev cX12_seed : ByteArray := prog_14_method_90_code
def yX12_seed : MethodName := ⟨RX12, "seed", "(I)Z"⟩
abbrev cX12_keep : ByteArray := prog_14_method_91_code
def yX12_keep : MethodName := ⟨RX12, "keep", "()I"⟩
abbrev cX12_undo : ByteArray := prog_14_method_92_code
def yX12_undo : MethodName := ⟨RX12, "undo", "()Z"⟩
abbrev cX12_check : ByteArray := prog_14_method_93_code
def yX12_check : MethodName := ⟨RX12, "check", "(I)I"⟩
abbrev cX12_readers : ByteArray := prog_14_method_94_code
def yX12_readers : MethodName := ⟨RX12, "readers", "()I"⟩
abbrev cX12_breathOfAll : ByteArray := prog_14_method_95_code
def yX12_breathOfAll : MethodName := ⟨RX12, "breathOfAll", "()I"⟩
abbrev cX12_count : ByteArray := prog_14_method_96_code
def yX12_count : MethodName := ⟨RX12, "count", "(I)I"⟩
def RJ6 : String := "java/lang/Integer"
abbrev cJ6_numberOfLeadingZeros_0f7a4 : ByteArray := prog_15_method_47_code
def yJ6_numberOfLeadingZeros_0f7a4 : MethodName := ⟨RJ6, "numberOfLeadingZeros", "(I)I"⟩
abbrev cJ6_numberOfTrailingZeros_0f7a4 : ByteArray := prog_15_method_48_code
def yJ6_numberOfTrailingZeros_0f7a4 : MethodName := ⟨RJ6, "numberOfTrailingZeros", "(I)I"⟩
abbrev cJ6_bitCount_0f7a4 : ByteArray := prog_15_method_49_code
def yJ6_bitCount_0f7a4 : MethodName := ⟨RJ6, "bitCount", "(I)I"⟩
def RJ9 : String := "java/lang/Math"
abbrev cJ9_floorMod_7cf53 : ByteArray := prog_16_method_50_code
def yJ9_floorMod_7cf53 : MethodName := ⟨RJ9, "floorMod", "(II)I"⟩
abbrev cJ9_abs_0f7a4 : ByteArray := prog_16_method_59_code
def yJ9_abs_0f7a4 : MethodName := ⟨RJ9, "abs", "(I)I"⟩
abbrev cJ9_max_7cf53 : ByteArray := prog_16_method_65_code
def yJ9_max_7cf53 : MethodName := ⟨RJ9, "max", "(II)I"⟩
abbrev cJ9_min_7cf53 : ByteArray := prog_16_method_69_code
def yJ9_min_7cf53 : MethodName := ⟨RJ9, "min", "(II)I"⟩
def RJ10 : String := "java/lang/System"
def RL : String := "WhisperPressLaw"
abbrev cL_law : ByteArray := code
def yL_law : MethodName := ⟨RL, "law", "([I)Z"⟩
end
section
/-! ===== the memory of the press and of the reference: 89 cells at addresses that are variables, each a row of ints ===== -/
abbrev zMem : Type := Nat → Nat → Int32
abbrev zR : Type := Int32 × zMem
def zRow (μ : zMem) (k : Nat) (g : Nat → Int32) : zMem := fun a => if a = k then g else μ a
def zUp (μ : zMem) (k j : Nat) (x : Int32) : zMem := zRow μ k (upd (μ k) j x)
/-- what a cell is: an array (of bytes or not, its length), or an object (its class, its fields: 0 an int, 1 a cell that may change, t + 2 the cell t) -/
abbrev zLK : Type := (Bool × Nat) ⊕ (Nat × List Nat)
def zLayL : List zLK := [
  .inr (11, [3, 5, 10, 15, 0, 20, 35, 38, 1, 1, 48, 52, 56, 58]),
  .inr (9, [4, 0, 0, 0]),
  .inl (false, 260),
  .inr (8, [6, 7, 8, 9, 0, 0, 0, 0]),
  .inl (false, 16),
  .inl (false, 16),
  .inl (false, 20),
  .inl (false, 320),
  .inr (8, [11, 12, 13, 14, 0, 0, 0, 0]),
  .inl (false, 16),
  .inl (false, 16),
  .inl (false, 20),
  .inl (false, 320),
  .inr (8, [16, 17, 18, 19, 0, 0, 0, 0]),
  .inl (false, 16),
  .inl (false, 16),
  .inl (false, 20),
  .inl (false, 320),
  .inr (6, [1, 1]),
  .inr (5, [22, 23, 24, 25, 26, 27, 0, 0]),
  .inl (false, 240),
  .inl (false, 240),
  .inl (false, 16),
  .inl (false, 16),
  .inl (false, 16),
  .inl (false, 16),
  .inr (5, [29, 30, 31, 32, 33, 34, 0, 0]),
  .inl (false, 240),
  .inl (false, 240),
  .inl (false, 16),
  .inl (false, 16),
  .inl (false, 16),
  .inl (false, 16),
  .inr (10, [36, 37, 0]),
  .inl (false, 9),
  .inl (false, 24),
  .inr (4, [39, 40, 41, 0]),
  .inl (false, 20),
  .inl (false, 20),
  .inl (false, 20),
  .inr (1, [43, 44, 0]),
  .inl (false, 60),
  .inl (false, 26),
  .inr (1, [46, 47, 0]),
  .inl (false, 60),
  .inl (false, 26),
  .inr (7, [49, 50, 51]),
  .inl (false, 61),
  .inl (false, 61),
  .inl (false, 61),
  .inr (2, [53, 54, 55, 0]),
  .inl (false, 20),
  .inl (false, 20),
  .inl (false, 20),
  .inr (0, [57]),
  .inl (false, 256),
  .inr (3, [59, 0, 60, 61]),
  .inl (false, 3),
  .inl (false, 16),
  .inl (false, 169),
  .inr (12, [63, 64, 65, 66, 67, 68, 69, 0, 70, 0, 0, 0, 0, 0, 0, 0, 0, 0, 0, 71, 72, 73, 74, 75, 76, 77, 78, 79, 80, 81, 82, 83, 0, 0, 0, 0, 84, 85, 0, 0, 86, 87, 88, 89, 90, 0]),
  .inl (false, 1047),
  .inl (false, 1047),
  .inl (false, 1047),
  .inl (false, 60),
  .inl (false, 26),
  .inl (false, 60),
  .inl (false, 26),
  .inl (true, 260),
  .inl (false, 260),
  .inl (false, 260),
  .inl (false, 16),
  .inl (false, 16),
  .inl (false, 16),
  .inl (false, 16),
  .inl (false, 260),
  .inl (false, 16),
  .inl (false, 16),
  .inl (false, 16),
  .inl (false, 16),
  .inl (false, 260),
  .inl (false, 9),
  .inl (false, 65536),
  .inl (true, 65536),
  .inl (false, 61),
  .inl (false, 61),
  .inl (false, 61),
  .inl (false, 169),
  .inl (false, 16)]
def zLay (k : Nat) : zLK := zLayL.getD k (.inl (false, 0))
def zLY (k : Nat) (x : zLK) : Prop := k < 89 ∧ zLay k = x
theorem zLY_of {k : Nat} {x : zLK} (h : (zLayL[k]? = some x)) : zLY k x := by
  have hl : zLayL.length = 89 := by decide +kernel
  refine ⟨?_, ?_⟩
  · have := (List.getElem?_eq_some_iff.mp h).1
    omega
  · unfold zLay; rw [List.getD_eq_getElem?_getD, h]; rfl
theorem zL0 : zLY 0 (.inr (11, [3, 5, 10, 15, 0, 20, 35, 38, 1, 1, 48, 52, 56, 58])) := zLY_of rfl
theorem zL1 : zLY 1 (.inr (9, [4, 0, 0, 0])) := zLY_of rfl
theorem zL2 : zLY 2 (.inl (false, 260)) := zLY_of rfl
theorem zL3 : zLY 3 (.inr (8, [6, 7, 8, 9, 0, 0, 0, 0])) := zLY_of rfl
theorem zL4 : zLY 4 (.inl (false, 16)) := zLY_of rfl
theorem zL5 : zLY 5 (.inl (false, 16)) := zLY_of rfl
theorem zL6 : zLY 6 (.inl (false, 20)) := zLY_of rfl
theorem zL7 : zLY 7 (.inl (false, 320)) := zLY_of rfl
theorem zL8 : zLY 8 (.inr (8, [11, 12, 13, 14, 0, 0, 0, 0])) := zLY_of rfl
theorem zL9 : zLY 9 (.inl (false, 16)) := zLY_of rfl
theorem zL10 : zLY 10 (.inl (false, 16)) := zLY_of rfl
theorem zL11 : zLY 11 (.inl (false, 20)) := zLY_of rfl
theorem zL12 : zLY 12 (.inl (false, 320)) := zLY_of rfl
theorem zL13 : zLY 13 (.inr (8, [16, 17, 18, 19, 0, 0, 0, 0])) := zLY_of rfl
theorem zL14 : zLY 14 (.inl (false, 16)) := zLY_of rfl
theorem zL15 : zLY 15 (.inl (false, 16)) := zLY_of rfl
theorem zL16 : zLY 16 (.inl (false, 20)) := zLY_of rfl
theorem zL17 : zLY 17 (.inl (false, 320)) := zLY_of rfl
theorem zL18 : zLY 18 (.inr (6, [1, 1])) := zLY_of rfl
theorem zL19 : zLY 19 (.inr (5, [22, 23, 24, 25, 26, 27, 0, 0])) := zLY_of rfl
theorem zL20 : zLY 20 (.inl (false, 240)) := zLY_of rfl
theorem zL21 : zLY 21 (.inl (false, 240)) := zLY_of rfl
theorem zL22 : zLY 22 (.inl (false, 16)) := zLY_of rfl
theorem zL23 : zLY 23 (.inl (false, 16)) := zLY_of rfl
theorem zL24 : zLY 24 (.inl (false, 16)) := zLY_of rfl
theorem zL25 : zLY 25 (.inl (false, 16)) := zLY_of rfl
theorem zL26 : zLY 26 (.inr (5, [29, 30, 31, 32, 33, 34, 0, 0])) := zLY_of rfl
theorem zL27 : zLY 27 (.inl (false, 240)) := zLY_of rfl
theorem zL28 : zLY 28 (.inl (false, 240)) := zLY_of rfl
theorem zL29 : zLY 29 (.inl (false, 16)) := zLY_of rfl
theorem zL30 : zLY 30 (.inl (false, 16)) := zLY_of rfl
theorem zL31 : zLY 31 (.inl (false, 16)) := zLY_of rfl
theorem zL32 : zLY 32 (.inl (false, 16)) := zLY_of rfl
theorem zL33 : zLY 33 (.inr (10, [36, 37, 0])) := zLY_of rfl
theorem zL34 : zLY 34 (.inl (false, 9)) := zLY_of rfl
theorem zL35 : zLY 35 (.inl (false, 24)) := zLY_of rfl
theorem zL36 : zLY 36 (.inr (4, [39, 40, 41, 0])) := zLY_of rfl
theorem zL37 : zLY 37 (.inl (false, 20)) := zLY_of rfl
theorem zL38 : zLY 38 (.inl (false, 20)) := zLY_of rfl
theorem zL39 : zLY 39 (.inl (false, 20)) := zLY_of rfl
theorem zL40 : zLY 40 (.inr (1, [43, 44, 0])) := zLY_of rfl
theorem zL41 : zLY 41 (.inl (false, 60)) := zLY_of rfl
theorem zL42 : zLY 42 (.inl (false, 26)) := zLY_of rfl
theorem zL43 : zLY 43 (.inr (1, [46, 47, 0])) := zLY_of rfl
theorem zL44 : zLY 44 (.inl (false, 60)) := zLY_of rfl
theorem zL45 : zLY 45 (.inl (false, 26)) := zLY_of rfl
theorem zL46 : zLY 46 (.inr (7, [49, 50, 51])) := zLY_of rfl
theorem zL47 : zLY 47 (.inl (false, 61)) := zLY_of rfl
theorem zL48 : zLY 48 (.inl (false, 61)) := zLY_of rfl
theorem zL49 : zLY 49 (.inl (false, 61)) := zLY_of rfl
theorem zL50 : zLY 50 (.inr (2, [53, 54, 55, 0])) := zLY_of rfl
theorem zL51 : zLY 51 (.inl (false, 20)) := zLY_of rfl
theorem zL52 : zLY 52 (.inl (false, 20)) := zLY_of rfl
theorem zL53 : zLY 53 (.inl (false, 20)) := zLY_of rfl
theorem zL54 : zLY 54 (.inr (0, [57])) := zLY_of rfl
theorem zL55 : zLY 55 (.inl (false, 256)) := zLY_of rfl
theorem zL56 : zLY 56 (.inr (3, [59, 0, 60, 61])) := zLY_of rfl
theorem zL57 : zLY 57 (.inl (false, 3)) := zLY_of rfl
theorem zL58 : zLY 58 (.inl (false, 16)) := zLY_of rfl
theorem zL59 : zLY 59 (.inl (false, 169)) := zLY_of rfl
theorem zL60 : zLY 60 (.inr (12, [63, 64, 65, 66, 67, 68, 69, 0, 70, 0, 0, 0, 0, 0, 0, 0, 0, 0, 0, 71, 72, 73, 74, 75, 76, 77, 78, 79, 80, 81, 82, 83, 0, 0, 0, 0, 84, 85, 0, 0, 86, 87, 88, 89, 90, 0])) := zLY_of rfl
theorem zL61 : zLY 61 (.inl (false, 1047)) := zLY_of rfl
theorem zL62 : zLY 62 (.inl (false, 1047)) := zLY_of rfl
theorem zL63 : zLY 63 (.inl (false, 1047)) := zLY_of rfl
theorem zL64 : zLY 64 (.inl (false, 60)) := zLY_of rfl
theorem zL65 : zLY 65 (.inl (false, 26)) := zLY_of rfl
theorem zL66 : zLY 66 (.inl (false, 60)) := zLY_of rfl
theorem zL67 : zLY 67 (.inl (false, 26)) := zLY_of rfl
theorem zL68 : zLY 68 (.inl (true, 260)) := zLY_of rfl
theorem zL69 : zLY 69 (.inl (false, 260)) := zLY_of rfl
theorem zL70 : zLY 70 (.inl (false, 260)) := zLY_of rfl
theorem zL71 : zLY 71 (.inl (false, 16)) := zLY_of rfl
theorem zL72 : zLY 72 (.inl (false, 16)) := zLY_of rfl
theorem zL73 : zLY 73 (.inl (false, 16)) := zLY_of rfl
theorem zL74 : zLY 74 (.inl (false, 16)) := zLY_of rfl
theorem zL75 : zLY 75 (.inl (false, 260)) := zLY_of rfl
theorem zL76 : zLY 76 (.inl (false, 16)) := zLY_of rfl
theorem zL77 : zLY 77 (.inl (false, 16)) := zLY_of rfl
theorem zL78 : zLY 78 (.inl (false, 16)) := zLY_of rfl
theorem zL79 : zLY 79 (.inl (false, 16)) := zLY_of rfl
theorem zL80 : zLY 80 (.inl (false, 260)) := zLY_of rfl
theorem zL81 : zLY 81 (.inl (false, 9)) := zLY_of rfl
theorem zL82 : zLY 82 (.inl (false, 65536)) := zLY_of rfl
theorem zL83 : zLY 83 (.inl (true, 65536)) := zLY_of rfl
theorem zL84 : zLY 84 (.inl (false, 61)) := zLY_of rfl
theorem zL85 : zLY 85 (.inl (false, 61)) := zLY_of rfl
theorem zL86 : zLY 86 (.inl (false, 61)) := zLY_of rfl
theorem zL87 : zLY 87 (.inl (false, 169)) := zLY_of rfl
theorem zL88 : zLY 88 (.inl (false, 16)) := zLY_of rfl
abbrev zClasses : List vw_C := [(RX0, TX0, 1), (RX1, TX1, 3), (RX2, TX2, 4), (RX3, TX3, 4), (RX4, TX4, 4), (RX5, TX5, 8), (RX6, TX6, 2), (RX7, TX7, 3), (RX8, TX8, 8), (RX9, TX9, 4), (RX10, TX10, 3), (RX11, TX11, 14), (RX12, TX12, 46)]
def zFv (ad : Nat → Nat) (q : Nat) (x : Int32) : Value := match q with
  | 0 => .int x
  | 1 => .ref (ad x.toNatClampNeg)
  | t + 2 => .ref (ad t)
def zFs (ad : Nat → Nat) (fks : List Nat) (f : Nat → Int32) : List Value := fks.zipIdx.map (fun q => zFv ad q.1 (f q.2))
def zCell (cyI cyB : ClassId) (ad : Nat → Nat) (x : zLK) (f : Nat → Int32) : va_E := match x with
  | .inl (b, n) => .inl (bif b then cyB else cyI, n, .inl f)
  | .inr (ci, fks) => .inr (ci, zFs ad fks f)
def zConc (cyI cyB : ClassId) (ad : Nat → Nat) (μ : zMem) : va_W := (List.range 89).map fun k => (ad k, zCell cyI cyB ad (zLay k) (μ k))
theorem zConc_at {cyI cyB : ClassId} {ad : Nat → Nat} {μ : zMem} {k : Nat} {x : zLK} (h : zLY k x) : (zConc cyI cyB ad μ)[k]? = some (ad k, zCell cyI cyB ad x (μ k)) := by
  obtain ⟨h1, h2⟩ := h
  subst h2
  simp [zConc, h1]
theorem zConc_set {cyI cyB : ClassId} {ad : Nat → Nat} {μ : zMem} {k : Nat} {x : zLK} (h : zLY k x) (g : Nat → Int32) : (zConc cyI cyB ad μ).set k (ad k, zCell cyI cyB ad x g) = zConc cyI cyB ad (zRow μ k g) := by
  obtain ⟨h1, h2⟩ := h
  subst h2
  apply List.ext_getElem?
  intro i
  by_cases hi : i = k
  · subst hi
    rw [List.getElem?_set_self (by simp [zConc, h1])]
    simp [zConc, h1, zRow]
  · rw [List.getElem?_set_ne (Ne.symm hi)]
    by_cases hl : i < 89
    · simp [zConc, hl, zRow, hi]
    · simp [zConc, hl]
theorem zFs_at {ad : Nat → Nat} {fks : List Nat} {f : Nat → Int32} {j q : Nat} (h : fks[j]? = some q) : (zFs ad fks f)[j]? = some (zFv ad q (f j)) := by
  simp [zFs, List.getElem?_zipIdx, h]
theorem zFs_set {ad : Nat → Nat} {fks : List Nat} {f : Nat → Int32} {j q : Nat} (h : fks[j]? = some q) (x : Int32) : (zFs ad fks f).set j (zFv ad q x) = zFs ad fks (upd f j x) := by
  apply List.ext_getElem?
  intro i
  have hj : j < fks.length := (List.getElem?_eq_some_iff.mp h).1
  by_cases hi : i = j
  · subst hi
    rw [List.getElem?_set_self (by simp [zFs, hj])]
    simp [zFs, List.getElem?_zipIdx, h, upd]
  · rw [List.getElem?_set_ne (Ne.symm hi)]
    simp only [zFs, List.getElem?_map, List.getElem?_zipIdx]
    cases fks[i]? with
    | none => rfl
    | some a => simp [upd, hi]
theorem zFs_len {ad : Nat → Nat} {fks : List Nat} {f : Nat → Int32} : (zFs ad fks f).length = fks.length := by simp [zFs]
/-- which addresses are the system's -/
def zA (ad : Nat → Nat) : Nat → Prop := fun q => ∃ k, k < 89 ∧ q = ad k
def zOK (ad : Nat → Nat) : Prop := ∀ i j, i < 89 → j < 89 → ad i = ad j → i = j
theorem zD {cyI cyB : ClassId} {ad : Nat → Nat} (h : zOK ad) (μ : zMem) : va_D (zA ad) (zConc cyI cyB ad μ) := by
  have key : ∀ (k : Nat) (q : Nat × va_E), (zConc cyI cyB ad μ)[k]? = some q → k < 89 ∧ q.1 = ad k := by
    intro k q hk
    have hl : k < 89 := by
      have := (List.getElem?_eq_some_iff.mp hk).1
      simpa [zConc] using this
    refine ⟨hl, ?_⟩
    rw [zConc_at ⟨hl, rfl⟩] at hk
    cases hk
    rfl
  refine ⟨fun i j x y hi hj hxy => ?_, fun k q hk => ?_⟩
  · obtain ⟨a1, a2⟩ := key i x hi
    obtain ⟨b1, b2⟩ := key j y hj
    exact h i j a1 b1 (by rw [← a2, ← b2, hxy])
  · obtain ⟨a1, a2⟩ := key k q hk
    exact ⟨k, a1, a2⟩
abbrev zTys (cyI cyB : ClassId) : List (ClassId × FieldType) := [(cyI, .int), (cyB, .byte)]
/-- the surroundings of all calls: the launch, the classes' numbers, the arrays' classes, the addresses -/
abbrev zEV : Type := Launch × va_G × ClassId × ClassId × (Nat → Nat)
/-- links to private methods of a nest mate -/
def zNL : List (String × Nat × MethodName × String) := [
  ("WhisperPress", 9, ⟨"WhisperPress$Tape", "<init>", "()V"⟩, "WhisperPress"),
  ("WhisperPress", 18, ⟨"WhisperPress$State", "<init>", "()V"⟩, "WhisperPress"),
  ("WhisperPress", 35, ⟨"WhisperPress$LawBook", "<init>", "()V"⟩, "WhisperPress"),
  ("WhisperPress$LawBook", 11, ⟨"WhisperPress$Law", "<init>", "()V"⟩, "WhisperPress"),
  ("WhisperPress", 42, ⟨"WhisperPress$Week", "<init>", "()V"⟩, "WhisperPress"),
  ("WhisperPress", 49, ⟨"WhisperPress$GossipSheet", "<init>", "()V"⟩, "WhisperPress"),
  ("WhisperPress", 56, ⟨"WhisperPress$CopySheet", "<init>", "()V"⟩, "WhisperPress"),
  ("WhisperPress", 66, ⟨"WhisperPress$Setting", "<init>", "()V"⟩, "WhisperPress"),
  ("WhisperPress", 73, ⟨"WhisperPress$Cover", "<init>", "()V"⟩, "WhisperPress"),
  ("WhisperPress", 80, ⟨"WhisperPress$Archive", "<init>", "()V"⟩, "WhisperPress"),
  ("WhisperPress", 87, ⟨"WhisperPress$Desk", "<init>", "()V"⟩, "WhisperPress"),
  ("WhisperPress$Tape", 19, ⟨"WhisperPress", "isWithin", "(III)Z"⟩, "WhisperPress"),
  ("WhisperPress$Law", 41, ⟨"WhisperPress", "isWithin", "(III)Z"⟩, "WhisperPress"),
  ("WhisperPress$GossipSheet", 46, ⟨"WhisperPress", "isPerson", "(I)Z"⟩, "WhisperPress"),
  ("WhisperPress$GossipSheet", 52, ⟨"WhisperPress", "hasBit", "(II)Z"⟩, "WhisperPress"),
  ("WhisperPress$GossipSheet", 70, ⟨"WhisperPress", "isSecret", "(I)Z"⟩, "WhisperPress"),
  ("WhisperPress$CopySheet", 43, ⟨"WhisperPress", "isWithin", "(III)Z"⟩, "WhisperPress"),
  ("WhisperPress$CopySheet", 55, ⟨"WhisperPress", "isLetter", "(I)Z"⟩, "WhisperPress"),
  ("WhisperPress$State", 47, ⟨"WhisperPress", "isPerson", "(I)Z"⟩, "WhisperPress"),
  ("WhisperPress$State", 51, ⟨"WhisperPress", "hasBit", "(II)Z"⟩, "WhisperPress"),
  ("WhisperPress$Week", 119, ⟨"WhisperPress", "hasBit", "(II)Z"⟩, "WhisperPress"),
  ("WhisperPress$Week", 90, ⟨"WhisperPress", "packedWhisper", "(III)I"⟩, "WhisperPress"),
  ("WhisperPress$State", 75, ⟨"WhisperPress", "secretOf", "(I)I"⟩, "WhisperPress"),
  ("WhisperPress$Archive", 28, ⟨"WhisperPress", "fromOf", "(I)I"⟩, "WhisperPress"),
  ("WhisperPress$Archive", 32, ⟨"WhisperPress", "toOf", "(I)I"⟩, "WhisperPress"),
  ("WhisperPress$Archive", 41, ⟨"WhisperPress", "hasBit", "(II)Z"⟩, "WhisperPress"),
  ("WhisperPress$Desk", 41, ⟨"WhisperPress", "isWithin", "(III)Z"⟩, "WhisperPress"),
  ("WhisperPress$Desk", 53, ⟨"WhisperPress", "hasBit", "(II)Z"⟩, "WhisperPress")]
def zNs (U : State) : Prop := ∀ q ∈ zNL, va_Nw (.methodLinkNest q.1 q.2.1 q.2.2.1 q.2.2.2) U
theorem zNs.warm {s U : State} (hW : s.WarmedH U.vm) (h : zNs s) : zNs U := fun q hq => va_Nw.warmM hW (h q hq)
theorem zNs.same {s U : State} (hv : s.vm = U.vm) (h : zNs s) : zNs U := fun q hq => va_Nw.same rfl hv (h q hq)
/-- the tables' words that go along with calls -/
def zT : List Cond := lw_tbl.filter goodWord
theorem zT_mem {w : Cond} (i : Nat) (h : lw_tbl[i]? = some w) (hg : goodWord w = true) : w ∈ zT := List.mem_filter.mpr ⟨List.mem_of_getElem? h, hg⟩
theorem zT_in : GoodIn zT zT := fun w hw => ⟨hw, good_of_word (List.mem_filter.mp hw).2⟩
def zWd (E : zEV) (μ : zMem) (U : State) : Prop := va_P E.2.1 zClasses (zConc E.2.2.1 E.2.2.2.1 E.2.2.2.2 μ) U.heap ∧ va_K E.2.1 zClasses (zTys E.2.2.1 E.2.2.2.1) U ∧ zNs U
def zRm (d : Nat) : Room := { frames := d, cells := 0, slots := 0, locals := 64 * d }
def zRv (ret : Option FieldType) (r : Int32) : Option Value := match ret with
  | none => none
  | some _ => some (.int r)
def zQ (E : zEV) (ret : Option FieldType) (out : zR) : Array Value → State → Outcome → State → Prop := fun _ st o t => o = .returned (zRv ret out.1) ∧ zWd E out.2 t ∧ va_F (zA E.2.2.2.2) st t
def zV (ad : Nat → Nat) (v : Value) : Value := match v with
  | .ref k => .ref (ad k)
  | v => v
def zLs (ad : Nat → Nat) (la : Array Slot) (nL : Nat) (ls : List (Option Value)) : Prop := la.size = nL ∧ lv_wf la ∧ ∀ (i : Nat) (v : Value), ls[i]? = some (some v) → la[i]? = some (.val (zV ad v))
/-- one run of one method: the machine, the frame, how deep it may go, what it must come to -/
abbrev zX : Type := zEV × (Program × Env × State × MethodId × Array Value × List Frame × Method × Code) × (Nat × Nat × Option FieldType × zR)
def zPr (X : zX) : Program := X.2.1.1
def zEn (X : zX) : Env := X.2.1.2.1
def zS (X : zX) : State := X.2.1.2.2.1
def zM (X : zX) : MethodId := X.2.1.2.2.2.1
def zArgs (X : zX) : Array Value := X.2.1.2.2.2.2.1
def zBel (X : zX) : List Frame := X.2.1.2.2.2.2.2.1
def zMeth (X : zX) : Method := X.2.1.2.2.2.2.2.2.1
def zCo (X : zX) : Code := X.2.1.2.2.2.2.2.2.2
def zDep (X : zX) : Nat := X.2.2.1
def znL (X : zX) : Nat := X.2.2.2.1
def zRet (X : zX) : Option FieldType := X.2.2.2.2.1
def zOut (X : zX) : zR := X.2.2.2.2.2
def zAW (X : zX) (pc : Nat) (ls : List (Option Value)) (st : List Value) (μ : zMem) : Prop :=
  ∀ (H : Heap) (locs : List Loc) (la : Array Slot), va_P X.1.2.1 zClasses (zConc X.1.2.2.1 X.1.2.2.2.1 X.1.2.2.2.2 μ) H → va_S (zA X.1.2.2.2.2) (zS X).heap H locs → zLs X.1.2.2.2.2 la (znL X) ls →
    W (zPr X) X.1.1 (zEn X) (zRm (zDep X)) (zS X) (zM X) (zArgs X) (zBel X) (zMeth X) (zCo X) H locs 0 0 (MQ (zBel X) (zQ X.1 (zRet X) (zOut X)) (zArgs X) (zS X) 0 0 (zA X.1.2.2.2.2)) (F0 (zM X) pc la (st.map (zV X.1.2.2.2.2)))
/-- what holds in a method of the class 'own', of the bytes cc, that needs lv frames -/
def zCx (X : zX) (own : String) (cc : ByteArray) (nL lv : Nat) : Prop :=
  (zPr X).tables.exec = Jvm.exec ∧ (zCo X).code = cc ∧ (zCo X).maxLocals = nL ∧ (zS X).vm.findClass own = some (zM X).cls ∧ (∀ w ∈ zT, w.before (zArgs X) (zS X) = true) ∧ va_K X.1.2.1 zClasses (zTys X.1.2.2.1 X.1.2.2.2.1) (zS X) ∧ (zMeth X).sig.returnType = zRet X ∧ (zMeth X).locks = false ∧ zOK X.1.2.2.2.2 ∧ lv ≤ zDep X ∧ zNs (zS X) ∧ znL X = nL
/-- a method's contract: from a memory μ and these arguments it comes to 'out' -/
def zCt (E : zEV) (y : MethodName) (bytes : ByteArray) (maxL : Nat) (ret : Option FieldType) (lv : Nat) (av : List Value) (μ : zMem) (out : zR) : Prop :=
  zOK E.2.2.2.2 → ∀ d, lv ≤ d → Met E.1 y (.code y bytes maxL ret :: zT) (zRm d) (va_Pc (av.map (zV E.2.2.2.2)) (fun U => zWd E μ U)) (zQ E ret out) 0 0 (zA E.2.2.2.2)
theorem zArgs_at : ∀ (av : List Value) (ad : Nat → Nat) (k i : Nat) (v : Value), (∀ w ∈ av, w.category = 1) → av[i]? = some v → (k + i, zV ad v) ∈ lv_args k (av.map (zV ad))
  | [], _, _, i, v, _, h => by simp at h
  | w :: av, ad, k, i, v, hc, h => by
    have hw : (zV ad w).category = 1 := by
      have := hc w List.mem_cons_self
      cases w <;> first | exact this | rfl
    show (k + i, zV ad v) ∈ (k, zV ad w) :: lv_args (if (zV ad w).category = 2 then k + 2 else k + 1) (av.map (zV ad))
    cases i with
    | zero =>
      have e : w = v := by simpa using h
      subst e
      exact List.mem_cons_self
    | succ i =>
      rw [if_neg (by rw [hw]; decide)]
      have := zArgs_at av ad (k + 1) i v (fun x hx => hc x (List.mem_cons_of_mem _ hx)) (by simpa using h)
      rw [show k + (i + 1) = k + 1 + i by omega]
      exact List.mem_cons_of_mem _ this
theorem zCt.of0 {E : zEV} {y : MethodName} {bytes : ByteArray} {maxL lv : Nat} {ret : Option FieldType} {av : List Value} {μ : zMem} {out : zR} (ls : List (Option Value)) (hy : plainName y.cls = true) (hn : (lg_sl (av.map (zV E.2.2.2.2))).length ≤ maxL)
    (hls : ∀ (i : Nat) (v : Value), ls[i]? = some (some v) → (i, zV E.2.2.2.2 v) ∈ lv_args 0 (av.map (zV E.2.2.2.2)))
    (h : ∀ X : zX, X.1 = E → zOut X = out → zRet X = ret → zCx X y.cls bytes maxL lv → zAW X 0 ls [] μ) : zCt E y bytes maxL ret lv av μ out := by
  intro hok d hd
  refine Met.ofW (cc := bytes) (maxL := maxL) (ret := ret) hy rfl ?_
  intro p e s m args below meth c s₁ B hml hv
  obtain ⟨rfl, hP, hK, hN⟩ := hv
  have hts := atoms_spec (ws := .code y bytes maxL ret :: zT) B.pre
  have hown : s.vm.findClass y.cls = some m.cls := findClass_of_methodNamed B.named
  have hl := lv_entry (av.map (zV E.2.2.2.2)) (n := maxL) hn
  rw [lg_entry_eq]
  exact h (E, (p, e, s, m, _, below, meth, c), (d, maxL, ret, out)) rfl rfl rfl ⟨B.exec, B.bytes, hml, hown, fun w hw => hts w (List.mem_cons_of_mem _ hw), hK, B.returns, B.notSynchronized, hok, hd, hN, rfl⟩ s.heap [] _ hP va_S.rf ⟨hl.1, hl.2.1, fun i v hi => hl.2.2 (i, _) (hls i v hi)⟩
end
section
/-! ===== one row an instruction, over the memory ===== -/
def zDC (cc : ByteArray) (pc : Nat) (op : Instr) (len nx : Nat) : Prop := decode cc pc = .ok (op, len) ∧ pc + len = nx
def zDJ (cc : ByteArray) (pc : Nat) (op : Int → Instr) (nx tgt : Nat) : Prop := ∃ off : Int, decode cc pc = .ok (op off, 3) ∧ (pc : Int) + off = (tgt : Int) ∧ pc + 3 = nx
/-- a number that an instruction puts -/
def zDK (cc : ByteArray) (pc : Nat) (v : Int32) (nx : Nat) : Prop := (∃ n, decode cc pc = .ok (.iconst n, 1) ∧ Int32.ofInt n = v ∧ pc + 1 = nx) ∨ (∃ n, decode cc pc = .ok (.bipush n, 2) ∧ (Int8.ofInt n).toInt32 = v ∧ pc + 2 = nx) ∨ ∃ n, decode cc pc = .ok (.sipush n, 3) ∧ (Int16.ofInt n).toInt32 = v ∧ pc + 3 = nx
/-- a local that an instruction loads (an int; a reference), stores -/
def zDLi (cc : ByteArray) (pc i nx : Nat) : Prop := (∃ k : Fin 4, decode cc pc = .ok (.iload_n k, 1) ∧ (k : Nat) = i ∧ pc + 1 = nx) ∨ (decode cc pc = .ok (.iload i, 2) ∧ pc + 2 = nx)
def zDLa (cc : ByteArray) (pc i nx : Nat) : Prop := (∃ k : Fin 4, decode cc pc = .ok (.aload_n k, 1) ∧ (k : Nat) = i ∧ pc + 1 = nx) ∨ (decode cc pc = .ok (.aload i, 2) ∧ pc + 2 = nx)
def zDSi (cc : ByteArray) (pc i nx : Nat) : Prop := (∃ k : Fin 4, decode cc pc = .ok (.istore_n k, 1) ∧ (k : Nat) = i ∧ pc + 1 = nx) ∨ (decode cc pc = .ok (.istore i, 2) ∧ pc + 2 = nx)
def zDSa (cc : ByteArray) (pc i nx : Nat) : Prop := (∃ k : Fin 4, decode cc pc = .ok (.astore_n k, 1) ∧ (k : Nat) = i ∧ pc + 1 = nx) ∨ (decode cc pc = .ok (.astore i, 2) ∧ pc + 2 = nx)
/-- guards of the functions that tell what methods do: an index, a divisor, a truth, a cell; a call -/
def zG (i : Int32) (n : Nat) (B : Option zR) : Option zR := if ¬ (i < 0 ∨ n ≤ i.toNatClampNeg) then B else none
def zGz (y : Int32) (B : Option zR) : Option zR := if y = 0 then none else B
def zGb (b : Bool) (B : Option zR) : Option zR := if b = true then B else none
def zBd (x : Option zR) (K : Int32 → zMem → Option zR) : Option zR := match x with
  | none => none
  | some q => K q.1 q.2
theorem zG_some {i : Int32} {n : Nat} {B : Option zR} {o : zR} (h : zG i n B = some o) : vp_in i n ∧ B = some o := by
  unfold zG at h
  by_cases hc : ¬ (i < 0 ∨ n ≤ i.toNatClampNeg)
  · rw [if_pos hc] at h; exact ⟨hc, h⟩
  · rw [if_neg hc] at h; cases h
theorem zGz_some {y : Int32} {B : Option zR} {o : zR} (h : zGz y B = some o) : ¬ y = 0 ∧ B = some o := by
  unfold zGz at h
  by_cases hc : y = 0
  · rw [if_pos hc] at h; cases h
  · rw [if_neg hc] at h; exact ⟨hc, h⟩
theorem zGb_some {b : Bool} {B : Option zR} {o : zR} (h : zGb b B = some o) : b = true ∧ B = some o := by
  unfold zGb at h
  by_cases hc : b = true
  · rw [if_pos hc] at h; exact ⟨hc, h⟩
  · rw [if_neg hc] at h; cases h
theorem zBd_some {x : Option zR} {K : Int32 → zMem → Option zR} {o : zR} (h : zBd x K = some o) : ∃ r μ, x = some (r, μ) ∧ K r μ = some o := by
  cases x with
  | none => cases h
  | some q => exact ⟨q.1, q.2, rfl, h⟩
/-- fewer locals are known -/
def zLw : List (Option Value) → List (Option Value) → Prop
  | [], _ => True
  | none :: a, b => zLw a b.tail
  | some v :: a, b => b.head? = some (some v) ∧ zLw a b.tail
theorem zLw_at : ∀ (a b : List (Option Value)), zLw a b → ∀ (i : Nat) (v : Value), a[i]? = some (some v) → b[i]? = some (some v)
  | [], _, _, i, v, h => by simp at h
  | none :: a, b, h, i, v, hi => by
    cases i with
    | zero => simp at hi
    | succ i =>
      have h2 := zLw_at a b.tail h i v (by simpa using hi)
      simpa [List.getElem?_tail] using h2
  | some w :: a, b, h, i, v, hi => by
    cases i with
    | zero =>
      have e : w = v := by simpa using hi
      subst e
      rw [← List.head?_eq_getElem?]
      exact h.1
    | succ i =>
      have h2 := zLw_at a b.tail h.2 i v (by simpa using hi)
      simpa [List.getElem?_tail] using h2
theorem zLs.weak {ad : Nat → Nat} {la : Array Slot} {nL : Nat} {ls ls' : List (Option Value)} (h : zLs ad la nL ls) (hw : zLw ls' ls) : zLs ad la nL ls' := ⟨h.1, h.2.1, fun i v hi => h.2.2 i v (zLw_at _ _ hw i v hi)⟩
theorem zAW.weak {X : zX} {pc : Nat} {ls ls' : List (Option Value)} {st : List Value} {μ : zMem} (h : zAW X pc ls' st μ) (hw : zLw ls' ls) : zAW X pc ls st μ := fun H locs la hP hS hl => h H locs la hP hS (hl.weak hw)
theorem zV_cat (ad : Nat → Nat) (v : Value) : (zV ad v).category = v.category := by cases v <;> rfl
/-- the pairs of a list of locals -/
def zPs (ad : Nat → Nat) (ls : List (Option Value)) : List (Nat × Value) := ls.zipIdx.filterMap (fun q => q.1.map (fun v => (q.2, zV ad v)))
theorem zPs_mem {ad : Nat → Nat} {ls : List (Option Value)} {i : Nat} {v : Value} (h : ls[i]? = some (some v)) : (i, zV ad v) ∈ zPs ad ls := by
  refine List.mem_filterMap.mpr ⟨(some v, i), ?_, rfl⟩
  exact List.mem_iff_getElem?.mpr ⟨i, by simp [List.getElem?_zipIdx, h]⟩
theorem zPs_at {ad : Nat → Nat} {ls : List (Option Value)} {q : Nat × Value} (h : q ∈ zPs ad ls) : ∃ v, ls[q.1]? = some (some v) ∧ q.2 = zV ad v := by
  obtain ⟨⟨o, i⟩, h1, h2⟩ := List.mem_filterMap.mp h
  obtain ⟨j, hj⟩ := List.mem_iff_getElem?.mp h1
  rw [List.getElem?_zipIdx] at hj
  cases ho : ls[j]? with
  | none => rw [ho] at hj; simp at hj
  | some x =>
    rw [ho] at hj
    simp at hj
    obtain ⟨e1, e2⟩ := hj
    subst e1; subst e2
    cases x with
    | none => simp at h2
    | some v =>
      simp at h2
      subst h2
      exact ⟨v, ho, rfl⟩
theorem zLs.has {ad : Nat → Nat} {la : Array Slot} {nL : Nat} {ls : List (Option Value)} (h : zLs ad la nL ls) : lv_has la nL (zPs ad ls) := ⟨h.1, h.2.1, fun q hq => by
  obtain ⟨v, h1, h2⟩ := zPs_at hq
  rw [h2]
  exact h.2.2 q.1 v h1⟩
/-- all listed locals are of one slot -/
def z1 (ls : List (Option Value)) : Prop := ∀ (i : Nat) (v : Value), ls[i]? = some (some v) → v.category = 1
def z1b (ls : List (Option Value)) : Bool := ls.all (fun q => match q with
  | none => true
  | some (.int _) => true
  | some (.ref _) => true
  | _ => false)
theorem z1_of {ls : List (Option Value)} (h : z1b ls = true) : z1 ls := by
  intro i v hi
  have h1 := List.all_eq_true.mp h (some v) (List.mem_of_getElem? hi)
  cases v <;> first | rfl | simp at h1
theorem zLs.put {ad : Nat → Nat} {la' : Array Slot} {nL i : Nat} {ls : List (Option Value)} {v : Value} (hls : z1b ls = true) (h : lv_has la' nL ((i, zV ad v) :: (zPs ad ls).filter (fun q => !(q.1 == i) && !(q.1 + 1 == i && q.2.category == 2)))) : zLs ad la' nL (ls.set i (some v)) := by
  refine ⟨h.1, h.2.1, fun j w hj => ?_⟩
  by_cases hij : j = i
  · subst hij
    have hl : j < ls.length := by
      have := (List.getElem?_eq_some_iff.mp hj).1
      simpa using this
    rw [List.getElem?_set_self hl] at hj
    cases hj
    exact h.2.2 (j, zV ad v) List.mem_cons_self
  · rw [List.getElem?_set_ne (Ne.symm hij)] at hj
    refine h.2.2 (j, zV ad w) (List.mem_cons_of_mem _ (List.mem_filter.mpr ⟨zPs_mem hj, ?_⟩))
    have hc := z1_of hls j w hj
    simp [hij, zV_cat, hc]
section ZS
variable {X : zX} {own : String} {cc : ByteArray} {nL lv pc nx : Nat} {ls : List (Option Value)} {st : List Value} {μ : zMem}
theorem zs_k {v : Int32} (hC : zCx X own cc nL lv) (hd : zDK cc pc v nx) (k : zAW X nx ls (.int v :: st) μ) : zAW X pc ls st μ := by
  intro H locs la hP hS hl
  rcases hd with ⟨n, h1, h2, rfl⟩ | ⟨n, h1, h2, rfl⟩ | ⟨n, h1, h2, rfl⟩
  · exact lv_iconst hC.1 hC.2.1 h1 h2 (k H locs la hP hS hl)
  · exact lv_bipush hC.1 hC.2.1 h1 h2 (k H locs la hP hS hl)
  · exact lv_sipush hC.1 hC.2.1 h1 h2 (k H locs la hP hS hl)
theorem zs_ldc {v : Int32} {idx : Nat} (hC : zCx X own cc nL lv) (hw : Cond.constant own idx v ∈ zT) (hd : zDC cc pc (.ldc idx) 2 nx) (k : zAW X nx ls (.int v :: st) μ) : zAW X pc ls st μ := by
  obtain ⟨h1, rfl⟩ := hd
  intro H locs la hP hS hl
  exact lv_ldc hC.1 hC.2.1 hC.2.2.2.1 (hC.2.2.2.2.1 _ hw) h1 (k H locs la hP hS hl)
theorem zs_ldcw {v : Int32} {idx : Nat} (hC : zCx X own cc nL lv) (hw : Cond.constant own idx v ∈ zT) (hd : zDC cc pc (.ldc_w idx) 3 nx) (k : zAW X nx ls (.int v :: st) μ) : zAW X pc ls st μ := by
  obtain ⟨h1, rfl⟩ := hd
  intro H locs la hP hS hl
  exact lv_ldcw hC.1 hC.2.1 hC.2.2.2.1 (hC.2.2.2.2.1 _ hw) h1 (k H locs la hP hS hl)
theorem zs_il {i : Nat} {x : Int32} (hC : zCx X own cc nL lv) (hd : zDLi cc pc i nx) (hi : ls[i]? = some (some (.int x))) (k : zAW X nx ls (.int x :: st) μ) : zAW X pc ls st μ := by
  intro H locs la hP hS hl
  have hg := hl.2.2 i _ hi
  rcases hd with ⟨n, h1, h2, rfl⟩ | ⟨h1, rfl⟩
  · exact lv_iload_n hC.1 hC.2.1 h1 h2 hg (k H locs la hP hS hl)
  · exact lv_iload hC.1 hC.2.1 h1 hg (k H locs la hP hS hl)
theorem zs_al {i x : Nat} (hC : zCx X own cc nL lv) (hd : zDLa cc pc i nx) (hi : ls[i]? = some (some (.ref x))) (k : zAW X nx ls (.ref x :: st) μ) : zAW X pc ls st μ := by
  intro H locs la hP hS hl
  have hg := hl.2.2 i _ hi
  rcases hd with ⟨n, h1, h2, rfl⟩ | ⟨h1, rfl⟩
  · exact lv_aload_n hC.1 hC.2.1 h1 h2 hg (k H locs la hP hS hl)
  · exact lv_aload hC.1 hC.2.1 h1 hg (k H locs la hP hS hl)
theorem zs_is {i : Nat} {x : Int32} (hC : zCx X own cc nL lv) (hd : zDSi cc pc i nx) (hi : i < nL) (hb : z1b ls = true) (k : zAW X nx (ls.set i (some (.int x))) st μ) : zAW X pc ls (.int x :: st) μ := by
  have hn : znL X = nL := hC.2.2.2.2.2.2.2.2.2.2.2
  intro H locs la hP hS hl
  rcases hd with ⟨n, h1, h2, rfl⟩ | ⟨h1, rfl⟩
  · exact lv_istore_n hC.1 hC.2.1 h1 h2 hl.has (by rw [hn]; exact hi) rfl (fun la' h' => k H locs la' hP hS (zLs.put (v := .int x) hb h'))
  · exact lv_istore hC.1 hC.2.1 h1 hl.has (by rw [hn]; exact hi) rfl (fun la' h' => k H locs la' hP hS (zLs.put (v := .int x) hb h'))
theorem zs_as {i x : Nat} (hC : zCx X own cc nL lv) (hd : zDSa cc pc i nx) (hi : i < nL) (hb : z1b ls = true) (k : zAW X nx (ls.set i (some (.ref x))) st μ) : zAW X pc ls (.ref x :: st) μ := by
  have hn : znL X = nL := hC.2.2.2.2.2.2.2.2.2.2.2
  intro H locs la hP hS hl
  rcases hd with ⟨n, h1, h2, rfl⟩ | ⟨h1, rfl⟩
  · exact lv_astore_n hC.1 hC.2.1 h1 h2 hl.has (by rw [hn]; exact hi) rfl (fun la' h' => k H locs la' hP hS (zLs.put (v := .ref x) hb h'))
  · exact lv_astore hC.1 hC.2.1 h1 hl.has (by rw [hn]; exact hi) rfl (fun la' h' => k H locs la' hP hS (zLs.put (v := .ref x) hb h'))
theorem zs_iinc {i : Nat} {n : Int} {x : Int32} (v : Int32) (hC : zCx X own cc nL lv) (hd : zDC cc pc (.iinc i n) 3 nx) (hv : Int32.ofInt n = v) (hx : ls[i]? = some (some (.int x))) (hi : i < nL) (hb : z1b ls = true) (k : zAW X nx (ls.set i (some (.int (x + v)))) st μ) : zAW X pc ls st μ := by
  have hn : znL X = nL := hC.2.2.2.2.2.2.2.2.2.2.2
  obtain ⟨h1, rfl⟩ := hd
  intro H locs la hP hS hl
  obtain ⟨j, hj⟩ := List.mem_iff_getElem?.mp (zPs_mem (ad := X.1.2.2.2.2) hx)
  exact lv_iinc (v := x + v) hC.1 hC.2.1 h1 hl.has hj (by rw [hv]) (by rw [hn]; exact hi) rfl (fun la' h' => k H locs la' hP hS (zLs.put (v := .int (x + v)) hb h'))
theorem zs_iadd {x y : Int32} (hC : zCx X own cc nL lv) (hd : zDC cc pc .iadd 1 nx) (k : zAW X nx ls (.int (x + y) :: st) μ) : zAW X pc ls (.int y :: .int x :: st) μ := by
  obtain ⟨h1, rfl⟩ := hd
  exact fun H locs la hP hS hl => lv_iadd hC.1 hC.2.1 h1 (k H locs la hP hS hl)
theorem zs_isub {x y : Int32} (hC : zCx X own cc nL lv) (hd : zDC cc pc .isub 1 nx) (k : zAW X nx ls (.int (x - y) :: st) μ) : zAW X pc ls (.int y :: .int x :: st) μ := by
  obtain ⟨h1, rfl⟩ := hd
  exact fun H locs la hP hS hl => lv_isub hC.1 hC.2.1 h1 (k H locs la hP hS hl)
theorem zs_imul {x y : Int32} (hC : zCx X own cc nL lv) (hd : zDC cc pc .imul 1 nx) (k : zAW X nx ls (.int (x * y) :: st) μ) : zAW X pc ls (.int y :: .int x :: st) μ := by
  obtain ⟨h1, rfl⟩ := hd
  exact fun H locs la hP hS hl => lv_imul hC.1 hC.2.1 h1 (k H locs la hP hS hl)
theorem zs_iand {x y : Int32} (hC : zCx X own cc nL lv) (hd : zDC cc pc .iand 1 nx) (k : zAW X nx ls (.int (x &&& y) :: st) μ) : zAW X pc ls (.int y :: .int x :: st) μ := by
  obtain ⟨h1, rfl⟩ := hd
  exact fun H locs la hP hS hl => lv_iand hC.1 hC.2.1 h1 (k H locs la hP hS hl)
theorem zs_ior {x y : Int32} (hC : zCx X own cc nL lv) (hd : zDC cc pc .ior 1 nx) (k : zAW X nx ls (.int (x ||| y) :: st) μ) : zAW X pc ls (.int y :: .int x :: st) μ := by
  obtain ⟨h1, rfl⟩ := hd
  exact fun H locs la hP hS hl => lv_ior hC.1 hC.2.1 h1 (k H locs la hP hS hl)
theorem zs_ixor {x y : Int32} (hC : zCx X own cc nL lv) (hd : zDC cc pc .ixor 1 nx) (k : zAW X nx ls (.int (x ^^^ y) :: st) μ) : zAW X pc ls (.int y :: .int x :: st) μ := by
  obtain ⟨h1, rfl⟩ := hd
  exact fun H locs la hP hS hl => lv_ixor hC.1 hC.2.1 h1 (k H locs la hP hS hl)
theorem zs_ishl {x y : Int32} (hC : zCx X own cc nL lv) (hd : zDC cc pc .ishl 1 nx) (k : zAW X nx ls (.int (x <<< (y &&& 31)) :: st) μ) : zAW X pc ls (.int y :: .int x :: st) μ := by
  obtain ⟨h1, rfl⟩ := hd
  exact fun H locs la hP hS hl => lv_ishl hC.1 hC.2.1 h1 (k H locs la hP hS hl)
theorem zs_ishr {x y : Int32} (hC : zCx X own cc nL lv) (hd : zDC cc pc .ishr 1 nx) (k : zAW X nx ls (.int (x >>> (y &&& 31)) :: st) μ) : zAW X pc ls (.int y :: .int x :: st) μ := by
  obtain ⟨h1, rfl⟩ := hd
  exact fun H locs la hP hS hl => lv_ishr hC.1 hC.2.1 h1 (k H locs la hP hS hl)
def zUsh (x y : Int32) : Int32 := (x.toUInt32 >>> (y.toUInt32 &&& Int32.toUInt32 31)).toInt32
theorem zs_iushr {x y : Int32} (hC : zCx X own cc nL lv) (hd : zDC cc pc .iushr 1 nx) (k : zAW X nx ls (.int (zUsh x y) :: st) μ) : zAW X pc ls (.int y :: .int x :: st) μ := by
  obtain ⟨h1, rfl⟩ := hd
  exact fun H locs la hP hS hl => lv_iushr hC.1 hC.2.1 h1 rfl (k H locs la hP hS hl)
theorem zs_ineg {x : Int32} (hC : zCx X own cc nL lv) (hd : zDC cc pc .ineg 1 nx) (k : zAW X nx ls (.int (-x) :: st) μ) : zAW X pc ls (.int x :: st) μ := by
  obtain ⟨h1, rfl⟩ := hd
  exact fun H locs la hP hS hl => lv_ineg hC.1 hC.2.1 h1 (k H locs la hP hS hl)
theorem zs_i2b {x : Int32} (hC : zCx X own cc nL lv) (hd : zDC cc pc .i2b 1 nx) (k : zAW X nx ls (.int x.toInt8.toInt32 :: st) μ) : zAW X pc ls (.int x :: st) μ := by
  obtain ⟨h1, rfl⟩ := hd
  exact fun H locs la hP hS hl => lv_i2b hC.1 hC.2.1 h1 rfl (k H locs la hP hS hl)
theorem zs_idiv {x y : Int32} {B : Option zR} (hC : zCx X own cc nL lv) (hd : zDC cc pc .idiv 1 nx) (k : ¬ y = 0 → B = some (zOut X) → zAW X nx ls (.int (x / y) :: st) μ) (hf : zGz y B = some (zOut X)) : zAW X pc ls (.int y :: .int x :: st) μ := by
  obtain ⟨h1, rfl⟩ := hd
  obtain ⟨h2, h3⟩ := zGz_some hf
  exact fun H locs la hP hS hl => lv_idiv hC.1 hC.2.1 h1 h2 (k h2 h3 H locs la hP hS hl)
theorem zs_irem {x y : Int32} {B : Option zR} (hC : zCx X own cc nL lv) (hd : zDC cc pc .irem 1 nx) (k : ¬ y = 0 → B = some (zOut X) → zAW X nx ls (.int (x % y) :: st) μ) (hf : zGz y B = some (zOut X)) : zAW X pc ls (.int y :: .int x :: st) μ := by
  obtain ⟨h1, rfl⟩ := hd
  obtain ⟨h2, h3⟩ := zGz_some hf
  have k' := k h2 h3
  rw [← irem_eq_mod x y] at k'
  exact fun H locs la hP hS hl => lv_irem hC.1 hC.2.1 h1 h2 (k' H locs la hP hS hl)
theorem zs_dup {v : Value} (hC : zCx X own cc nL lv) (hd : zDC cc pc .dup 1 nx) (hv : v.category = 1) (k : zAW X nx ls (v :: v :: st) μ) : zAW X pc ls (v :: st) μ := by
  obtain ⟨h1, rfl⟩ := hd
  exact fun H locs la hP hS hl => lv_dup hC.1 hC.2.1 h1 (by rw [zV_cat]; exact hv) (k H locs la hP hS hl)
theorem zs_pop {v : Value} (hC : zCx X own cc nL lv) (hd : zDC cc pc .pop 1 nx) (hv : v.category = 1) (k : zAW X nx ls st μ) : zAW X pc ls (v :: st) μ := by
  obtain ⟨h1, rfl⟩ := hd
  exact fun H locs la hP hS hl => lv_pop hC.1 hC.2.1 h1 (by rw [zV_cat]; exact hv) (k H locs la hP hS hl)
theorem zs_dup2 {v w : Value} (hC : zCx X own cc nL lv) (hd : zDC cc pc .dup2 1 nx) (hv : v.category = 1) (hw : w.category = 1) (k : zAW X nx ls (v :: w :: v :: w :: st) μ) : zAW X pc ls (v :: w :: st) μ := by
  obtain ⟨h1, rfl⟩ := hd
  exact fun H locs la hP hS hl => lv_dup2_11 hC.1 hC.2.1 h1 (by rw [zV_cat]; exact hv) (by rw [zV_cat]; exact hw) (k H locs la hP hS hl)
theorem zs_goto {tgt : Nat} (hC : zCx X own cc nL lv) (hd : zDJ cc pc .goto nx tgt) (k : zAW X tgt ls st μ) : zAW X pc ls st μ := by
  obtain ⟨off, h1, h2, -⟩ := hd
  exact fun H locs la hP hS hl => lv_goto hC.1 hC.2.1 h1 h2 (k H locs la hP hS hl)
end ZS
end
section
section ZB
variable {X : zX} {own : String} {cc : ByteArray} {nL lv pc nx tgt : Nat} {ls : List (Option Value)} {st : List Value} {μ : zMem} {A B : Option zR}
theorem zs_if_eq {x : Int32} (hC : zCx X own cc nL lv) (hd : zDJ cc pc (.ifCond .eq) nx tgt) (kt : x = 0 → A = some (zOut X) → zAW X tgt ls st μ) (kf : ¬ x = 0 → B = some (zOut X) → zAW X nx ls st μ) (hf : (if x = 0 then A else B) = some (zOut X)) : zAW X pc ls (.int x :: st) μ := by
  obtain ⟨off, h1, h2, rfl⟩ := hd
  exact fun H locs la hP hS hl => lv_if_eq hC.1 hC.2.1 h1 h2 (fun hc => kt hc (by rw [if_pos hc] at hf; exact hf) H locs la hP hS hl) (fun hc => kf hc (by rw [if_neg hc] at hf; exact hf) H locs la hP hS hl)
theorem zs_if_lt {x : Int32} (hC : zCx X own cc nL lv) (hd : zDJ cc pc (.ifCond .lt) nx tgt) (kt : x < 0 → A = some (zOut X) → zAW X tgt ls st μ) (kf : ¬ x < 0 → B = some (zOut X) → zAW X nx ls st μ) (hf : (if x < 0 then A else B) = some (zOut X)) : zAW X pc ls (.int x :: st) μ := by
  obtain ⟨off, h1, h2, rfl⟩ := hd
  exact fun H locs la hP hS hl => lv_if_lt hC.1 hC.2.1 h1 h2 (fun hc => kt hc (by rw [if_pos hc] at hf; exact hf) H locs la hP hS hl) (fun hc => kf hc (by rw [if_neg hc] at hf; exact hf) H locs la hP hS hl)
theorem zs_if_ge {x : Int32} (hC : zCx X own cc nL lv) (hd : zDJ cc pc (.ifCond .ge) nx tgt) (kt : 0 ≤ x → A = some (zOut X) → zAW X tgt ls st μ) (kf : ¬ 0 ≤ x → B = some (zOut X) → zAW X nx ls st μ) (hf : (if 0 ≤ x then A else B) = some (zOut X)) : zAW X pc ls (.int x :: st) μ := by
  obtain ⟨off, h1, h2, rfl⟩ := hd
  exact fun H locs la hP hS hl => lv_if_ge hC.1 hC.2.1 h1 h2 (fun hc => kt hc (by rw [if_pos hc] at hf; exact hf) H locs la hP hS hl) (fun hc => kf hc (by rw [if_neg hc] at hf; exact hf) H locs la hP hS hl)
theorem zs_if_gt {x : Int32} (hC : zCx X own cc nL lv) (hd : zDJ cc pc (.ifCond .gt) nx tgt) (kt : 0 < x → A = some (zOut X) → zAW X tgt ls st μ) (kf : ¬ 0 < x → B = some (zOut X) → zAW X nx ls st μ) (hf : (if 0 < x then A else B) = some (zOut X)) : zAW X pc ls (.int x :: st) μ := by
  obtain ⟨off, h1, h2, rfl⟩ := hd
  exact fun H locs la hP hS hl => lv_if_gt hC.1 hC.2.1 h1 h2 (fun hc => kt hc (by rw [if_pos hc] at hf; exact hf) H locs la hP hS hl) (fun hc => kf hc (by rw [if_neg hc] at hf; exact hf) H locs la hP hS hl)
theorem zs_if_le {x : Int32} (hC : zCx X own cc nL lv) (hd : zDJ cc pc (.ifCond .le) nx tgt) (kt : x ≤ 0 → A = some (zOut X) → zAW X tgt ls st μ) (kf : ¬ x ≤ 0 → B = some (zOut X) → zAW X nx ls st μ) (hf : (if x ≤ 0 then A else B) = some (zOut X)) : zAW X pc ls (.int x :: st) μ := by
  obtain ⟨off, h1, h2, rfl⟩ := hd
  exact fun H locs la hP hS hl => lv_if_le hC.1 hC.2.1 h1 h2 (fun hc => kt hc (by rw [if_pos hc] at hf; exact hf) H locs la hP hS hl) (fun hc => kf hc (by rw [if_neg hc] at hf; exact hf) H locs la hP hS hl)
theorem zs_if_ne {x : Int32} (hC : zCx X own cc nL lv) (hd : zDJ cc pc (.ifCond .ne) nx tgt) (kf : x = 0 → A = some (zOut X) → zAW X nx ls st μ) (kt : ¬ x = 0 → B = some (zOut X) → zAW X tgt ls st μ) (hf : (if x = 0 then A else B) = some (zOut X)) : zAW X pc ls (.int x :: st) μ := by
  obtain ⟨off, h1, h2, rfl⟩ := hd
  exact fun H locs la hP hS hl => lv_if_ne hC.1 hC.2.1 h1 h2 (fun hc => kt hc (by rw [if_neg hc] at hf; exact hf) H locs la hP hS hl) (fun hc => kf hc (by rw [if_pos hc] at hf; exact hf) H locs la hP hS hl)
theorem zs_ic_eq {x y : Int32} (hC : zCx X own cc nL lv) (hd : zDJ cc pc (.if_icmp .eq) nx tgt) (kt : x = y → A = some (zOut X) → zAW X tgt ls st μ) (kf : ¬ x = y → B = some (zOut X) → zAW X nx ls st μ) (hf : (if x = y then A else B) = some (zOut X)) : zAW X pc ls (.int y :: .int x :: st) μ := by
  obtain ⟨off, h1, h2, rfl⟩ := hd
  exact fun H locs la hP hS hl => lv_icmp_eq hC.1 hC.2.1 h1 h2 (fun hc => kt hc (by rw [if_pos hc] at hf; exact hf) H locs la hP hS hl) (fun hc => kf hc (by rw [if_neg hc] at hf; exact hf) H locs la hP hS hl)
theorem zs_ic_lt {x y : Int32} (hC : zCx X own cc nL lv) (hd : zDJ cc pc (.if_icmp .lt) nx tgt) (kt : x < y → A = some (zOut X) → zAW X tgt ls st μ) (kf : ¬ x < y → B = some (zOut X) → zAW X nx ls st μ) (hf : (if x < y then A else B) = some (zOut X)) : zAW X pc ls (.int y :: .int x :: st) μ := by
  obtain ⟨off, h1, h2, rfl⟩ := hd
  exact fun H locs la hP hS hl => lv_icmp_lt hC.1 hC.2.1 h1 h2 (fun hc => kt hc (by rw [if_pos hc] at hf; exact hf) H locs la hP hS hl) (fun hc => kf hc (by rw [if_neg hc] at hf; exact hf) H locs la hP hS hl)
theorem zs_ic_ge {x y : Int32} (hC : zCx X own cc nL lv) (hd : zDJ cc pc (.if_icmp .ge) nx tgt) (kt : y ≤ x → A = some (zOut X) → zAW X tgt ls st μ) (kf : ¬ y ≤ x → B = some (zOut X) → zAW X nx ls st μ) (hf : (if y ≤ x then A else B) = some (zOut X)) : zAW X pc ls (.int y :: .int x :: st) μ := by
  obtain ⟨off, h1, h2, rfl⟩ := hd
  exact fun H locs la hP hS hl => lv_icmp_ge hC.1 hC.2.1 h1 h2 (fun hc => kt hc (by rw [if_pos hc] at hf; exact hf) H locs la hP hS hl) (fun hc => kf hc (by rw [if_neg hc] at hf; exact hf) H locs la hP hS hl)
theorem zs_ic_gt {x y : Int32} (hC : zCx X own cc nL lv) (hd : zDJ cc pc (.if_icmp .gt) nx tgt) (kt : y < x → A = some (zOut X) → zAW X tgt ls st μ) (kf : ¬ y < x → B = some (zOut X) → zAW X nx ls st μ) (hf : (if y < x then A else B) = some (zOut X)) : zAW X pc ls (.int y :: .int x :: st) μ := by
  obtain ⟨off, h1, h2, rfl⟩ := hd
  exact fun H locs la hP hS hl => lv_icmp_gt hC.1 hC.2.1 h1 h2 (fun hc => kt hc (by rw [if_pos hc] at hf; exact hf) H locs la hP hS hl) (fun hc => kf hc (by rw [if_neg hc] at hf; exact hf) H locs la hP hS hl)
theorem zs_ic_le {x y : Int32} (hC : zCx X own cc nL lv) (hd : zDJ cc pc (.if_icmp .le) nx tgt) (kt : x ≤ y → A = some (zOut X) → zAW X tgt ls st μ) (kf : ¬ x ≤ y → B = some (zOut X) → zAW X nx ls st μ) (hf : (if x ≤ y then A else B) = some (zOut X)) : zAW X pc ls (.int y :: .int x :: st) μ := by
  obtain ⟨off, h1, h2, rfl⟩ := hd
  exact fun H locs la hP hS hl => lv_icmp_le hC.1 hC.2.1 h1 h2 (fun hc => kt hc (by rw [if_pos hc] at hf; exact hf) H locs la hP hS hl) (fun hc => kf hc (by rw [if_neg hc] at hf; exact hf) H locs la hP hS hl)
theorem zs_ic_ne {x y : Int32} (hC : zCx X own cc nL lv) (hd : zDJ cc pc (.if_icmp .ne) nx tgt) (kf : x = y → A = some (zOut X) → zAW X nx ls st μ) (kt : ¬ x = y → B = some (zOut X) → zAW X tgt ls st μ) (hf : (if x = y then A else B) = some (zOut X)) : zAW X pc ls (.int y :: .int x :: st) μ := by
  obtain ⟨off, h1, h2, rfl⟩ := hd
  exact fun H locs la hP hS hl => lv_icmp_ne hC.1 hC.2.1 h1 h2 (fun hc => kt hc (by rw [if_neg hc] at hf; exact hf) H locs la hP hS hl) (fun hc => kf hc (by rw [if_pos hc] at hf; exact hf) H locs la hP hS hl)
/-- a guess at a number that a switch asks -/
theorem zs_case (v : Int32) {x : Int32} (kt : x = v → A = some (zOut X) → zAW X pc ls (.int x :: st) μ) (kf : ¬ x = v → B = some (zOut X) → zAW X pc ls (.int x :: st) μ) (hf : (if x = v then A else B) = some (zOut X)) : zAW X pc ls (.int x :: st) μ := by
  by_cases hc : x = v
  · rw [if_pos hc] at hf; exact kt hc hf
  · rw [if_neg hc] at hf; exact kf hc hf
theorem zs_tabI {x v : Int32} {dflt lo hi off : Int} {offs : Array Int} {len : Nat} (hC : zCx X own cc nL lv) (hx : x = v) (hd : decode cc pc = .ok (.tableswitch dflt lo hi offs, len)) (h1 : ¬ v.toInt < lo) (h2 : ¬ hi < v.toInt) (ho : offs[(v.toInt - lo).toNat]? = some off) (ht : (pc : Int) + off = (tgt : Int)) (k : zAW X tgt ls st μ) : zAW X pc ls (.int x :: st) μ := by
  subst hx
  exact fun H locs la hP hS hl => lv_tableIn hC.1 hC.2.1 hd h1 h2 ho ht (k H locs la hP hS hl)
theorem zs_tabO {x : Int32} {dflt lo hi : Int} {offs : Array Int} {len : Nat} (hC : zCx X own cc nL lv) (hd : decode cc pc = .ok (.tableswitch dflt lo hi offs, len)) (h : x.toInt < lo ∨ hi < x.toInt) (ht : (pc : Int) + dflt = (tgt : Int)) (k : zAW X tgt ls st μ) : zAW X pc ls (.int x :: st) μ :=
  fun H locs la hP hS hl => lv_tableOut hC.1 hC.2.1 hd h ht (k H locs la hP hS hl)
theorem zs_look {x : Int32} {dflt off : Int} {ps : Array (Int × Int)} {len : Nat} (hC : zCx X own cc nL lv) (hd : decode cc pc = .ok (.lookupswitch dflt ps, len)) (hp : (ps.toList.zip (ps.toList.drop 1)).all (fun (a, next) => a.1 < next.1) = true) (ho : Op.lookupswitch.offset ps.toList dflt x.toInt = off) (ht : (pc : Int) + off = (tgt : Int)) (k : zAW X tgt ls st μ) : zAW X pc ls (.int x :: st) μ :=
  fun H locs la hP hS hl => lv_lookup hC.1 hC.2.1 hd hp ho ht (k H locs la hP hS hl)
theorem zs_gb {b : Bool} (k : b = true → B = some (zOut X) → zAW X pc ls st μ) (hf : zGb b B = some (zOut X)) : zAW X pc ls st μ := k (zGb_some hf).1 (zGb_some hf).2
end ZB
end
section
/-! ===== fields, arrays, returns, calls ===== -/
/-- the field j of the class ci, as 'own' links it -/
def zFL (own : String) (idx ci j : Nat) : Prop := ∃ q : vw_C, zClasses[ci]? = some q ∧ j < q.2.2 ∧ (∀ w ∈ u_ws q.1 q.2.1 q.2.2, w ∈ zT) ∧ Cond.fieldLink own idx (q.2.1 j).1 (q.2.1 j).2.1 (q.2.1 j).2.2.1 ∈ zT
/-- what a store into it needs -/
def zFP (ci j : Nat) (ty : FieldType) : Prop := ∃ q : vw_C, zClasses[ci]? = some q ∧ (q.2.1 j).2.2.2 = false ∧ parseFieldDescriptor (q.2.1 j).2.2.1 = some ty ∧ (∃ ty0 : Nat → FieldType, ∀ k, k < q.2.2 → parseFieldDescriptor (q.2.1 k).2.2.1 = some (ty0 k)) ∧ ∀ a, a < q.2.2 → ∀ b, b < q.2.2 → a ≠ b → (q.2.1 a).2.1 ≠ (q.2.1 b).2.1
section ZM
variable {X : zX} {own : String} {cc : ByteArray} {nL lv pc nx : Nat} {ls : List (Option Value)} {st : List Value} {μ : zMem}
theorem zs_getV {idx ci j h c : Nat} {fks : List Nat} (hC : zCx X own cc nL lv) (hfl : zFL own idx ci j) (hly : zLY h (.inr (ci, fks))) (hq : fks[j]? = some c) (hd : zDC cc pc (.getfield idx) 3 nx)
    (k : ∀ H locs la, va_P X.1.2.1 zClasses (zConc X.1.2.2.1 X.1.2.2.2.1 X.1.2.2.2.2 μ) H → va_S (zA X.1.2.2.2.2) (zS X).heap H locs → zLs X.1.2.2.2.2 la (znL X) ls →
      W (zPr X) X.1.1 (zEn X) (zRm (zDep X)) (zS X) (zM X) (zArgs X) (zBel X) (zMeth X) (zCo X) H locs 0 0 (MQ (zBel X) (zQ X.1 (zRet X) (zOut X)) (zArgs X) (zS X) 0 0 (zA X.1.2.2.2.2)) (F0 (zM X) nx la (zFv X.1.2.2.2.2 c (μ h j) :: st.map (zV X.1.2.2.2.2)))) : zAW X pc ls (.ref h :: st) μ := by
  obtain ⟨h1, rfl⟩ := hd
  obtain ⟨⟨C, T, N⟩, g1, g2, g3, g4⟩ := hfl
  obtain ⟨hx, hb, -, hown, hts, hK, -⟩ := hC
  intro H locs la hP hS hl
  exact va_get (D := X.1.2.1) (ci := ci) (C := C) (T := T) (N := N) hx hb hts g3 hown hK hP h (zConc_at hly) g1 j g2 (hts _ g4) (fun _ h9 => h9) (zFs_at hq) h1 (k H locs la hP hS hl)
theorem zs_getI {idx ci j h : Nat} {fks : List Nat} (hC : zCx X own cc nL lv) (hfl : zFL own idx ci j) (hly : zLY h (.inr (ci, fks))) (hq : fks[j]? = some 0) (hd : zDC cc pc (.getfield idx) 3 nx) (k : zAW X nx ls (.int (μ h j) :: st) μ) : zAW X pc ls (.ref h :: st) μ := zs_getV hC hfl hly hq hd k
theorem zs_getR {idx ci j h : Nat} (t : Nat) {fks : List Nat} (hC : zCx X own cc nL lv) (hfl : zFL own idx ci j) (hly : zLY h (.inr (ci, fks))) (hq : fks[j]? = some (t + 2)) (hd : zDC cc pc (.getfield idx) 3 nx) (k : zAW X nx ls (.ref t :: st) μ) : zAW X pc ls (.ref h :: st) μ := zs_getV hC hfl hly hq hd k
theorem zs_getD {idx ci j h : Nat} {fks : List Nat} (hC : zCx X own cc nL lv) (hfl : zFL own idx ci j) (hly : zLY h (.inr (ci, fks))) (hq : fks[j]? = some 1) (hd : zDC cc pc (.getfield idx) 3 nx) (k : zAW X nx ls (.ref (μ h j).toNatClampNeg :: st) μ) : zAW X pc ls (.ref h :: st) μ := zs_getV hC hfl hly hq hd k
theorem zs_putV {idx ci j h c : Nat} {x : Int32} {ty : FieldType} {fks : List Nat} {v : Value} (hC : zCx X own cc nL lv) (hfl : zFL own idx ci j) (hfp : zFP ci j ty) (hly : zLY h (.inr (ci, fks))) (hq : fks[j]? = some c) (hv : zFv X.1.2.2.2.2 c x = zV X.1.2.2.2.2 v) (hn : narrow ty (zV X.1.2.2.2.2 v) = zV X.1.2.2.2.2 v) (hfit : fits ty (zV X.1.2.2.2.2 v) = true) (hd : zDC cc pc (.putfield idx) 3 nx) (k : zAW X nx ls st (zUp μ h j x)) : zAW X pc ls (v :: .ref h :: st) μ := by
  obtain ⟨h1, rfl⟩ := hd
  obtain ⟨⟨C, T, N⟩, g1, g2, g3, g4⟩ := hfl
  obtain ⟨q2, f1, f2, f3, ⟨ty0, f4⟩, f5⟩ := hfp
  have e := g1.symm.trans f1
  cases e
  obtain ⟨hx, hb, -, hown, hts, hK, -, -, hok, -⟩ := hC
  intro H locs la hP hS hl
  refine va_put (D := X.1.2.1) (ci := ci) (C := C) (T := T) (N := N) (ty := ty) hx hb hts g3 ty0 f4 f5 hown hK hP (zD hok μ) hS h (zConc_at hly) g1 j g2 (hts _ g4) (fun _ h9 => h9) f2 f3 hn hfit (by rw [zFs_len]; exact (List.getElem?_eq_some_iff.mp hq).1) h1 (fun H1 locs1 hP1 _ hS1 => ?_)
  refine k H1 locs1 la ?_ hS1 hl
  rw [← hv, zFs_set hq] at hP1
  have e2 := zConc_set (cyI := X.1.2.2.1) (cyB := X.1.2.2.2.1) (ad := X.1.2.2.2.2) (μ := μ) hly (upd (μ h) j x)
  rw [show (zUp μ h j x) = zRow μ h (upd (μ h) j x) from rfl, ← e2]
  exact hP1
theorem zs_putI {idx ci j h : Nat} {x : Int32} {fks : List Nat} (hC : zCx X own cc nL lv) (hfl : zFL own idx ci j) (hfp : zFP ci j .int) (hly : zLY h (.inr (ci, fks))) (hq : fks[j]? = some 0) (hd : zDC cc pc (.putfield idx) 3 nx) (k : zAW X nx ls st (zUp μ h j x)) : zAW X pc ls (.int x :: .ref h :: st) μ := zs_putV hC hfl hfp hly hq rfl rfl rfl hd k
theorem zs_putZ {idx ci j h : Nat} {x : Int32} {fks : List Nat} (hC : zCx X own cc nL lv) (hfl : zFL own idx ci j) (hfp : zFP ci j .boolean) (hly : zLY h (.inr (ci, fks))) (hq : fks[j]? = some 0) (hx : x = 0 ∨ x = 1) (hd : zDC cc pc (.putfield idx) 3 nx) (k : zAW X nx ls st (zUp μ h j x)) : zAW X pc ls (.int x :: .ref h :: st) μ := by
  refine zs_putV hC hfl hfp hly hq rfl ?_ ?_ hd k
  · rcases hx with rfl | rfl <;> rfl
  · rcases hx with rfl | rfl <;> rfl
theorem zs_putD {idx ci j h t : Nat} {C : String} {fks : List Nat} (hC : zCx X own cc nL lv) (hfl : zFL own idx ci j) (hfp : zFP ci j (.object C)) (hly : zLY h (.inr (ci, fks))) (hq : fks[j]? = some 1) (ht : t < 89) (hd : zDC cc pc (.putfield idx) 3 nx) (k : zAW X nx ls st (zUp μ h j (nI t))) : zAW X pc ls (.ref t :: .ref h :: st) μ := by
  refine zs_putV (v := .ref t) hC hfl hfp hly hq ?_ rfl rfl hd k
  show Value.ref (X.1.2.2.2.2 (nI t).toNatClampNeg) = .ref (X.1.2.2.2.2 t)
  rw [nI_clamp (by omega)]
theorem zs_iald {a n : Nat} {i : Int32} {B : Option zR} (hC : zCx X own cc nL lv) (hly : zLY a (.inl (false, n))) (hd : zDC cc pc .iaload 1 nx) (k : vp_in i n → B = some (zOut X) → zAW X nx ls (.int (μ a i.toNatClampNeg) :: st) μ) (hf : zG i n B = some (zOut X)) : zAW X pc ls (.int i :: .ref a :: st) μ := by
  obtain ⟨h1, rfl⟩ := hd
  obtain ⟨h2, h3⟩ := zG_some hf
  obtain ⟨hx, hb, -, hown, hts, hK, -⟩ := hC
  intro H locs la hP hS hl
  exact va_iald hx hb hK hP a 0 (zConc_at hly) rfl h2 h1 (k h2 h3 H locs la hP hS hl)
theorem zs_bald {a n : Nat} {i : Int32} {B : Option zR} (hC : zCx X own cc nL lv) (hly : zLY a (.inl (true, n))) (hd : zDC cc pc .baload 1 nx) (k : vp_in i n → B = some (zOut X) → zAW X nx ls (.int (μ a i.toNatClampNeg) :: st) μ) (hf : zG i n B = some (zOut X)) : zAW X pc ls (.int i :: .ref a :: st) μ := by
  obtain ⟨h1, rfl⟩ := hd
  obtain ⟨h2, h3⟩ := zG_some hf
  obtain ⟨hx, hb, -, hown, hts, hK, -⟩ := hC
  intro H locs la hP hS hl
  exact va_bald hx hb hK hP a 1 (zConc_at hly) rfl h2 h1 (k h2 h3 H locs la hP hS hl)
theorem zs_iast {a n : Nat} {i x : Int32} {B : Option zR} (hC : zCx X own cc nL lv) (hly : zLY a (.inl (false, n))) (hd : zDC cc pc .iastore 1 nx) (k : vp_in i n → B = some (zOut X) → zAW X nx ls st (zUp μ a i.toNatClampNeg x)) (hf : zG i n B = some (zOut X)) : zAW X pc ls (.int x :: .int i :: .ref a :: st) μ := by
  obtain ⟨h1, rfl⟩ := hd
  obtain ⟨h2, h3⟩ := zG_some hf
  obtain ⟨hx, hb, -, hown, hts, hK, -, -, hok, -⟩ := hC
  intro H locs la hP hS hl
  refine va_iast hx hb hK hP (zD hok μ) hS a 0 (zConc_at hly) rfl h2 h1 (fun H1 locs1 hP1 _ hS1 => ?_)
  refine k h2 h3 H1 locs1 la ?_ hS1 hl
  have e2 := zConc_set (cyI := X.1.2.2.1) (cyB := X.1.2.2.2.1) (ad := X.1.2.2.2.2) (μ := μ) hly (upd (μ a) i.toNatClampNeg x)
  rw [show (zUp μ a i.toNatClampNeg x) = zRow μ a (upd (μ a) i.toNatClampNeg x) from rfl, ← e2]
  exact hP1
theorem zs_bast {a n : Nat} {i x : Int32} {B : Option zR} (hC : zCx X own cc nL lv) (hly : zLY a (.inl (true, n))) (hd : zDC cc pc .bastore 1 nx) (k : vp_in i n → B = some (zOut X) → zAW X nx ls st (zUp μ a i.toNatClampNeg x.toInt8.toInt32)) (hf : zG i n B = some (zOut X)) : zAW X pc ls (.int x :: .int i :: .ref a :: st) μ := by
  obtain ⟨h1, rfl⟩ := hd
  obtain ⟨h2, h3⟩ := zG_some hf
  obtain ⟨hx, hb, -, hown, hts, hK, -, -, hok, -⟩ := hC
  intro H locs la hP hS hl
  refine va_bast hx hb hK hP (zD hok μ) hS a 1 (zConc_at hly) rfl h2 h1 (fun H1 locs1 hP1 _ hS1 => ?_)
  refine k h2 h3 H1 locs1 la ?_ hS1 hl
  have e2 := zConc_set (cyI := X.1.2.2.1) (cyB := X.1.2.2.2.1) (ad := X.1.2.2.2.2) (μ := μ) hly (upd (μ a) i.toNatClampNeg x.toInt8.toInt32)
  rw [show (zUp μ a i.toNatClampNeg x.toInt8.toInt32) = zRow μ a (upd (μ a) i.toNatClampNeg x.toInt8.toInt32) from rfl, ← e2]
  rw [vp_nar_byte] at hP1
  exact hP1
/-- the length of an array of ints -/
theorem zs_alen {a n : Nat} (v : Int32) (hC : zCx X own cc nL lv) (hly : zLY a (.inl (false, n))) (hv : Int32.ofNat n = v) (hd : zDC cc pc .arraylength 1 nx) (k : zAW X nx ls (.int v :: st) μ) : zAW X pc ls (.ref a :: st) μ := by
  obtain ⟨h1, rfl⟩ := hd
  subst hv
  obtain ⟨hx, hb, -, hown, hts, hK, -⟩ := hC
  intro H locs la hP hS hl
  have hc : H[X.1.2.2.2.2 a]? = some (vp_cell X.1.2.2.1 (n, .inl (μ a))) := hP a _ (zConc_at hly)
  exact W.alen hx hb hc ((hK.2 0 _ rfl).1 n (fun j => .int (μ a j))) (by show (arrV _ _ _).slots.size.toInt32 = _; rw [arrV_size]) rfl rfl h1 (k H locs la hP hS hl)
/-- a row of one array into another one -/
theorem zs_copy {idx a b n0 n1 : Nat} {sp dp n : Int32} {B : Option zR} (hC : zCx X own cc nL lv) (hw : Cond.methodLink own idx arraycopyName ∈ zT ∧ Cond.native arraycopyName ∈ zT ∧ Cond.static arraycopyName ∈ zT ∧ Cond.initialized "java/lang/System" ∈ zT) (hlv : 1 ≤ lv) (hst : ((st.map (zV X.1.2.2.2.2)).map fun v => v.category).sum + (nativeFrameWords "java/lang/System" "arraycopy" 5 + 11) ≤ 64) (ha : zLY a (.inl (false, n0))) (hb' : zLY b (.inl (false, n1)))
    (hd : zDC cc pc (.invokestatic idx) 3 nx) (k : B = some (zOut X) → zAW X nx ls st (zRow μ b (va_cpy (μ a) (μ b) sp.toNatClampNeg dp.toNatClampNeg n.toNatClampNeg)))
    (hf : zGb (decide (¬ sp < 0 ∧ ¬ dp < 0 ∧ ¬ n < 0 ∧ sp.toNatClampNeg + n.toNatClampNeg ≤ n0 ∧ dp.toNatClampNeg + n.toNatClampNeg ≤ n1)) B = some (zOut X)) : zAW X pc ls (.int n :: .int dp :: .ref b :: .int sp :: .ref a :: st) μ := by
  obtain ⟨h1, rfl⟩ := hd
  obtain ⟨h2, h3⟩ := zGb_some hf
  obtain ⟨g1, g2, g3, g4, g5⟩ := of_decide_eq_true h2
  obtain ⟨hx, hb, hml, hown, hts, hK, -, -, hok, hlv2, -, hnl⟩ := hC
  intro H locs la hP hS hl
  refine va_copyi hx hb (by rw [hml, hl.1, hnl]) hown (hts _ hw.1) (hts _ hw.2.1) (hts _ hw.2.2.1) (hts _ hw.2.2.2) hK hP (zD hok μ) hS a b 0 0 (zConc_at ha) (zConc_at hb') rfl rfl rfl g1 g2 g3 g4 g5 (fun _ _ => rfl) ?_ ?_ h1 (fun H1 locs1 hP1 _ hS1 => ?_)
  · show 1 ≤ zDep X
    omega
  · show _ ≤ 64 * zDep X
    have : 64 * 1 ≤ 64 * zDep X := Nat.mul_le_mul_left 64 (by omega)
    omega
  · refine k h3 H1 locs1 la ?_ hS1 hl
    have e2 := zConc_set (cyI := X.1.2.2.1) (cyB := X.1.2.2.2.1) (ad := X.1.2.2.2.2) (μ := μ) hb' (va_cpy (μ a) (μ b) sp.toNatClampNeg dp.toNatClampNeg n.toNatClampNeg)
    rw [← e2]
    exact hP1
theorem zWd_end {t : State} {H : Heap} (hC : zCx X own cc nL lv) (hP : va_P X.1.2.1 zClasses (zConc X.1.2.2.1 X.1.2.2.2.1 X.1.2.2.2.2 μ) H) (ht : t.heap = H) (hW : (zS X).WarmedH t.vm) : zWd X.1 μ t :=
  ⟨by rw [ht]; exact hP, va_K.moved hW.alike hC.2.2.2.2.2.1, hC.2.2.2.2.2.2.2.2.2.2.1.warm hW⟩
theorem zs_iret {r : Int32} (hC : zCx X own cc nL lv) (hr : zRet X = some .int) (hd : zDC cc pc .ireturn 1 nx) (hf : some (r, μ) = some (zOut X)) : zAW X pc ls [.int r] μ := by
  obtain ⟨h1, rfl⟩ := hd
  have e := Option.some.inj hf
  intro H locs la hP hS hl
  refine W.iret hC.1 hC.2.1 (hC.2.2.2.2.2.2.1.trans hr) (fun t ht hW => ?_) hS.2.2 h1 hC.2.2.2.2.2.2.2.1
  refine ⟨?_, ?_, hS.F ht⟩
  · rw [hr, ← e]; rfl
  · rw [← e]; exact zWd_end hC hP ht hW
theorem zs_zret {r : Int32} (hC : zCx X own cc nL lv) (hr : zRet X = some .boolean) (hd : zDC cc pc .ireturn 1 nx) (hf : zGb (decide (r = 0 ∨ r = 1)) (some (r, μ)) = some (zOut X)) : zAW X pc ls [.int r] μ := by
  obtain ⟨h1, rfl⟩ := hd
  obtain ⟨h2, h3⟩ := zGb_some hf
  have e := Option.some.inj h3
  intro H locs la hP hS hl
  refine W.zret hC.1 hC.2.1 (hC.2.2.2.2.2.2.1.trans hr) (by rcases of_decide_eq_true h2 with rfl | rfl <;> rfl) (fun t ht hW => ?_) hS.2.2 h1 hC.2.2.2.2.2.2.2.1
  refine ⟨?_, ?_, hS.F ht⟩
  · rw [hr, ← e]; rfl
  · rw [← e]; exact zWd_end hC hP ht hW
theorem zs_vret (hC : zCx X own cc nL lv) (hr : zRet X = none) (hd : zDC cc pc .return_ 1 nx) (hf : some ((0 : Int32), μ) = some (zOut X)) : zAW X pc ls [] μ := by
  obtain ⟨h1, rfl⟩ := hd
  have e := Option.some.inj hf
  intro H locs la hP hS hl
  refine W.vret hC.1 hC.2.1 (hC.2.2.2.2.2.2.1.trans hr) (fun t ht hW => ?_) hS.2.2 h1 hC.2.2.2.2.2.2.2.1
  refine ⟨?_, ?_, hS.F ht⟩
  · rw [hr]; rfl
  · rw [← e]; exact zWd_end hC hP ht hW
/-- behind a call -/
theorem zs_run {rt : Option FieldType} {st0 : List Value} {a : Array Value} {o : zR} (hC : zCx X own cc nL lv)
    (hr : ∀ (H : Heap) (locs : List Loc) (la : Array Slot), va_P X.1.2.1 zClasses (zConc X.1.2.2.1 X.1.2.2.2.1 X.1.2.2.2.2 μ) H → zLs X.1.2.2.2.2 la (znL X) ls → va_Run (zPr X) X.1.1 (zEn X) (zRm (zDep X)) (zS X) (zM X) (zArgs X) (zBel X) (zMeth X) (zCo X) H locs 0 0 0 0 (F0 (zM X) pc la (st0.map (zV X.1.2.2.2.2))) (st.map (zV X.1.2.2.2.2)) (zQ X.1 rt o a) (zA X.1.2.2.2.2))
    (k : zAW X (pc + 3) ls ((zRv rt o.1).toList ++ st) o.2) : zAW X pc ls st0 μ := by
  intro H locs la hP hS hl T hT XX
  obtain ⟨v, s0, t, T', L, h0, X', hL, e1, e2, ⟨ho, ⟨hP1, hK1, hN1⟩, hz, hk⟩, stp⟩ := hr H locs la hP hl T hT XX
  cases ho
  rw [h0] at hz hk
  obtain ⟨t2, a1, b1⟩ := k T'.heap (locs ++ L) la (by rw [e1]; exact hP1) ⟨Nat.le_trans hS.1 (by rw [e1]; exact hz), fun q g1 g2 => by rw [e1, hk q (Nat.lt_of_lt_of_le g1 hS.1) g2]; exact hS.2.1 q g1 g2, fun q hq => by
      rcases List.mem_append.mp hq with h | h
      · exact hS.2.2 q h
      · exact hL q h⟩ hl T' rfl X'
  refine ⟨t2, stp t2 ?_, b1⟩
  have e3 : ((zRv rt o.1).toList ++ st).map (zV X.1.2.2.2.2) = (zRv rt o.1).toList ++ st.map (zV X.1.2.2.2.2) := by
    rw [List.map_append]
    congr 1
    cases rt <;> rfl
  rw [e3] at a1
  exact a1
theorem zPc_blind {E : zEV} {av : List Value} : FrameBlind (va_Pc av (fun U => zWd E μ U)) := by
  intro a U g mk h
  obtain ⟨h1, h2, h3, h4⟩ := h
  exact ⟨h1, h2, va_K.moved (u := U) (U := U.calling g mk a) (Vm.Alike.refl U.vm) h3, h4.same (U := U.calling g mk a) rfl⟩
theorem zPc_pre {E : zEV} {av : List Value} {s U : State} {H : Heap} (hP : va_P E.2.1 zClasses (zConc E.2.2.1 E.2.2.2.1 E.2.2.2.2 μ) H) (hK : va_K E.2.1 zClasses (zTys E.2.2.1 E.2.2.2.1) s) (hN : zNs s) (hU : U.heap = H) (hW : s.WarmedH U.vm) : va_Pc av (fun U => zWd E μ U) av.toArray U :=
  ⟨rfl, by rw [hU]; exact hP, va_K.moved hW.alike hK, hN.warm hW⟩
/-- the words of a call -/
def zCw (y : MethodName) (bytes : ByteArray) (maxL : Nat) (ret : Option FieldType) (n : Nat) : Prop := Cond.initialized y.cls ∈ zT ∧ Cond.code y bytes maxL ret ∈ zT ∧ y.cls ≠ "java/lang/invoke/MethodHandle" ∧ y.cls ≠ "java/lang/invoke/VarHandle" ∧ (parseMethodDescriptor y.desc).map (fun d => d.parameters.length) = some n ∧ maxL + 19 ≤ 64
theorem zGood {y : MethodName} {bytes : ByteArray} {maxL n : Nat} {ret : Option FieldType} (h : zCw y bytes maxL ret n) : GoodIn zT (Cond.code y bytes maxL ret :: zT) := fun w hw => by
  rcases List.mem_cons.mp hw with rfl | hw
  · exact zT_in _ h.2.1
  · exact zT_in _ hw
theorem zRoom {d maxL : Nat} (h : 1 ≤ d) (hm : maxL + 19 ≤ 64) : (zRm (d - 1)).frames + 1 ≤ (zRm d).frames ∧ 8 + (maxL + 11) + (zRm (d - 1)).locals ≤ (zRm d).locals := by
  show d - 1 + 1 ≤ d ∧ 8 + (maxL + 11) + 64 * (d - 1) ≤ 64 * d
  omega
variable {y : MethodName} {bytes : ByteArray} {maxL n idx lv' : Nat} {rt : Option FieldType} {f : Option zR} {K : Int32 → zMem → Option zR}
/-- an instance method is called -/
theorem zs_callV {ci h : Nat} {fks : List Nat} {st0 : List Value} (as : List Value) (hC : zCx X own cc nL lv) (hw : zCw y bytes maxL rt n) (hm : Cond.methodLink own idx y ∈ zT ∧ Cond.instanceMethod y ∈ zT ∧ Cond.selects y.cls y y ∈ zT) (hly : zLY h (.inr (ci, fks))) (hci : (zClasses[ci]?).map (fun q => q.1) = some y.cls) (hlv : lv' + 1 ≤ lv) (hn : as.length = n) (hs : st0 = as.reverse ++ .ref h :: st) (hsz : ((st.map (zV X.1.2.2.2.2)).map fun v => v.category).sum ≤ 8) (hd : zDC cc pc (.invokevirtual idx) 3 nx)
    (hct : ∀ o, f = some o → zCt X.1 y bytes maxL rt lv' (.ref h :: as) μ o) (k : ∀ r μ1, f = some (r, μ1) → K r μ1 = some (zOut X) → zAW X nx ls ((zRv rt r).toList ++ st) μ1) (hf : zBd f K = some (zOut X)) : zAW X pc ls st0 μ := by
  obtain ⟨h1, rfl⟩ := hd
  obtain ⟨r, μ1, e1, e2⟩ := zBd_some hf
  have hC' := hC
  obtain ⟨hx, hb, hml, hown, hts, hK, -, -, hok, hlv2, hN, hnl⟩ := hC
  have hM := hct (r, μ1) e1 hok (zDep X - 1) (by omega)
  have ht : ∀ w ∈ zT, w.before (zArgs X) (zS X) = true := hts
  subst hs
  refine zs_run (o := (r, μ1)) (rt := rt) hC' (a := ((.ref h :: as).map (zV X.1.2.2.2.2)).toArray) (fun H locs la hP hl => ?_) (k r μ1 e1 e2)
  obtain ⟨q, hq1, hq2⟩ := Option.map_eq_some_iff.mp hci
  have hcell : ∃ cellB : Cell, H[X.1.2.2.2.2 h]? = some cellB ∧ cellB.vm.isStatics = false ∧ (zS X).vm.findClass y.cls = some cellB.cls := by
    obtain ⟨r', g1, cell, g2, g3, g4, -⟩ := hP h _ (zConc_at hly)
    have er : r' = q := Option.some.inj (g1.symm.trans hq1)
    subst er
    exact ⟨cell, g2, by rw [g4]; rfl, by rw [g3, ← hq2]; exact (hK.1 ci _ hq1).2.1⟩
  exact va_runV (C := y.cls) (As := as.map (zV X.1.2.2.2.2)) (rest := st.map (zV X.1.2.2.2.2)) (b := X.1.2.2.2.2 h) (n := n) (Ts := zT) ⟨hx, hb, hml, hown, hts⟩ hM
    ⟨callB_of n ht (zGood hw) rfl rfl rfl (hts _ hw.1) (hts _ hm.1) ⟨hw.2.2.1, hw.2.2.2.1, hw.2.2.2.2.1⟩ (zRoom (by omega) hw.2.2.2.2.2), hts _ hm.2.1, hts _ hm.2.2⟩
    ⟨zPc_blind, hcell, fun U hU hW => zPc_pre (av := (.ref h :: as).map (zV X.1.2.2.2.2)) hP hK hN hU hW⟩ rfl (by rw [List.length_map]; exact hn) (by rw [hl.1, hnl]) (by simp [List.map_append, List.map_reverse, zV]) (by show 2 * 0 + _ ≤ 8; omega) h1 ⟨Nat.le_refl _, Nat.le_refl _⟩
/-- a static method is called -/
theorem zs_callS {st0 : List Value} (as : List Value) (hC : zCx X own cc nL lv) (hw : zCw y bytes maxL rt n) (hm : Cond.methodLink own idx y ∈ zT ∧ Cond.static y ∈ zT) (hlv : lv' + 1 ≤ lv) (hn : as.length = n) (hs : st0 = as.reverse ++ st) (hsz : ((st.map (zV X.1.2.2.2.2)).map fun v => v.category).sum ≤ 8) (hd : zDC cc pc (.invokestatic idx) 3 nx)
    (hct : ∀ o, f = some o → zCt X.1 y bytes maxL rt lv' as μ o) (k : ∀ r μ1, f = some (r, μ1) → K r μ1 = some (zOut X) → zAW X nx ls ((zRv rt r).toList ++ st) μ1) (hf : zBd f K = some (zOut X)) : zAW X pc ls st0 μ := by
  obtain ⟨h1, rfl⟩ := hd
  obtain ⟨r, μ1, e1, e2⟩ := zBd_some hf
  have hC' := hC
  obtain ⟨hx, hb, hml, hown, hts, hK, -, -, hok, hlv2, hN, hnl⟩ := hC
  have hM := hct (r, μ1) e1 hok (zDep X - 1) (by omega)
  subst hs
  refine zs_run (o := (r, μ1)) (rt := rt) hC' (a := (as.map (zV X.1.2.2.2.2)).toArray) (fun H locs la hP hl => ?_) (k r μ1 e1 e2)
  exact va_runS (As := as.map (zV X.1.2.2.2.2)) (rest := st.map (zV X.1.2.2.2.2)) (n := n) (Ts := zT) ⟨hx, hb, hml, hown, hts⟩ hM
    ⟨callB_of n hts (zGood hw) rfl rfl rfl (hts _ hw.1) (hts _ hm.1) ⟨hw.2.2.1, hw.2.2.2.1, hw.2.2.2.2.1⟩ (zRoom (by omega) hw.2.2.2.2.2), hts _ hm.2⟩
    ⟨zPc_blind, fun U hU hW => zPc_pre (av := as.map (zV X.1.2.2.2.2)) hP hK hN hU hW⟩ rfl (by rw [List.length_map]; exact hn) (by rw [hl.1, hnl]) (by simp [List.map_append, List.map_reverse]) (by show 2 * 0 + _ ≤ 8; omega) h1 ⟨Nat.le_refl _, Nat.le_refl _⟩
/-- a private static method of a nest mate is called -/
theorem zs_callN {st0 : List Value} {host : String} (as : List Value) (hC : zCx X own cc nL lv) (hw : zCw y bytes maxL rt n) (hm : (own, idx, y, host) ∈ zNL ∧ Cond.static y ∈ zT) (hlv : lv' + 1 ≤ lv) (hn : as.length = n) (hs : st0 = as.reverse ++ st) (hsz : ((st.map (zV X.1.2.2.2.2)).map fun v => v.category).sum ≤ 8) (hd : zDC cc pc (.invokestatic idx) 3 nx)
    (hct : ∀ o, f = some o → zCt X.1 y bytes maxL rt lv' as μ o) (k : ∀ r μ1, f = some (r, μ1) → K r μ1 = some (zOut X) → zAW X nx ls ((zRv rt r).toList ++ st) μ1) (hf : zBd f K = some (zOut X)) : zAW X pc ls st0 μ := by
  obtain ⟨h1, rfl⟩ := hd
  obtain ⟨r, μ1, e1, e2⟩ := zBd_some hf
  have hC' := hC
  obtain ⟨hx, hb, hml, hown, hts, hK, -, -, hok, hlv2, hN, hnl⟩ := hC
  have hM := hct (r, μ1) e1 hok (zDep X - 1) (by omega)
  subst hs
  refine zs_run (o := (r, μ1)) (rt := rt) hC' (a := (as.map (zV X.1.2.2.2.2)).toArray) (fun H locs la hP hl => ?_) (k r μ1 e1 e2)
  exact va_runSN (As := as.map (zV X.1.2.2.2.2)) (rest := st.map (zV X.1.2.2.2.2)) (n := n) (Ts := zT) ⟨hx, hb, hml, hown, hts⟩ hM
    ⟨va_cnB n hts (zGood hw) rfl rfl rfl (hN _ hm.1) (hts _ hw.1) ⟨hw.2.2.1, hw.2.2.2.1, hw.2.2.2.2.1⟩ (zRoom (by omega) hw.2.2.2.2.2), hts _ hm.2, trivial⟩
    ⟨zPc_blind, fun U hU hW => zPc_pre (av := as.map (zV X.1.2.2.2.2)) hP hK hN hU hW⟩ rfl (by rw [List.length_map]; exact hn) (by rw [hl.1, hnl]) (by simp [List.map_append, List.map_reverse]) (by show 2 * 0 + _ ≤ 8; omega) h1 ⟨Nat.le_refl _, Nat.le_refl _⟩
end ZM
end
section
/-! ===== words of the tables, by their places ===== -/
theorem zT_sub (ws : List Cond) (ps : List Nat) (hp : ws = ps.filterMap (fun i => lw_tbl[i]?)) (h : ws.all goodWord = true) : ∀ w ∈ ws, w ∈ zT := by
  intro w hw
  have h1 := List.all_eq_true.mp h w hw
  rw [hp] at hw
  obtain ⟨i, -, hi⟩ := List.mem_filterMap.mp hw
  exact zT_mem i hi h1
def zIsSt (h : Nat) : Bool := h == 3 || h == 8 || h == 13
def zIsLw (h : Nat) : Bool := h == 19 || h == 26
def zIsCp (h : Nat) : Bool := h == 40 || h == 43
theorem zIsSt_or {h : Nat} (hh : zIsSt h = true) : h = 3 ∨ h = 8 ∨ h = 13 := by simp [zIsSt] at hh; omega
theorem zIsLw_or {h : Nat} (hh : zIsLw h = true) : h = 19 ∨ h = 26 := by simpa [zIsLw] using hh
theorem zIsCp_or {h : Nat} (hh : zIsCp h = true) : h = 40 ∨ h = 43 := by simpa [zIsCp] using hh
theorem zSt0 {h : Nat} (hh : zIsSt h = true) : zLY h (.inr (8, [h + 1 + 2, h + 2 + 2, h + 3 + 2, h + 4 + 2, 0, 0, 0, 0])) := by rcases zIsSt_or hh with rfl | rfl | rfl <;> exact zLY_of rfl
theorem zSt1 {h : Nat} (hh : zIsSt h = true) : zLY (h + 1) (.inl (false, 16)) := by rcases zIsSt_or hh with rfl | rfl | rfl <;> exact zLY_of rfl
theorem zSt2 {h : Nat} (hh : zIsSt h = true) : zLY (h + 2) (.inl (false, 16)) := by rcases zIsSt_or hh with rfl | rfl | rfl <;> exact zLY_of rfl
theorem zSt3 {h : Nat} (hh : zIsSt h = true) : zLY (h + 3) (.inl (false, 20)) := by rcases zIsSt_or hh with rfl | rfl | rfl <;> exact zLY_of rfl
theorem zSt4 {h : Nat} (hh : zIsSt h = true) : zLY (h + 4) (.inl (false, 320)) := by rcases zIsSt_or hh with rfl | rfl | rfl <;> exact zLY_of rfl
theorem zLw0 {h : Nat} (hh : zIsLw h = true) : zLY h (.inr (5, [h + 1 + 2, h + 2 + 2, h + 3 + 2, h + 4 + 2, h + 5 + 2, h + 6 + 2, 0, 0])) := by rcases zIsLw_or hh with rfl | rfl <;> exact zLY_of rfl
theorem zLw1 {h : Nat} (hh : zIsLw h = true) : zLY (h + 1) (.inl (false, 240)) := by rcases zIsLw_or hh with rfl | rfl <;> exact zLY_of rfl
theorem zLw2 {h : Nat} (hh : zIsLw h = true) : zLY (h + 2) (.inl (false, 240)) := by rcases zIsLw_or hh with rfl | rfl <;> exact zLY_of rfl
theorem zLw3 {h : Nat} (hh : zIsLw h = true) : zLY (h + 3) (.inl (false, 16)) := by rcases zIsLw_or hh with rfl | rfl <;> exact zLY_of rfl
theorem zLw4 {h : Nat} (hh : zIsLw h = true) : zLY (h + 4) (.inl (false, 16)) := by rcases zIsLw_or hh with rfl | rfl <;> exact zLY_of rfl
theorem zLw5 {h : Nat} (hh : zIsLw h = true) : zLY (h + 5) (.inl (false, 16)) := by rcases zIsLw_or hh with rfl | rfl <;> exact zLY_of rfl
theorem zLw6 {h : Nat} (hh : zIsLw h = true) : zLY (h + 6) (.inl (false, 16)) := by rcases zIsLw_or hh with rfl | rfl <;> exact zLY_of rfl
theorem zCp0 {h : Nat} (hh : zIsCp h = true) : zLY h (.inr (1, [h + 1 + 2, h + 2 + 2, 0])) := by rcases zIsCp_or hh with rfl | rfl <;> exact zLY_of rfl
theorem zCp1 {h : Nat} (hh : zIsCp h = true) : zLY (h + 1) (.inl (false, 60)) := by rcases zIsCp_or hh with rfl | rfl <;> exact zLY_of rfl
theorem zCp2 {h : Nat} (hh : zIsCp h = true) : zLY (h + 2) (.inl (false, 26)) := by rcases zIsCp_or hh with rfl | rfl <;> exact zLY_of rfl
theorem zLw_0 {b : List (Option Value)} : zLw [] b := trivial
theorem zLw_n {a b : List (Option Value)} {x : Option Value} (h : zLw a b) : zLw (none :: a) (x :: b) := h
theorem zLw_s {a b : List (Option Value)} {v : Value} (h : zLw a b) : zLw (some v :: a) (some v :: b) := ⟨rfl, h⟩
theorem zCt.of {E : zEV} {y : MethodName} {bytes : ByteArray} {maxL lv : Nat} {ret : Option FieldType} {av : List Value} {μ : zMem} {out : zR} (ls : List (Option Value)) (hy : plainName y.cls = true) (hn : (lg_sl (av.map (zV E.2.2.2.2))).length ≤ maxL)
    (hls : zLw ls (av.map some)) (hc : z1b (av.map some) = true)
    (h : ∀ X : zX, X.1 = E → zOut X = out → zRet X = ret → zCx X y.cls bytes maxL lv → zAW X 0 ls [] μ) : zCt E y bytes maxL ret lv av μ out := by
  refine zCt.of0 ls hy hn (fun i v hi => ?_) h
  have h1 := zLw_at _ _ hls i v hi
  rw [List.getElem?_map] at h1
  have h2 : av[i]? = some v := by
    cases ho : av[i]? with
    | none => rw [ho] at h1; simp at h1
    | some w => rw [ho] at h1; simp at h1; rw [h1]
  have h3 := zArgs_at av E.2.2.2.2 0 i v (fun w hw => by
    obtain ⟨j, hj⟩ := List.mem_iff_getElem?.mp hw
    exact z1_of hc j w (by rw [List.getElem?_map, hj]; rfl)) h2
  rw [Nat.zero_add] at h3
  exact h3
theorem zs_zretK {X : zX} {own : String} {cc : ByteArray} {nL lv pc nx : Nat} {ls : List (Option Value)} {μ : zMem} {r : Int32} (hC : zCx X own cc nL lv) (hr : zRet X = some .boolean) (hd : zDC cc pc .ireturn 1 nx) (hk : r = 0 ∨ r = 1) (hf : some (r, μ) = some (zOut X)) : zAW X pc ls [.int r] μ := zs_zret hC hr hd (by unfold zGb; rw [if_pos (decide_eq_true hk)]; exact hf)
theorem cw_X11_isWithin : zCw yX11_isWithin cX11_isWithin 3 (some .boolean) 3 := ⟨zT_mem 76 (by decide +kernel) rfl, zT_mem 410 (by decide +kernel) rfl, by decide +kernel, by decide +kernel, by decide +kernel, by decide⟩
theorem cl_RX11_97 : Cond.methodLink "WhisperPress" 97 yX11_isWithin ∈ zT ∧ Cond.static yX11_isWithin ∈ zT := ⟨zT_mem 408 (by decide +kernel) rfl, zT_mem 409 (by decide +kernel) rfl⟩
theorem uw_8 : ∀ w ∈ u_ws RX8 TX8 8, w ∈ zT := zT_sub _ [154, 156, 158, 160, 162, 164, 166, 168] (by decide +kernel) (by decide +kernel)
theorem fl_RX8_34 : zFL "WhisperPress$State" 34 8 4 := ⟨_, rfl, by decide, uw_8, zT_mem 144 (by decide +kernel) rfl⟩
theorem cw_X11_isPerson : zCw yX11_isPerson cX11_isPerson 1 (some .boolean) 1 := ⟨zT_mem 76 (by decide +kernel) rfl, zT_mem 407 (by decide +kernel) rfl, by decide +kernel, by decide +kernel, by decide +kernel, by decide⟩
theorem cl_RX8_47 : ("WhisperPress$State", 47, yX11_isPerson, "WhisperPress") ∈ zNL ∧ Cond.static yX11_isPerson ∈ zT := ⟨by decide +kernel, zT_mem 406 (by decide +kernel) rfl⟩
theorem cw_X11_hasBit : zCw yX11_hasBit cX11_hasBit 2 (some .boolean) 2 := ⟨zT_mem 76 (by decide +kernel) rfl, zT_mem 529 (by decide +kernel) rfl, by decide +kernel, by decide +kernel, by decide +kernel, by decide⟩
theorem cl_RX8_51 : ("WhisperPress$State", 51, yX11_hasBit, "WhisperPress") ∈ zNL ∧ Cond.static yX11_hasBit ∈ zT := ⟨by decide +kernel, zT_mem 528 (by decide +kernel) rfl⟩
theorem fl_RX8_9 : zFL "WhisperPress$State" 9 8 0 := ⟨_, rfl, by decide, uw_8, zT_mem 131 (by decide +kernel) rfl⟩
theorem cw_X8_isTold : zCw yX8_isTold cX8_isTold 2 (some .boolean) 1 := ⟨zT_mem 78 (by decide +kernel) rfl, zT_mem 603 (by decide +kernel) rfl, by decide +kernel, by decide +kernel, by decide +kernel, by decide⟩
theorem cl_RX8_55 : Cond.methodLink "WhisperPress$State" 55 yX8_isTold ∈ zT ∧ Cond.instanceMethod yX8_isTold ∈ zT ∧ Cond.selects yX8_isTold.cls yX8_isTold yX8_isTold ∈ zT := ⟨zT_mem 712 (by decide +kernel) rfl, zT_mem 601 (by decide +kernel) rfl, zT_mem 602 (by decide +kernel) rfl⟩
theorem cw_X8_secretsOf : zCw yX8_secretsOf cX8_secretsOf 2 (some .int) 1 := ⟨zT_mem 78 (by decide +kernel) rfl, zT_mem 711 (by decide +kernel) rfl, by decide +kernel, by decide +kernel, by decide +kernel, by decide⟩
theorem cl_RX8_58 : Cond.methodLink "WhisperPress$State" 58 yX8_secretsOf ∈ zT ∧ Cond.instanceMethod yX8_secretsOf ∈ zT ∧ Cond.selects yX8_secretsOf.cls yX8_secretsOf yX8_secretsOf ∈ zT := ⟨zT_mem 708 (by decide +kernel) rfl, zT_mem 709 (by decide +kernel) rfl, zT_mem 710 (by decide +kernel) rfl⟩
end
section
theorem dX11_hasBit_0 : zDLi cX11_hasBit 0 0 1 := Or.inl ⟨0, by decide +kernel, rfl, rfl⟩
theorem dX11_hasBit_1 : zDLi cX11_hasBit 1 1 2 := Or.inl ⟨1, by decide +kernel, rfl, rfl⟩
theorem dX11_hasBit_2 : zDC cX11_hasBit 2 .ishr 1 3 := ⟨by decide +kernel, rfl⟩
theorem dX11_hasBit_3 : zDK cX11_hasBit 3 1 4 := Or.inl ⟨1, by decide +kernel, by decide, rfl⟩
theorem dX11_hasBit_4 : zDC cX11_hasBit 4 .iand 1 5 := ⟨by decide +kernel, rfl⟩
theorem dX11_hasBit_5 : zDJ cX11_hasBit 5 (.ifCond .eq) 8 12 := ⟨7, by decide +kernel, by decide, rfl⟩
theorem dX11_hasBit_8 : zDK cX11_hasBit 8 1 9 := Or.inl ⟨1, by decide +kernel, by decide, rfl⟩
theorem dX11_hasBit_9 : zDJ cX11_hasBit 9 .goto 12 13 := ⟨4, by decide +kernel, by decide, rfl⟩
theorem dX11_hasBit_12 : zDK cX11_hasBit 12 0 13 := Or.inl ⟨0, by decide +kernel, by decide, rfl⟩
theorem dX11_hasBit_13 : zDC cX11_hasBit 13 .ireturn 1 14 := ⟨by decide +kernel, rfl⟩
theorem dX11_isPerson_0 : zDLi cX11_isPerson 0 0 1 := Or.inl ⟨0, by decide +kernel, rfl, rfl⟩
theorem dX11_isPerson_1 : zDK cX11_isPerson 1 0 2 := Or.inl ⟨0, by decide +kernel, by decide, rfl⟩
theorem dX11_isPerson_2 : zDK cX11_isPerson 2 15 4 := Or.inr (Or.inl ⟨15, by decide +kernel, by decide, rfl⟩)
theorem dX11_isPerson_4 : zDC cX11_isPerson 4 (.invokestatic 97) 3 7 := ⟨by decide +kernel, rfl⟩
theorem dX11_isPerson_7 : zDC cX11_isPerson 7 .ireturn 1 8 := ⟨by decide +kernel, rfl⟩
theorem dX11_isWithin_0 : zDLi cX11_isWithin 0 0 1 := Or.inl ⟨0, by decide +kernel, rfl, rfl⟩
theorem dX11_isWithin_1 : zDLi cX11_isWithin 1 1 2 := Or.inl ⟨1, by decide +kernel, rfl, rfl⟩
theorem dX11_isWithin_2 : zDJ cX11_isWithin 2 (.if_icmp .lt) 5 14 := ⟨12, by decide +kernel, by decide, rfl⟩
theorem dX11_isWithin_5 : zDLi cX11_isWithin 5 0 6 := Or.inl ⟨0, by decide +kernel, rfl, rfl⟩
theorem dX11_isWithin_6 : zDLi cX11_isWithin 6 2 7 := Or.inl ⟨2, by decide +kernel, rfl, rfl⟩
theorem dX11_isWithin_7 : zDJ cX11_isWithin 7 (.if_icmp .gt) 10 14 := ⟨7, by decide +kernel, by decide, rfl⟩
theorem dX11_isWithin_10 : zDK cX11_isWithin 10 1 11 := Or.inl ⟨1, by decide +kernel, by decide, rfl⟩
theorem dX11_isWithin_11 : zDJ cX11_isWithin 11 .goto 14 15 := ⟨4, by decide +kernel, by decide, rfl⟩
theorem dX11_isWithin_14 : zDK cX11_isWithin 14 0 15 := Or.inl ⟨0, by decide +kernel, by decide, rfl⟩
theorem dX11_isWithin_15 : zDC cX11_isWithin 15 .ireturn 1 16 := ⟨by decide +kernel, rfl⟩
theorem dX12_bits_0 : zDK cX12_bits 0 0 1 := Or.inl ⟨0, by decide +kernel, by decide, rfl⟩
theorem dX12_bits_1 : zDSi cX12_bits 1 1 2 := Or.inl ⟨1, by decide +kernel, rfl, rfl⟩
theorem dX12_bits_2 : zDK cX12_bits 2 0 3 := Or.inl ⟨0, by decide +kernel, by decide, rfl⟩
theorem dX12_bits_3 : zDSi cX12_bits 3 2 4 := Or.inl ⟨2, by decide +kernel, rfl, rfl⟩
theorem dX12_bits_4 : zDLi cX12_bits 4 2 5 := Or.inl ⟨2, by decide +kernel, rfl, rfl⟩
theorem dX12_bits_5 : zDK cX12_bits 5 16 7 := Or.inr (Or.inl ⟨16, by decide +kernel, by decide, rfl⟩)
theorem dX12_bits_7 : zDJ cX12_bits 7 (.if_icmp .ge) 10 24 := ⟨17, by decide +kernel, by decide, rfl⟩
theorem dX12_bits_10 : zDLi cX12_bits 10 1 11 := Or.inl ⟨1, by decide +kernel, rfl, rfl⟩
theorem dX12_bits_11 : zDLi cX12_bits 11 0 12 := Or.inl ⟨0, by decide +kernel, rfl, rfl⟩
theorem dX12_bits_12 : zDLi cX12_bits 12 2 13 := Or.inl ⟨2, by decide +kernel, rfl, rfl⟩
theorem dX12_bits_13 : zDC cX12_bits 13 .ishr 1 14 := ⟨by decide +kernel, rfl⟩
theorem dX12_bits_14 : zDK cX12_bits 14 1 15 := Or.inl ⟨1, by decide +kernel, by decide, rfl⟩
theorem dX12_bits_15 : zDC cX12_bits 15 .iand 1 16 := ⟨by decide +kernel, rfl⟩
theorem dX12_bits_16 : zDC cX12_bits 16 .iadd 1 17 := ⟨by decide +kernel, rfl⟩
theorem dX12_bits_17 : zDSi cX12_bits 17 1 18 := Or.inl ⟨1, by decide +kernel, rfl, rfl⟩
theorem dX12_bits_18 : zDC cX12_bits 18 (.iinc 2 1) 3 21 := ⟨by decide +kernel, rfl⟩
theorem dX12_bits_21 : zDJ cX12_bits 21 .goto 24 4 := ⟨(-17), by decide +kernel, by decide, rfl⟩
theorem dX12_bits_24 : zDLi cX12_bits 24 1 25 := Or.inl ⟨1, by decide +kernel, rfl, rfl⟩
theorem dX12_bits_25 : zDC cX12_bits 25 .ireturn 1 26 := ⟨by decide +kernel, rfl⟩
theorem dX12_in_0 : zDLi cX12_in 0 0 1 := Or.inl ⟨0, by decide +kernel, rfl, rfl⟩
theorem dX12_in_1 : zDLi cX12_in 1 1 2 := Or.inl ⟨1, by decide +kernel, rfl, rfl⟩
theorem dX12_in_2 : zDJ cX12_in 2 (.if_icmp .lt) 5 14 := ⟨12, by decide +kernel, by decide, rfl⟩
theorem dX12_in_5 : zDLi cX12_in 5 0 6 := Or.inl ⟨0, by decide +kernel, rfl, rfl⟩
theorem dX12_in_6 : zDLi cX12_in 6 2 7 := Or.inl ⟨2, by decide +kernel, rfl, rfl⟩
theorem dX12_in_7 : zDJ cX12_in 7 (.if_icmp .gt) 10 14 := ⟨7, by decide +kernel, by decide, rfl⟩
theorem dX12_in_10 : zDK cX12_in 10 1 11 := Or.inl ⟨1, by decide +kernel, by decide, rfl⟩
theorem dX12_in_11 : zDJ cX12_in 11 .goto 14 15 := ⟨4, by decide +kernel, by decide, rfl⟩
theorem dX12_in_14 : zDK cX12_in 14 0 15 := Or.inl ⟨0, by decide +kernel, by decide, rfl⟩
theorem dX12_in_15 : zDC cX12_in 15 .ireturn 1 16 := ⟨by decide +kernel, rfl⟩
theorem dX8_isTold_0 : zDLi cX8_isTold 0 1 1 := Or.inl ⟨1, by decide +kernel, rfl, rfl⟩
theorem dX8_isTold_1 : zDC cX8_isTold 1 (.invokestatic 47) 3 4 := ⟨by decide +kernel, rfl⟩
theorem dX8_isTold_4 : zDJ cX8_isTold 4 (.ifCond .eq) 7 22 := ⟨18, by decide +kernel, by decide, rfl⟩
theorem dX8_isTold_7 : zDLa cX8_isTold 7 0 8 := Or.inl ⟨0, by decide +kernel, rfl, rfl⟩
theorem dX8_isTold_8 : zDC cX8_isTold 8 (.getfield 34) 3 11 := ⟨by decide +kernel, rfl⟩
theorem dX8_isTold_11 : zDLi cX8_isTold 11 1 12 := Or.inl ⟨1, by decide +kernel, rfl, rfl⟩
theorem dX8_isTold_12 : zDC cX8_isTold 12 (.invokestatic 51) 3 15 := ⟨by decide +kernel, rfl⟩
theorem dX8_isTold_15 : zDJ cX8_isTold 15 (.ifCond .eq) 18 22 := ⟨7, by decide +kernel, by decide, rfl⟩
theorem dX8_isTold_18 : zDK cX8_isTold 18 1 19 := Or.inl ⟨1, by decide +kernel, by decide, rfl⟩
theorem dX8_isTold_19 : zDJ cX8_isTold 19 .goto 22 23 := ⟨4, by decide +kernel, by decide, rfl⟩
theorem dX8_isTold_22 : zDK cX8_isTold 22 0 23 := Or.inl ⟨0, by decide +kernel, by decide, rfl⟩
theorem dX8_isTold_23 : zDC cX8_isTold 23 .ireturn 1 24 := ⟨by decide +kernel, rfl⟩
theorem dX8_knownToAny_0 : zDK cX8_knownToAny 0 0 1 := Or.inl ⟨0, by decide +kernel, by decide, rfl⟩
theorem dX8_knownToAny_1 : zDSi cX8_knownToAny 1 1 2 := Or.inl ⟨1, by decide +kernel, rfl, rfl⟩
theorem dX8_knownToAny_2 : zDK cX8_knownToAny 2 0 3 := Or.inl ⟨0, by decide +kernel, by decide, rfl⟩
theorem dX8_knownToAny_3 : zDSi cX8_knownToAny 3 2 4 := Or.inl ⟨2, by decide +kernel, rfl, rfl⟩
theorem dX8_knownToAny_4 : zDLi cX8_knownToAny 4 2 5 := Or.inl ⟨2, by decide +kernel, rfl, rfl⟩
theorem dX8_knownToAny_5 : zDK cX8_knownToAny 5 16 7 := Or.inr (Or.inl ⟨16, by decide +kernel, by decide, rfl⟩)
theorem dX8_knownToAny_7 : zDJ cX8_knownToAny 7 (.if_icmp .ge) 10 24 := ⟨17, by decide +kernel, by decide, rfl⟩
theorem dX8_knownToAny_10 : zDLi cX8_knownToAny 10 1 11 := Or.inl ⟨1, by decide +kernel, rfl, rfl⟩
theorem dX8_knownToAny_11 : zDLa cX8_knownToAny 11 0 12 := Or.inl ⟨0, by decide +kernel, rfl, rfl⟩
theorem dX8_knownToAny_12 : zDLi cX8_knownToAny 12 2 13 := Or.inl ⟨2, by decide +kernel, rfl, rfl⟩
theorem dX8_knownToAny_13 : zDC cX8_knownToAny 13 (.invokevirtual 58) 3 16 := ⟨by decide +kernel, rfl⟩
theorem dX8_knownToAny_16 : zDC cX8_knownToAny 16 .ior 1 17 := ⟨by decide +kernel, rfl⟩
theorem dX8_knownToAny_17 : zDSi cX8_knownToAny 17 1 18 := Or.inl ⟨1, by decide +kernel, rfl, rfl⟩
theorem dX8_knownToAny_18 : zDC cX8_knownToAny 18 (.iinc 2 1) 3 21 := ⟨by decide +kernel, rfl⟩
theorem dX8_knownToAny_21 : zDJ cX8_knownToAny 21 .goto 24 4 := ⟨(-17), by decide +kernel, by decide, rfl⟩
theorem dX8_knownToAny_24 : zDLi cX8_knownToAny 24 1 25 := Or.inl ⟨1, by decide +kernel, rfl, rfl⟩
theorem dX8_knownToAny_25 : zDC cX8_knownToAny 25 .ireturn 1 26 := ⟨by decide +kernel, rfl⟩
theorem dX8_secretsOf_0 : zDLa cX8_secretsOf 0 0 1 := Or.inl ⟨0, by decide +kernel, rfl, rfl⟩
theorem dX8_secretsOf_1 : zDLi cX8_secretsOf 1 1 2 := Or.inl ⟨1, by decide +kernel, rfl, rfl⟩
theorem dX8_secretsOf_2 : zDC cX8_secretsOf 2 (.invokevirtual 55) 3 5 := ⟨by decide +kernel, rfl⟩
theorem dX8_secretsOf_5 : zDJ cX8_secretsOf 5 (.ifCond .eq) 8 17 := ⟨12, by decide +kernel, by decide, rfl⟩
theorem dX8_secretsOf_8 : zDLa cX8_secretsOf 8 0 9 := Or.inl ⟨0, by decide +kernel, rfl, rfl⟩
theorem dX8_secretsOf_9 : zDC cX8_secretsOf 9 (.getfield 9) 3 12 := ⟨by decide +kernel, rfl⟩
theorem dX8_secretsOf_12 : zDLi cX8_secretsOf 12 1 13 := Or.inl ⟨1, by decide +kernel, rfl, rfl⟩
theorem dX8_secretsOf_13 : zDC cX8_secretsOf 13 .iaload 1 14 := ⟨by decide +kernel, rfl⟩
theorem dX8_secretsOf_14 : zDJ cX8_secretsOf 14 .goto 17 18 := ⟨4, by decide +kernel, by decide, rfl⟩
theorem dX8_secretsOf_17 : zDK cX8_secretsOf 17 0 18 := Or.inl ⟨0, by decide +kernel, by decide, rfl⟩
theorem dX8_secretsOf_18 : zDC cX8_secretsOf 18 .ireturn 1 19 := ⟨by decide +kernel, rfl⟩
end
section
/-! X11_isWithin -/
def fX11_isWithin (F : Nat) (v0 : Int32) (v1 : Int32) (v2 : Int32) (μ : zMem) : Option zR :=
  if v0 < v1 then some ((0 : Int32), μ) else if v2 < v0 then some ((0 : Int32), μ) else some ((1 : Int32), μ)
set_option maxRecDepth 20000 in
set_option maxHeartbeats 4000000 in
theorem wX11_isWithin {X : zX} {F : Nat} (hC : zCx X RX11 cX11_isWithin 3 0) (hret : zRet X = (some .boolean)) {v0 : Int32} {v1 : Int32} {v2 : Int32} {μ : zMem} (hf : fX11_isWithin F v0 v1 v2 μ = some (zOut X)) : zAW X 0 [some (.int v0), some (.int v1), some (.int v2)] [] μ := by
  unfold fX11_isWithin at hf
  refine zs_il hC dX11_isWithin_0 rfl ?_
  refine zs_il hC dX11_isWithin_1 rfl ?_
  refine zs_ic_lt hC dX11_isWithin_2 (fun _ hf => ?_) (fun _ hf => ?_) hf
  · refine zs_k hC dX11_isWithin_14 ?_
    exact zs_zretK hC hret dX11_isWithin_15 (by decide) hf
  · refine zs_il hC dX11_isWithin_5 rfl ?_
    refine zs_il hC dX11_isWithin_6 rfl ?_
    refine zs_ic_gt hC dX11_isWithin_7 (fun _ hf => ?_) (fun _ hf => ?_) hf
    · refine zs_k hC dX11_isWithin_14 ?_
      exact zs_zretK hC hret dX11_isWithin_15 (by decide) hf
    · refine zs_k hC dX11_isWithin_10 ?_
      refine zs_goto hC dX11_isWithin_11 ?_
      exact zs_zretK hC hret dX11_isWithin_15 (by decide) hf
set_option maxRecDepth 20000 in
set_option maxHeartbeats 4000000 in
theorem ctX11_isWithin {E : zEV} {F : Nat} {v0 : Int32} {v1 : Int32} {v2 : Int32} {μ : zMem} {out : zR} (hf : fX11_isWithin F v0 v1 v2 μ = some out) : zCt E yX11_isWithin cX11_isWithin 3 (some .boolean) 0 [.int v0, .int v1, .int v2] μ out :=
  zCt.of [some (.int v0), some (.int v1), some (.int v2)] (by decide +kernel) (Nat.le_of_ble_eq_true rfl) (zLw_s (zLw_s (zLw_s zLw_0))) rfl (fun X hE ho hr hC => by
    subst hE; subst ho
    exact wX11_isWithin hC hr hf)
/-! X11_isPerson -/
def fX11_isPerson (F : Nat) (v0 : Int32) (μ : zMem) : Option zR :=
  zBd (fX11_isWithin F v0 (0 : Int32) (15 : Int32) μ) (fun r1 m1 => zGb (decide (r1 = 0 ∨ r1 = 1)) (some (r1, m1)))
set_option maxRecDepth 20000 in
set_option maxHeartbeats 4000000 in
theorem wX11_isPerson {X : zX} {F : Nat} (hC : zCx X RX11 cX11_isPerson 1 1) (hret : zRet X = (some .boolean)) {v0 : Int32} {μ : zMem} (hf : fX11_isPerson F v0 μ = some (zOut X)) : zAW X 0 [some (.int v0)] [] μ := by
  unfold fX11_isPerson at hf
  refine zs_il hC dX11_isPerson_0 rfl ?_
  refine zs_k hC dX11_isPerson_1 ?_
  refine zs_k hC dX11_isPerson_2 ?_
  refine zs_callS [.int v0, .int (0 : Int32), .int (15 : Int32)] hC cw_X11_isWithin cl_RX11_97 (by decide) rfl rfl (Nat.le_of_ble_eq_true rfl) dX11_isPerson_4 (fun _ h => ctX11_isWithin h) (fun r1 m1 _ hf => ?_) hf
  show zAW X 7 _ (.int r1 :: _) m1
  exact zs_zret hC hret dX11_isPerson_7 hf
set_option maxRecDepth 20000 in
set_option maxHeartbeats 4000000 in
theorem ctX11_isPerson {E : zEV} {F : Nat} {v0 : Int32} {μ : zMem} {out : zR} (hf : fX11_isPerson F v0 μ = some out) : zCt E yX11_isPerson cX11_isPerson 1 (some .boolean) 1 [.int v0] μ out :=
  zCt.of [some (.int v0)] (by decide +kernel) (Nat.le_of_ble_eq_true rfl) (zLw_s zLw_0) rfl (fun X hE ho hr hC => by
    subst hE; subst ho
    exact wX11_isPerson hC hr hf)
/-! X11_hasBit -/
def fX11_hasBit (F : Nat) (v0 : Int32) (v1 : Int32) (μ : zMem) : Option zR :=
  if ((v0 >>> (v1 &&& 31)) &&& (1 : Int32)) = 0 then some ((0 : Int32), μ) else some ((1 : Int32), μ)
set_option maxRecDepth 20000 in
set_option maxHeartbeats 4000000 in
theorem wX11_hasBit {X : zX} {F : Nat} (hC : zCx X RX11 cX11_hasBit 2 0) (hret : zRet X = (some .boolean)) {v0 : Int32} {v1 : Int32} {μ : zMem} (hf : fX11_hasBit F v0 v1 μ = some (zOut X)) : zAW X 0 [some (.int v0), some (.int v1)] [] μ := by
  unfold fX11_hasBit at hf
  refine zs_il hC dX11_hasBit_0 rfl ?_
  refine zs_il hC dX11_hasBit_1 rfl ?_
  refine zs_ishr hC dX11_hasBit_2 ?_
  refine zs_k hC dX11_hasBit_3 ?_
  refine zs_iand hC dX11_hasBit_4 ?_
  refine zs_if_eq hC dX11_hasBit_5 (fun _ hf => ?_) (fun _ hf => ?_) hf
  · refine zs_k hC dX11_hasBit_12 ?_
    exact zs_zretK hC hret dX11_hasBit_13 (by decide) hf
  · refine zs_k hC dX11_hasBit_8 ?_
    refine zs_goto hC dX11_hasBit_9 ?_
    exact zs_zretK hC hret dX11_hasBit_13 (by decide) hf
set_option maxRecDepth 20000 in
set_option maxHeartbeats 4000000 in
theorem ctX11_hasBit {E : zEV} {F : Nat} {v0 : Int32} {v1 : Int32} {μ : zMem} {out : zR} (hf : fX11_hasBit F v0 v1 μ = some out) : zCt E yX11_hasBit cX11_hasBit 2 (some .boolean) 0 [.int v0, .int v1] μ out :=
  zCt.of [some (.int v0), some (.int v1)] (by decide +kernel) (Nat.le_of_ble_eq_true rfl) (zLw_s (zLw_s zLw_0)) rfl (fun X hE ho hr hC => by
    subst hE; subst ho
    exact wX11_hasBit hC hr hf)
/-! X8_isTold -/
def fX8_isTold (F : Nat) (h0 : Nat) (v1 : Int32) (μ : zMem) : Option zR :=
  zBd (fX11_isPerson F v1 μ) (fun r1 m1 => if r1 = 0 then some ((0 : Int32), m1) else zBd (fX11_hasBit F (m1 h0 4) v1 m1) (fun r3 m3 => if r3 = 0 then some ((0 : Int32), m3) else some ((1 : Int32), m3)))
set_option maxRecDepth 20000 in
set_option maxHeartbeats 4000000 in
theorem wX8_isTold {X : zX} {F h0 : Nat} (hC : zCx X RX8 cX8_isTold 2 2) (hh0 : zIsSt h0 = true) (hret : zRet X = (some .boolean)) {v1 : Int32} {μ : zMem} (hf : fX8_isTold F h0 v1 μ = some (zOut X)) : zAW X 0 [some (.ref h0), some (.int v1)] [] μ := by
  unfold fX8_isTold at hf
  refine zs_il hC dX8_isTold_0 rfl ?_
  refine zs_callN [.int v1] hC cw_X11_isPerson cl_RX8_47 (by decide) rfl rfl (Nat.le_of_ble_eq_true rfl) dX8_isTold_1 (fun _ h => ctX11_isPerson h) (fun r1 m1 _ hf => ?_) hf
  show zAW X 4 _ (.int r1 :: _) m1
  refine zs_if_eq hC dX8_isTold_4 (fun _ hf => ?_) (fun _ hf => ?_) hf
  · refine zs_k hC dX8_isTold_22 ?_
    exact zs_zretK hC hret dX8_isTold_23 (by decide) hf
  · refine zs_al hC dX8_isTold_7 rfl ?_
    refine zs_getI hC fl_RX8_34 (zSt0 hh0) rfl dX8_isTold_8 ?_
    refine zs_il hC dX8_isTold_11 rfl ?_
    refine zs_callN [.int (m1 h0 4), .int v1] hC cw_X11_hasBit cl_RX8_51 (by decide) rfl rfl (Nat.le_of_ble_eq_true rfl) dX8_isTold_12 (fun _ h => ctX11_hasBit h) (fun r3 m3 _ hf => ?_) hf
    show zAW X 15 _ (.int r3 :: _) m3
    refine zs_if_eq hC dX8_isTold_15 (fun _ hf => ?_) (fun _ hf => ?_) hf
    · refine zs_k hC dX8_isTold_22 ?_
      exact zs_zretK hC hret dX8_isTold_23 (by decide) hf
    · refine zs_k hC dX8_isTold_18 ?_
      refine zs_goto hC dX8_isTold_19 ?_
      exact zs_zretK hC hret dX8_isTold_23 (by decide) hf
set_option maxRecDepth 20000 in
set_option maxHeartbeats 4000000 in
theorem ctX8_isTold {E : zEV} {F : Nat} {h0 : Nat} {v1 : Int32} {μ : zMem} {out : zR} (hh0 : zIsSt h0 = true) (hf : fX8_isTold F h0 v1 μ = some out) : zCt E yX8_isTold cX8_isTold 2 (some .boolean) 2 [.ref h0, .int v1] μ out :=
  zCt.of [some (.ref h0), some (.int v1)] (by decide +kernel) (Nat.le_of_ble_eq_true rfl) (zLw_s (zLw_s zLw_0)) rfl (fun X hE ho hr hC => by
    subst hE; subst ho
    exact wX8_isTold hC hh0 hr hf)
/-! X8_secretsOf -/
def fX8_secretsOf (F : Nat) (h0 : Nat) (v1 : Int32) (μ : zMem) : Option zR :=
  zBd (fX8_isTold F h0 v1 μ) (fun r1 m1 => if r1 = 0 then some ((0 : Int32), m1) else zG v1 16 (some ((m1 (h0 + 1) v1.toNatClampNeg), m1)))
set_option maxRecDepth 20000 in
set_option maxHeartbeats 4000000 in
theorem wX8_secretsOf {X : zX} {F h0 : Nat} (hC : zCx X RX8 cX8_secretsOf 2 3) (hh0 : zIsSt h0 = true) (hret : zRet X = (some .int)) {v1 : Int32} {μ : zMem} (hf : fX8_secretsOf F h0 v1 μ = some (zOut X)) : zAW X 0 [some (.ref h0), some (.int v1)] [] μ := by
  unfold fX8_secretsOf at hf
  refine zs_al hC dX8_secretsOf_0 rfl ?_
  refine zs_il hC dX8_secretsOf_1 rfl ?_
  refine zs_callV [.int v1] hC cw_X8_isTold cl_RX8_55 (zSt0 hh0) rfl (by decide) rfl rfl (Nat.le_of_ble_eq_true rfl) dX8_secretsOf_2 (fun _ h => ctX8_isTold (hh0) h) (fun r1 m1 _ hf => ?_) hf
  show zAW X 5 _ (.int r1 :: _) m1
  refine zs_if_eq hC dX8_secretsOf_5 (fun _ hf => ?_) (fun _ hf => ?_) hf
  · refine zs_k hC dX8_secretsOf_17 ?_
    exact zs_iret hC hret dX8_secretsOf_18 hf
  · refine zs_al hC dX8_secretsOf_8 rfl ?_
    refine zs_getR (h0 + 1) hC fl_RX8_9 (zSt0 hh0) rfl dX8_secretsOf_9 ?_
    refine zs_il hC dX8_secretsOf_12 rfl ?_
    refine zs_iald hC (zSt1 hh0) dX8_secretsOf_13 (fun _ hf => ?_) hf
    refine zs_goto hC dX8_secretsOf_14 ?_
    exact zs_iret hC hret dX8_secretsOf_18 hf
set_option maxRecDepth 20000 in
set_option maxHeartbeats 4000000 in
theorem ctX8_secretsOf {E : zEV} {F : Nat} {h0 : Nat} {v1 : Int32} {μ : zMem} {out : zR} (hh0 : zIsSt h0 = true) (hf : fX8_secretsOf F h0 v1 μ = some out) : zCt E yX8_secretsOf cX8_secretsOf 2 (some .int) 3 [.ref h0, .int v1] μ out :=
  zCt.of [some (.ref h0), some (.int v1)] (by decide +kernel) (Nat.le_of_ble_eq_true rfl) (zLw_s (zLw_s zLw_0)) rfl (fun X hE ho hr hC => by
    subst hE; subst ho
    exact wX8_secretsOf hC hh0 hr hf)
/-! X8_knownToAny -/
def fX8_knownToAny_4 (F : Nat) (h0 : Nat) : Nat → Int32 → Int32 → zMem → Option zR
  | 0, _, _, _ => none
  | n + 1, v1, v2, μ => if (16 : Int32) ≤ v2 then some (v1, μ) else zBd (fX8_secretsOf F h0 v2 μ) (fun r1 m1 => fX8_knownToAny_4 F h0 n (v1 ||| r1) (v2 + 1) m1)
def fX8_knownToAny (F : Nat) (h0 : Nat) (μ : zMem) : Option zR :=
  fX8_knownToAny_4 F h0 F (0 : Int32) (0 : Int32) μ
set_option maxRecDepth 20000 in
set_option maxHeartbeats 4000000 in
theorem wX8_knownToAny_4 {X : zX} {F h0 : Nat} (hC : zCx X RX8 cX8_knownToAny 3 4) (hh0 : zIsSt h0 = true) (hret : zRet X = (some .int)) : ∀ (n : Nat) (v1 : Int32) (v2 : Int32) (μ : zMem), fX8_knownToAny_4 F h0 n v1 v2 μ = some (zOut X) → zAW X 4 [some (.ref h0), some (.int v1), some (.int v2)] [] μ := by
  intro n
  induction n with
  | zero =>
    intro v1 v2 μ hf
    rw [fX8_knownToAny_4] at hf
    cases hf
  | succ n ih =>
    intro v1 v2 μ hf
    rw [fX8_knownToAny_4] at hf
    refine zs_il hC dX8_knownToAny_4 rfl ?_
    refine zs_k hC dX8_knownToAny_5 ?_
    refine zs_ic_ge hC dX8_knownToAny_7 (fun _ hf => ?_) (fun _ hf => ?_) hf
    · refine zs_il hC dX8_knownToAny_24 rfl ?_
      exact zs_iret hC hret dX8_knownToAny_25 hf
    · refine zs_il hC dX8_knownToAny_10 rfl ?_
      refine zs_al hC dX8_knownToAny_11 rfl ?_
      refine zs_il hC dX8_knownToAny_12 rfl ?_
      refine zs_callV [.int v2] hC cw_X8_secretsOf cl_RX8_58 (zSt0 hh0) rfl (by decide) rfl rfl (Nat.le_of_ble_eq_true rfl) dX8_knownToAny_13 (fun _ h => ctX8_secretsOf (hh0) h) (fun r1 m1 _ hf => ?_) hf
      show zAW X 16 _ (.int r1 :: _) m1
      refine zs_ior hC dX8_knownToAny_16 ?_
      refine zs_is hC dX8_knownToAny_17 (by decide) rfl ?_
      refine zs_iinc 1 hC dX8_knownToAny_18 (by decide) rfl (by decide) rfl ?_
      refine zs_goto hC dX8_knownToAny_21 ?_
      exact zAW.weak (ih _ _ _ hf) (zLw_s (zLw_s (zLw_s zLw_0)))
set_option maxRecDepth 20000 in
set_option maxHeartbeats 4000000 in
theorem wX8_knownToAny {X : zX} {F h0 : Nat} (hC : zCx X RX8 cX8_knownToAny 3 4) (hh0 : zIsSt h0 = true) (hret : zRet X = (some .int)) {μ : zMem} (hf : fX8_knownToAny F h0 μ = some (zOut X)) : zAW X 0 [some (.ref h0), none, none] [] μ := by
  unfold fX8_knownToAny at hf
  refine zs_k hC dX8_knownToAny_0 ?_
  refine zs_is hC dX8_knownToAny_1 (by decide) rfl ?_
  refine zs_k hC dX8_knownToAny_2 ?_
  refine zs_is hC dX8_knownToAny_3 (by decide) rfl ?_
  exact zAW.weak (wX8_knownToAny_4 hC hh0 hret F _ _ _ hf) (zLw_s (zLw_s (zLw_s zLw_0)))
set_option maxRecDepth 20000 in
set_option maxHeartbeats 4000000 in
theorem ctX8_knownToAny {E : zEV} {F : Nat} {h0 : Nat} {μ : zMem} {out : zR} (hh0 : zIsSt h0 = true) (hf : fX8_knownToAny F h0 μ = some out) : zCt E yX8_knownToAny cX8_knownToAny 3 (some .int) 4 [.ref h0] μ out :=
  zCt.of [some (.ref h0), none, none] (by decide +kernel) (Nat.le_of_ble_eq_true rfl) (zLw_s (zLw_n (zLw_n zLw_0))) rfl (fun X hE ho hr hC => by
    subst hE; subst ho
    exact wX8_knownToAny hC hh0 hr hf)
/-! X12_in -/
def fX12_in (F : Nat) (v0 : Int32) (v1 : Int32) (v2 : Int32) (μ : zMem) : Option zR :=
  if v0 < v1 then some ((0 : Int32), μ) else if v2 < v0 then some ((0 : Int32), μ) else some ((1 : Int32), μ)
set_option maxRecDepth 20000 in
set_option maxHeartbeats 4000000 in
theorem wX12_in {X : zX} {F : Nat} (hC : zCx X RX12 cX12_in 3 0) (hret : zRet X = (some .boolean)) {v0 : Int32} {v1 : Int32} {v2 : Int32} {μ : zMem} (hf : fX12_in F v0 v1 v2 μ = some (zOut X)) : zAW X 0 [some (.int v0), some (.int v1), some (.int v2)] [] μ := by
  unfold fX12_in at hf
  refine zs_il hC dX12_in_0 rfl ?_
  refine zs_il hC dX12_in_1 rfl ?_
  refine zs_ic_lt hC dX12_in_2 (fun _ hf => ?_) (fun _ hf => ?_) hf
  · refine zs_k hC dX12_in_14 ?_
    exact zs_zretK hC hret dX12_in_15 (by decide) hf
  · refine zs_il hC dX12_in_5 rfl ?_
    refine zs_il hC dX12_in_6 rfl ?_
    refine zs_ic_gt hC dX12_in_7 (fun _ hf => ?_) (fun _ hf => ?_) hf
    · refine zs_k hC dX12_in_14 ?_
      exact zs_zretK hC hret dX12_in_15 (by decide) hf
    · refine zs_k hC dX12_in_10 ?_
      refine zs_goto hC dX12_in_11 ?_
      exact zs_zretK hC hret dX12_in_15 (by decide) hf
set_option maxRecDepth 20000 in
set_option maxHeartbeats 4000000 in
theorem ctX12_in {E : zEV} {F : Nat} {v0 : Int32} {v1 : Int32} {v2 : Int32} {μ : zMem} {out : zR} (hf : fX12_in F v0 v1 v2 μ = some out) : zCt E yX12_in cX12_in 3 (some .boolean) 0 [.int v0, .int v1, .int v2] μ out :=
  zCt.of [some (.int v0), some (.int v1), some (.int v2)] (by decide +kernel) (Nat.le_of_ble_eq_true rfl) (zLw_s (zLw_s (zLw_s zLw_0))) rfl (fun X hE ho hr hC => by
    subst hE; subst ho
    exact wX12_in hC hr hf)
/-! X12_bits -/
def fX12_bits_4 (F : Nat) : Nat → Int32 → Int32 → Int32 → zMem → Option zR
  | 0, _, _, _, _ => none
  | n + 1, v0, v1, v2, μ => if (16 : Int32) ≤ v2 then some (v1, μ) else fX12_bits_4 F n v0 (v1 + ((v0 >>> (v2 &&& 31)) &&& (1 : Int32))) (v2 + 1) μ
def fX12_bits (F : Nat) (v0 : Int32) (μ : zMem) : Option zR :=
  fX12_bits_4 F F v0 (0 : Int32) (0 : Int32) μ
set_option maxRecDepth 20000 in
set_option maxHeartbeats 4000000 in
theorem wX12_bits_4 {X : zX} {F : Nat} (hC : zCx X RX12 cX12_bits 3 0) (hret : zRet X = (some .int)) : ∀ (n : Nat) (v0 : Int32) (v1 : Int32) (v2 : Int32) (μ : zMem), fX12_bits_4 F n v0 v1 v2 μ = some (zOut X) → zAW X 4 [some (.int v0), some (.int v1), some (.int v2)] [] μ := by
  intro n
  induction n with
  | zero =>
    intro v0 v1 v2 μ hf
    rw [fX12_bits_4] at hf
    cases hf
  | succ n ih =>
    intro v0 v1 v2 μ hf
    rw [fX12_bits_4] at hf
    refine zs_il hC dX12_bits_4 rfl ?_
    refine zs_k hC dX12_bits_5 ?_
    refine zs_ic_ge hC dX12_bits_7 (fun _ hf => ?_) (fun _ hf => ?_) hf
    · refine zs_il hC dX12_bits_24 rfl ?_
      exact zs_iret hC hret dX12_bits_25 hf
    · refine zs_il hC dX12_bits_10 rfl ?_
      refine zs_il hC dX12_bits_11 rfl ?_
      refine zs_il hC dX12_bits_12 rfl ?_
      refine zs_ishr hC dX12_bits_13 ?_
      refine zs_k hC dX12_bits_14 ?_
      refine zs_iand hC dX12_bits_15 ?_
      refine zs_iadd hC dX12_bits_16 ?_
      refine zs_is hC dX12_bits_17 (by decide) rfl ?_
      refine zs_iinc 1 hC dX12_bits_18 (by decide) rfl (by decide) rfl ?_
      refine zs_goto hC dX12_bits_21 ?_
      exact zAW.weak (ih _ _ _ _ hf) (zLw_s (zLw_s (zLw_s zLw_0)))
set_option maxRecDepth 20000 in
set_option maxHeartbeats 4000000 in
theorem wX12_bits {X : zX} {F : Nat} (hC : zCx X RX12 cX12_bits 3 0) (hret : zRet X = (some .int)) {v0 : Int32} {μ : zMem} (hf : fX12_bits F v0 μ = some (zOut X)) : zAW X 0 [some (.int v0), none, none] [] μ := by
  unfold fX12_bits at hf
  refine zs_k hC dX12_bits_0 ?_
  refine zs_is hC dX12_bits_1 (by decide) rfl ?_
  refine zs_k hC dX12_bits_2 ?_
  refine zs_is hC dX12_bits_3 (by decide) rfl ?_
  exact zAW.weak (wX12_bits_4 hC hret F _ _ _ _ hf) (zLw_s (zLw_s (zLw_s zLw_0)))
set_option maxRecDepth 20000 in
set_option maxHeartbeats 4000000 in
theorem ctX12_bits {E : zEV} {F : Nat} {v0 : Int32} {μ : zMem} {out : zR} (hf : fX12_bits F v0 μ = some out) : zCt E yX12_bits cX12_bits 3 (some .int) 0 [.int v0] μ out :=
  zCt.of [some (.int v0), none, none] (by decide +kernel) (Nat.le_of_ble_eq_true rfl) (zLw_s (zLw_n (zLw_n zLw_0))) rfl (fun X hE ho hr hC => by
    subst hE; subst ho
    exact wX12_bits hC hr hf)
end
section
theorem zz_end : True := trivial
end
