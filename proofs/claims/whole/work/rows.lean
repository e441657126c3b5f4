section
-- ===== PART A: goes FIRST, ahead of the names: the tables' words, and 'selects' of the private methods out of them =====
/-- a private method of a class that the tables say can be made, by its rows of tables_1 -/
def lw_okq (q : MethodName × Nat) : Prop := (q.1.cls ≠ "java/lang/invoke/MethodHandle" ∧ q.1.cls ≠ "java/lang/invoke/VarHandle") ∧ Cond.instantiable q.1.cls q.2 ∈ tables_1 ∧ Cond.privateMethod q.1 ∈ tables_1 ∧ Cond.instanceMethod q.1 ∈ tables_1
theorem lw_p0 : lw_okq (⟨"LightAlong", "refuse", "(I)I"⟩, 11) := ⟨⟨by decide +kernel, by decide +kernel⟩, List.mem_of_getElem? (i := 19) (by decide +kernel), List.mem_of_getElem? (i := 260) (by decide +kernel), List.mem_of_getElem? (i := 261) (by decide +kernel)⟩
theorem lw_p1 : lw_okq (⟨"LightAlong", "hindranceOfRow", "(I)I"⟩, 11) := ⟨⟨by decide +kernel, by decide +kernel⟩, List.mem_of_getElem? (i := 19) (by decide +kernel), List.mem_of_getElem? (i := 281) (by decide +kernel), List.mem_of_getElem? (i := 282) (by decide +kernel)⟩
theorem lw_p2 : lw_okq (⟨"LightAlong$Shelf", "lowestBits", "(J)J"⟩, 5) := ⟨⟨by decide +kernel, by decide +kernel⟩, List.mem_of_getElem? (i := 188) (by decide +kernel), List.mem_of_getElem? (i := 302) (by decide +kernel), List.mem_of_getElem? (i := 303) (by decide +kernel)⟩
theorem lw_p3 : lw_okq (⟨"LightAlong", "hindranceOfLaying", "(I)I"⟩, 11) := ⟨⟨by decide +kernel, by decide +kernel⟩, List.mem_of_getElem? (i := 19) (by decide +kernel), List.mem_of_getElem? (i := 363) (by decide +kernel), List.mem_of_getElem? (i := 364) (by decide +kernel)⟩
theorem lw_p4 : lw_okq (⟨"LightAlong$Street", "bitsOnSide", "(I)I"⟩, 8) := ⟨⟨by decide +kernel, by decide +kernel⟩, List.mem_of_getElem? (i := 27) (by decide +kernel), List.mem_of_getElem? (i := 384) (by decide +kernel), List.mem_of_getElem? (i := 385) (by decide +kernel)⟩
theorem lw_p5 : lw_okq (⟨"LightAlong$Street", "bitsInTurn", "(II)I"⟩, 8) := ⟨⟨by decide +kernel, by decide +kernel⟩, List.mem_of_getElem? (i := 27) (by decide +kernel), List.mem_of_getElem? (i := 391) (by decide +kernel), List.mem_of_getElem? (i := 392) (by decide +kernel)⟩
theorem lw_p6 : lw_okq (⟨"LightAlong$StreetText", "readItem", "(LLightAlong$Shelf;LLightAlong$Street;)I"⟩, 3) := ⟨⟨by decide +kernel, by decide +kernel⟩, List.mem_of_getElem? (i := 93) (by decide +kernel), List.mem_of_getElem? (i := 477) (by decide +kernel), List.mem_of_getElem? (i := 478) (by decide +kernel)⟩
theorem lw_p7 : lw_okq (⟨"LightAlong$StreetText", "readWord", "(LLightAlong$Shelf;)I"⟩, 3) := ⟨⟨by decide +kernel, by decide +kernel⟩, List.mem_of_getElem? (i := 93) (by decide +kernel), List.mem_of_getElem? (i := 481) (by decide +kernel), List.mem_of_getElem? (i := 482) (by decide +kernel)⟩
theorem lw_p8 : lw_okq (⟨"LightAlong$Street", "tableOf", "(I)LLightAlong$Table;"⟩, 8) := ⟨⟨by decide +kernel, by decide +kernel⟩, List.mem_of_getElem? (i := 27) (by decide +kernel), List.mem_of_getElem? (i := 562) (by decide +kernel), List.mem_of_getElem? (i := 563) (by decide +kernel)⟩
theorem lw_p9 : lw_okq (⟨"LightAlong$StreetText", "readNumber", "(LLightAlong$Shelf;II)Z"⟩, 3) := ⟨⟨by decide +kernel, by decide +kernel⟩, List.mem_of_getElem? (i := 93) (by decide +kernel), List.mem_of_getElem? (i := 570) (by decide +kernel), List.mem_of_getElem? (i := 571) (by decide +kernel)⟩
theorem lw_p10 : lw_okq (⟨"LightAlong", "refuseApart", "(I)I"⟩, 11) := ⟨⟨by decide +kernel, by decide +kernel⟩, List.mem_of_getElem? (i := 19) (by decide +kernel), List.mem_of_getElem? (i := 602) (by decide +kernel), List.mem_of_getElem? (i := 603) (by decide +kernel)⟩
theorem lw_p11 : lw_okq (⟨"LightAlong", "hindranceOfLight", "(IZZ)I"⟩, 11) := ⟨⟨by decide +kernel, by decide +kernel⟩, List.mem_of_getElem? (i := 19) (by decide +kernel), List.mem_of_getElem? (i := 625) (by decide +kernel), List.mem_of_getElem? (i := 626) (by decide +kernel)⟩
theorem lw_p12 : lw_okq (⟨"LightAlong", "lightAt", "(LLightAlong$Shelf;III)I"⟩, 11) := ⟨⟨by decide +kernel, by decide +kernel⟩, List.mem_of_getElem? (i := 19) (by decide +kernel), List.mem_of_getElem? (i := 629) (by decide +kernel), List.mem_of_getElem? (i := 630) (by decide +kernel)⟩
theorem lw_p13 : lw_okq (⟨"LightAlong$Street", "ofLamp", "(IZII)I"⟩, 8) := ⟨⟨by decide +kernel, by decide +kernel⟩, List.mem_of_getElem? (i := 27) (by decide +kernel), List.mem_of_getElem? (i := 641) (by decide +kernel), List.mem_of_getElem? (i := 642) (by decide +kernel)⟩
theorem lw_p14 : lw_okq (⟨"LightAlong$Street", "countBetween", "(LLightAlong$Table;II)I"⟩, 8) := ⟨⟨by decide +kernel, by decide +kernel⟩, List.mem_of_getElem? (i := 27) (by decide +kernel), List.mem_of_getElem? (i := 650) (by decide +kernel), List.mem_of_getElem? (i := 651) (by decide +kernel)⟩
theorem lw_p15 : lw_okq (⟨"LightAlong", "brokenRule", "(LLightAlong$Shelf;II)I"⟩, 11) := ⟨⟨by decide +kernel, by decide +kernel⟩, List.mem_of_getElem? (i := 19) (by decide +kernel), List.mem_of_getElem? (i := 685) (by decide +kernel), List.mem_of_getElem? (i := 686) (by decide +kernel)⟩
def lw_privs_1 : List (MethodName × Nat) := [(⟨"LightAlong", "refuse", "(I)I"⟩, 11), (⟨"LightAlong", "hindranceOfRow", "(I)I"⟩, 11), (⟨"LightAlong$Shelf", "lowestBits", "(J)J"⟩, 5), (⟨"LightAlong", "hindranceOfLaying", "(I)I"⟩, 11), (⟨"LightAlong$Street", "bitsOnSide", "(I)I"⟩, 8), (⟨"LightAlong$Street", "bitsInTurn", "(II)I"⟩, 8), (⟨"LightAlong$StreetText", "readItem", "(LLightAlong$Shelf;LLightAlong$Street;)I"⟩, 3), (⟨"LightAlong$StreetText", "readWord", "(LLightAlong$Shelf;)I"⟩, 3), (⟨"LightAlong$Street", "tableOf", "(I)LLightAlong$Table;"⟩, 8), (⟨"LightAlong$StreetText", "readNumber", "(LLightAlong$Shelf;II)Z"⟩, 3), (⟨"LightAlong", "refuseApart", "(I)I"⟩, 11), (⟨"LightAlong", "hindranceOfLight", "(IZZ)I"⟩, 11), (⟨"LightAlong", "lightAt", "(LLightAlong$Shelf;III)I"⟩, 11), (⟨"LightAlong$Street", "ofLamp", "(IZII)I"⟩, 8), (⟨"LightAlong$Street", "countBetween", "(LLightAlong$Table;II)I"⟩, 8), (⟨"LightAlong", "brokenRule", "(LLightAlong$Shelf;II)I"⟩, 11)]
theorem lw_r1 : ∀ q ∈ lw_privs_1, lw_okq q := List.forall_mem_cons.mpr ⟨lw_p0, List.forall_mem_cons.mpr ⟨lw_p1, List.forall_mem_cons.mpr ⟨lw_p2, List.forall_mem_cons.mpr ⟨lw_p3, List.forall_mem_cons.mpr ⟨lw_p4, List.forall_mem_cons.mpr ⟨lw_p5, List.forall_mem_cons.mpr ⟨lw_p6, List.forall_mem_cons.mpr ⟨lw_p7, List.forall_mem_cons.mpr ⟨lw_p8, List.forall_mem_cons.mpr ⟨lw_p9, List.forall_mem_cons.mpr ⟨lw_p10, List.forall_mem_cons.mpr ⟨lw_p11, List.forall_mem_cons.mpr ⟨lw_p12, List.forall_mem_cons.mpr ⟨lw_p13, List.forall_mem_cons.mpr ⟨lw_p14, List.forall_mem_cons.mpr ⟨lw_p15, fun _ h => absurd h List.not_mem_nil⟩⟩⟩⟩⟩⟩⟩⟩⟩⟩⟩⟩⟩⟩⟩⟩
theorem lw_p16 : lw_okq (⟨"LightAlong$Lights", "firstTooDark", "(LLightAlong$Street;)I"⟩, 4) := ⟨⟨by decide +kernel, by decide +kernel⟩, List.mem_of_getElem? (i := 110) (by decide +kernel), List.mem_of_getElem? (i := 712) (by decide +kernel), List.mem_of_getElem? (i := 713) (by decide +kernel)⟩
theorem lw_p17 : lw_okq (⟨"LightAlong$Lights", "firstBrightPool", "()I"⟩, 4) := ⟨⟨by decide +kernel, by decide +kernel⟩, List.mem_of_getElem? (i := 110) (by decide +kernel), List.mem_of_getElem? (i := 716) (by decide +kernel), List.mem_of_getElem? (i := 717) (by decide +kernel)⟩
theorem lw_p18 : lw_okq (⟨"LightAlong$Lights", "firstUneven", "(LLightAlong$Street;)I"⟩, 4) := ⟨⟨by decide +kernel, by decide +kernel⟩, List.mem_of_getElem? (i := 110) (by decide +kernel), List.mem_of_getElem? (i := 720) (by decide +kernel), List.mem_of_getElem? (i := 721) (by decide +kernel)⟩
theorem lw_p19 : lw_okq (⟨"LightAlong$Lights", "darkest", "()I"⟩, 4) := ⟨⟨by decide +kernel, by decide +kernel⟩, List.mem_of_getElem? (i := 110) (by decide +kernel), List.mem_of_getElem? (i := 724) (by decide +kernel), List.mem_of_getElem? (i := 725) (by decide +kernel)⟩
theorem lw_p20 : lw_okq (⟨"LightAlong$Lights", "firstBrightWindow", "(LLightAlong$Street;)I"⟩, 4) := ⟨⟨by decide +kernel, by decide +kernel⟩, List.mem_of_getElem? (i := 110) (by decide +kernel), List.mem_of_getElem? (i := 728) (by decide +kernel), List.mem_of_getElem? (i := 729) (by decide +kernel)⟩
theorem lw_p21 : lw_okq (⟨"LightAlong", "chosen", "(III)I"⟩, 11) := ⟨⟨by decide +kernel, by decide +kernel⟩, List.mem_of_getElem? (i := 19) (by decide +kernel), List.mem_of_getElem? (i := 757) (by decide +kernel), List.mem_of_getElem? (i := 758) (by decide +kernel)⟩
theorem lw_p22 : lw_okq (⟨"LightAlong$Choice", "isBetter", "(III)Z"⟩, 8) := ⟨⟨by decide +kernel, by decide +kernel⟩, List.mem_of_getElem? (i := 133) (by decide +kernel), List.mem_of_getElem? (i := 775) (by decide +kernel), List.mem_of_getElem? (i := 776) (by decide +kernel)⟩
theorem lw_p23 : lw_okq (⟨"LightAlong$Choice", "coinsOf", "(I)I"⟩, 8) := ⟨⟨by decide +kernel, by decide +kernel⟩, List.mem_of_getElem? (i := 133) (by decide +kernel), List.mem_of_getElem? (i := 780) (by decide +kernel), List.mem_of_getElem? (i := 781) (by decide +kernel)⟩
theorem lw_p24 : lw_okq (⟨"LightAlong$Choice", "isWell", "(LLightAlong$Street;I)Z"⟩, 8) := ⟨⟨by decide +kernel, by decide +kernel⟩, List.mem_of_getElem? (i := 133) (by decide +kernel), List.mem_of_getElem? (i := 785) (by decide +kernel), List.mem_of_getElem? (i := 786) (by decide +kernel)⟩
theorem lw_p25 : lw_okq (⟨"LightAlong$Choice", "isBrightEnough", "(I)Z"⟩, 8) := ⟨⟨by decide +kernel, by decide +kernel⟩, List.mem_of_getElem? (i := 133) (by decide +kernel), List.mem_of_getElem? (i := 789) (by decide +kernel), List.mem_of_getElem? (i := 790) (by decide +kernel)⟩
theorem lw_p26 : lw_okq (⟨"LightAlong$Choice", "isFirm", "(I)Z"⟩, 8) := ⟨⟨by decide +kernel, by decide +kernel⟩, List.mem_of_getElem? (i := 133) (by decide +kernel), List.mem_of_getElem? (i := 794) (by decide +kernel), List.mem_of_getElem? (i := 795) (by decide +kernel)⟩
theorem lw_p27 : lw_okq (⟨"LightAlong$Choice", "lampsNeededAt", "(I)I"⟩, 8) := ⟨⟨by decide +kernel, by decide +kernel⟩, List.mem_of_getElem? (i := 133) (by decide +kernel), List.mem_of_getElem? (i := 814) (by decide +kernel), List.mem_of_getElem? (i := 815) (by decide +kernel)⟩
theorem lw_p28 : lw_okq (⟨"LightAlong$Choice", "brightestAside", "(II)I"⟩, 8) := ⟨⟨by decide +kernel, by decide +kernel⟩, List.mem_of_getElem? (i := 133) (by decide +kernel), List.mem_of_getElem? (i := 818) (by decide +kernel), List.mem_of_getElem? (i := 819) (by decide +kernel)⟩
theorem lw_p29 : lw_okq (⟨"LightAlong$Acts", "begin", "(I)V"⟩, 5) := ⟨⟨by decide +kernel, by decide +kernel⟩, List.mem_of_getElem? (i := 166) (by decide +kernel), List.mem_of_getElem? (i := 900) (by decide +kernel), List.mem_of_getElem? (i := 901) (by decide +kernel)⟩
theorem lw_p30 : lw_okq (⟨"LightAlongModel", "isShelf", "(I)Z"⟩, 52) := ⟨⟨by decide +kernel, by decide +kernel⟩, List.mem_of_getElem? (i := 934) (by decide +kernel), List.mem_of_getElem? (i := 1101) (by decide +kernel), List.mem_of_getElem? (i := 1102) (by decide +kernel)⟩
theorem lw_p31 : lw_okq (⟨"LightAlongModel", "no", "(I)I"⟩, 52) := ⟨⟨by decide +kernel, by decide +kernel⟩, List.mem_of_getElem? (i := 934) (by decide +kernel), List.mem_of_getElem? (i := 1105) (by decide +kernel), List.mem_of_getElem? (i := 1106) (by decide +kernel)⟩
def lw_privs_2 : List (MethodName × Nat) := [(⟨"LightAlong$Lights", "firstTooDark", "(LLightAlong$Street;)I"⟩, 4), (⟨"LightAlong$Lights", "firstBrightPool", "()I"⟩, 4), (⟨"LightAlong$Lights", "firstUneven", "(LLightAlong$Street;)I"⟩, 4), (⟨"LightAlong$Lights", "darkest", "()I"⟩, 4), (⟨"LightAlong$Lights", "firstBrightWindow", "(LLightAlong$Street;)I"⟩, 4), (⟨"LightAlong", "chosen", "(III)I"⟩, 11), (⟨"LightAlong$Choice", "isBetter", "(III)Z"⟩, 8), (⟨"LightAlong$Choice", "coinsOf", "(I)I"⟩, 8), (⟨"LightAlong$Choice", "isWell", "(LLightAlong$Street;I)Z"⟩, 8), (⟨"LightAlong$Choice", "isBrightEnough", "(I)Z"⟩, 8), (⟨"LightAlong$Choice", "isFirm", "(I)Z"⟩, 8), (⟨"LightAlong$Choice", "lampsNeededAt", "(I)I"⟩, 8), (⟨"LightAlong$Choice", "brightestAside", "(II)I"⟩, 8), (⟨"LightAlong$Acts", "begin", "(I)V"⟩, 5), (⟨"LightAlongModel", "isShelf", "(I)Z"⟩, 52), (⟨"LightAlongModel", "no", "(I)I"⟩, 52)]
theorem lw_r2 : ∀ q ∈ lw_privs_2, lw_okq q := List.forall_mem_cons.mpr ⟨lw_p16, List.forall_mem_cons.mpr ⟨lw_p17, List.forall_mem_cons.mpr ⟨lw_p18, List.forall_mem_cons.mpr ⟨lw_p19, List.forall_mem_cons.mpr ⟨lw_p20, List.forall_mem_cons.mpr ⟨lw_p21, List.forall_mem_cons.mpr ⟨lw_p22, List.forall_mem_cons.mpr ⟨lw_p23, List.forall_mem_cons.mpr ⟨lw_p24, List.forall_mem_cons.mpr ⟨lw_p25, List.forall_mem_cons.mpr ⟨lw_p26, List.forall_mem_cons.mpr ⟨lw_p27, List.forall_mem_cons.mpr ⟨lw_p28, List.forall_mem_cons.mpr ⟨lw_p29, List.forall_mem_cons.mpr ⟨lw_p30, List.forall_mem_cons.mpr ⟨lw_p31, fun _ h => absurd h List.not_mem_nil⟩⟩⟩⟩⟩⟩⟩⟩⟩⟩⟩⟩⟩⟩⟩⟩
theorem lw_p32 : lw_okq (⟨"LightAlongModel", "isHour", "(I)Z"⟩, 52) := ⟨⟨by decide +kernel, by decide +kernel⟩, List.mem_of_getElem? (i := 934) (by decide +kernel), List.mem_of_getElem? (i := 1125) (by decide +kernel), List.mem_of_getElem? (i := 1126) (by decide +kernel)⟩
theorem lw_p33 : lw_okq (⟨"LightAlongModel", "lamps", "()I"⟩, 52) := ⟨⟨by decide +kernel, by decide +kernel⟩, List.mem_of_getElem? (i := 934) (by decide +kernel), List.mem_of_getElem? (i := 1129) (by decide +kernel), List.mem_of_getElem? (i := 1130) (by decide +kernel)⟩
theorem lw_p34 : lw_okq (⟨"LightAlongModel", "isUnder", "(II)Z"⟩, 52) := ⟨⟨by decide +kernel, by decide +kernel⟩, List.mem_of_getElem? (i := 934) (by decide +kernel), List.mem_of_getElem? (i := 1141) (by decide +kernel), List.mem_of_getElem? (i := 1142) (by decide +kernel)⟩
theorem lw_p35 : lw_okq (⟨"LightAlongModel", "burns", "(III)I"⟩, 52) := ⟨⟨by decide +kernel, by decide +kernel⟩, List.mem_of_getElem? (i := 934) (by decide +kernel), List.mem_of_getElem? (i := 1145) (by decide +kernel), List.mem_of_getElem? (i := 1146) (by decide +kernel)⟩
theorem lw_p36 : lw_okq (⟨"LightAlongModel", "bits", "(I)I"⟩, 52) := ⟨⟨by decide +kernel, by decide +kernel⟩, List.mem_of_getElem? (i := 934) (by decide +kernel), List.mem_of_getElem? (i := 1149) (by decide +kernel), List.mem_of_getElem? (i := 1150) (by decide +kernel)⟩
theorem lw_p37 : lw_okq (⟨"LightAlongModel", "isLamp", "(IIII)Z"⟩, 52) := ⟨⟨by decide +kernel, by decide +kernel⟩, List.mem_of_getElem? (i := 934) (by decide +kernel), List.mem_of_getElem? (i := 1157) (by decide +kernel), List.mem_of_getElem? (i := 1158) (by decide +kernel)⟩
theorem lw_p38 : lw_okq (⟨"LightAlongModel", "sorts", "(IIII)I"⟩, 52) := ⟨⟨by decide +kernel, by decide +kernel⟩, List.mem_of_getElem? (i := 934) (by decide +kernel), List.mem_of_getElem? (i := 1161) (by decide +kernel), List.mem_of_getElem? (i := 1162) (by decide +kernel)⟩
theorem lw_p39 : lw_okq (⟨"LightAlongModel", "isPoint", "(I)Z"⟩, 52) := ⟨⟨by decide +kernel, by decide +kernel⟩, List.mem_of_getElem? (i := 934) (by decide +kernel), List.mem_of_getElem? (i := 1169) (by decide +kernel), List.mem_of_getElem? (i := 1170) (by decide +kernel)⟩
theorem lw_p40 : lw_okq (⟨"LightAlongModel", "places", "(II)I"⟩, 52) := ⟨⟨by decide +kernel, by decide +kernel⟩, List.mem_of_getElem? (i := 934) (by decide +kernel), List.mem_of_getElem? (i := 1173) (by decide +kernel), List.mem_of_getElem? (i := 1174) (by decide +kernel)⟩
theorem lw_p41 : lw_okq (⟨"LightAlongModel", "isFull", "(I)Z"⟩, 52) := ⟨⟨by decide +kernel, by decide +kernel⟩, List.mem_of_getElem? (i := 934) (by decide +kernel), List.mem_of_getElem? (i := 1181) (by decide +kernel), List.mem_of_getElem? (i := 1182) (by decide +kernel)⟩
theorem lw_p42 : lw_okq (⟨"LightAlongModel", "stands", "(II)I"⟩, 52) := ⟨⟨by decide +kernel, by decide +kernel⟩, List.mem_of_getElem? (i := 934) (by decide +kernel), List.mem_of_getElem? (i := 1185) (by decide +kernel), List.mem_of_getElem? (i := 1186) (by decide +kernel)⟩
theorem lw_p43 : lw_okq (⟨"LightAlongModel", "windows", "(II)I"⟩, 52) := ⟨⟨by decide +kernel, by decide +kernel⟩, List.mem_of_getElem? (i := 934) (by decide +kernel), List.mem_of_getElem? (i := 1193) (by decide +kernel), List.mem_of_getElem? (i := 1194) (by decide +kernel)⟩
theorem lw_p44 : lw_okq (⟨"LightAlongModel", "shops", "(III)I"⟩, 52) := ⟨⟨by decide +kernel, by decide +kernel⟩, List.mem_of_getElem? (i := 934) (by decide +kernel), List.mem_of_getElem? (i := 1201) (by decide +kernel), List.mem_of_getElem? (i := 1202) (by decide +kernel)⟩
theorem lw_p45 : lw_okq (⟨"LightAlongModel", "isAsked", "(II)Z"⟩, 52) := ⟨⟨by decide +kernel, by decide +kernel⟩, List.mem_of_getElem? (i := 934) (by decide +kernel), List.mem_of_getElem? (i := 1209) (by decide +kernel), List.mem_of_getElem? (i := 1210) (by decide +kernel)⟩
theorem lw_p46 : lw_okq (⟨"LightAlongModel", "asks", "(II)I"⟩, 52) := ⟨⟨by decide +kernel, by decide +kernel⟩, List.mem_of_getElem? (i := 934) (by decide +kernel), List.mem_of_getElem? (i := 1213) (by decide +kernel), List.mem_of_getElem? (i := 1214) (by decide +kernel)⟩
theorem lw_p47 : lw_okq (⟨"LightAlongModel", "wants", "(II)I"⟩, 52) := ⟨⟨by decide +kernel, by decide +kernel⟩, List.mem_of_getElem? (i := 934) (by decide +kernel), List.mem_of_getElem? (i := 1221) (by decide +kernel), List.mem_of_getElem? (i := 1222) (by decide +kernel)⟩
def lw_privs_3 : List (MethodName × Nat) := [(⟨"LightAlongModel", "isHour", "(I)Z"⟩, 52), (⟨"LightAlongModel", "lamps", "()I"⟩, 52), (⟨"LightAlongModel", "isUnder", "(II)Z"⟩, 52), (⟨"LightAlongModel", "burns", "(III)I"⟩, 52), (⟨"LightAlongModel", "bits", "(I)I"⟩, 52), (⟨"LightAlongModel", "isLamp", "(IIII)Z"⟩, 52), (⟨"LightAlongModel", "sorts", "(IIII)I"⟩, 52), (⟨"LightAlongModel", "isPoint", "(I)Z"⟩, 52), (⟨"LightAlongModel", "places", "(II)I"⟩, 52), (⟨"LightAlongModel", "isFull", "(I)Z"⟩, 52), (⟨"LightAlongModel", "stands", "(II)I"⟩, 52), (⟨"LightAlongModel", "windows", "(II)I"⟩, 52), (⟨"LightAlongModel", "shops", "(III)I"⟩, 52), (⟨"LightAlongModel", "isAsked", "(II)Z"⟩, 52), (⟨"LightAlongModel", "asks", "(II)I"⟩, 52), (⟨"LightAlongModel", "wants", "(II)I"⟩, 52)]
theorem lw_r3 : ∀ q ∈ lw_privs_3, lw_okq q := List.forall_mem_cons.mpr ⟨lw_p32, List.forall_mem_cons.mpr ⟨lw_p33, List.forall_mem_cons.mpr ⟨lw_p34, List.forall_mem_cons.mpr ⟨lw_p35, List.forall_mem_cons.mpr ⟨lw_p36, List.forall_mem_cons.mpr ⟨lw_p37, List.forall_mem_cons.mpr ⟨lw_p38, List.forall_mem_cons.mpr ⟨lw_p39, List.forall_mem_cons.mpr ⟨lw_p40, List.forall_mem_cons.mpr ⟨lw_p41, List.forall_mem_cons.mpr ⟨lw_p42, List.forall_mem_cons.mpr ⟨lw_p43, List.forall_mem_cons.mpr ⟨lw_p44, List.forall_mem_cons.mpr ⟨lw_p45, List.forall_mem_cons.mpr ⟨lw_p46, List.forall_mem_cons.mpr ⟨lw_p47, fun _ h => absurd h List.not_mem_nil⟩⟩⟩⟩⟩⟩⟩⟩⟩⟩⟩⟩⟩⟩⟩⟩
theorem lw_p48 : lw_okq (⟨"LightAlongModel", "counts", "([IZ)V"⟩, 52) := ⟨⟨by decide +kernel, by decide +kernel⟩, List.mem_of_getElem? (i := 934) (by decide +kernel), List.mem_of_getElem? (i := 1225) (by decide +kernel), List.mem_of_getElem? (i := 1226) (by decide +kernel)⟩
theorem lw_p49 : lw_okq (⟨"LightAlongModel", "item", "()Z"⟩, 52) := ⟨⟨by decide +kernel, by decide +kernel⟩, List.mem_of_getElem? (i := 934) (by decide +kernel), List.mem_of_getElem? (i := 1229) (by decide +kernel), List.mem_of_getElem? (i := 1230) (by decide +kernel)⟩
theorem lw_p50 : lw_okq (⟨"LightAlongModel", "isWordAt", "(I)Z"⟩, 52) := ⟨⟨by decide +kernel, by decide +kernel⟩, List.mem_of_getElem? (i := 934) (by decide +kernel), List.mem_of_getElem? (i := 1233) (by decide +kernel), List.mem_of_getElem? (i := 1234) (by decide +kernel)⟩
theorem lw_p51 : lw_okq (⟨"LightAlongModel", "isWordFull", "(I)Z"⟩, 52) := ⟨⟨by decide +kernel, by decide +kernel⟩, List.mem_of_getElem? (i := 934) (by decide +kernel), List.mem_of_getElem? (i := 1237) (by decide +kernel), List.mem_of_getElem? (i := 1238) (by decide +kernel)⟩
theorem lw_p52 : lw_okq (⟨"LightAlongModel", "wrong", "(I)Z"⟩, 52) := ⟨⟨by decide +kernel, by decide +kernel⟩, List.mem_of_getElem? (i := 934) (by decide +kernel), List.mem_of_getElem? (i := 1241) (by decide +kernel), List.mem_of_getElem? (i := 1242) (by decide +kernel)⟩
theorem lw_p53 : lw_okq (⟨"LightAlongModel", "word", "()I"⟩, 52) := ⟨⟨by decide +kernel, by decide +kernel⟩, List.mem_of_getElem? (i := 934) (by decide +kernel), List.mem_of_getElem? (i := 1245) (by decide +kernel), List.mem_of_getElem? (i := 1246) (by decide +kernel)⟩
theorem lw_p54 : lw_okq (⟨"LightAlongModel", "number", "(II)Z"⟩, 52) := ⟨⟨by decide +kernel, by decide +kernel⟩, List.mem_of_getElem? (i := 934) (by decide +kernel), List.mem_of_getElem? (i := 1249) (by decide +kernel), List.mem_of_getElem? (i := 1250) (by decide +kernel)⟩
theorem lw_p55 : lw_okq (⟨"LightAlongModel", "isDigit", "()Z"⟩, 52) := ⟨⟨by decide +kernel, by decide +kernel⟩, List.mem_of_getElem? (i := 934) (by decide +kernel), List.mem_of_getElem? (i := 1253) (by decide +kernel), List.mem_of_getElem? (i := 1254) (by decide +kernel)⟩
theorem lw_p56 : lw_okq (⟨"LightAlongModel", "next", "(II)Z"⟩, 52) := ⟨⟨by decide +kernel, by decide +kernel⟩, List.mem_of_getElem? (i := 934) (by decide +kernel), List.mem_of_getElem? (i := 1257) (by decide +kernel), List.mem_of_getElem? (i := 1258) (by decide +kernel)⟩
theorem lw_p57 : lw_okq (⟨"LightAlongModel", "isSort", "(I)Z"⟩, 52) := ⟨⟨by decide +kernel, by decide +kernel⟩, List.mem_of_getElem? (i := 934) (by decide +kernel), List.mem_of_getElem? (i := 1269) (by decide +kernel), List.mem_of_getElem? (i := 1270) (by decide +kernel)⟩
theorem lw_p58 : lw_okq (⟨"LightAlongModel", "isPlace", "(I)Z"⟩, 52) := ⟨⟨by decide +kernel, by decide +kernel⟩, List.mem_of_getElem? (i := 934) (by decide +kernel), List.mem_of_getElem? (i := 1277) (by decide +kernel), List.mem_of_getElem? (i := 1278) (by decide +kernel)⟩
theorem lw_p59 : lw_okq (⟨"LightAlongModel", "noTen", "(I)I"⟩, 52) := ⟨⟨by decide +kernel, by decide +kernel⟩, List.mem_of_getElem? (i := 934) (by decide +kernel), List.mem_of_getElem? (i := 1285) (by decide +kernel), List.mem_of_getElem? (i := 1286) (by decide +kernel)⟩
theorem lw_p60 : lw_okq (⟨"LightAlongModel", "lightBy", "(IIII)I"⟩, 52) := ⟨⟨by decide +kernel, by decide +kernel⟩, List.mem_of_getElem? (i := 934) (by decide +kernel), List.mem_of_getElem? (i := 1297) (by decide +kernel), List.mem_of_getElem? (i := 1298) (by decide +kernel)⟩
theorem lw_p61 : lw_okq (⟨"LightAlongModel", "lightOf", "(IIIIII)I"⟩, 52) := ⟨⟨by decide +kernel, by decide +kernel⟩, List.mem_of_getElem? (i := 934) (by decide +kernel), List.mem_of_getElem? (i := 1301) (by decide +kernel), List.mem_of_getElem? (i := 1302) (by decide +kernel)⟩
theorem lw_p62 : lw_okq (⟨"LightAlongModel", "shopsAt", "(II)I"⟩, 52) := ⟨⟨by decide +kernel, by decide +kernel⟩, List.mem_of_getElem? (i := 934) (by decide +kernel), List.mem_of_getElem? (i := 1305) (by decide +kernel), List.mem_of_getElem? (i := 1306) (by decide +kernel)⟩
theorem lw_p63 : lw_okq (⟨"LightAlongModel", "shopAt", "(II)I"⟩, 52) := ⟨⟨by decide +kernel, by decide +kernel⟩, List.mem_of_getElem? (i := 934) (by decide +kernel), List.mem_of_getElem? (i := 1309) (by decide +kernel), List.mem_of_getElem? (i := 1310) (by decide +kernel)⟩
def lw_privs_4 : List (MethodName × Nat) := [(⟨"LightAlongModel", "counts", "([IZ)V"⟩, 52), (⟨"LightAlongModel", "item", "()Z"⟩, 52), (⟨"LightAlongModel", "isWordAt", "(I)Z"⟩, 52), (⟨"LightAlongModel", "isWordFull", "(I)Z"⟩, 52), (⟨"LightAlongModel", "wrong", "(I)Z"⟩, 52), (⟨"LightAlongModel", "word", "()I"⟩, 52), (⟨"LightAlongModel", "number", "(II)Z"⟩, 52), (⟨"LightAlongModel", "isDigit", "()Z"⟩, 52), (⟨"LightAlongModel", "next", "(II)Z"⟩, 52), (⟨"LightAlongModel", "isSort", "(I)Z"⟩, 52), (⟨"LightAlongModel", "isPlace", "(I)Z"⟩, 52), (⟨"LightAlongModel", "noTen", "(I)I"⟩, 52), (⟨"LightAlongModel", "lightBy", "(IIII)I"⟩, 52), (⟨"LightAlongModel", "lightOf", "(IIIIII)I"⟩, 52), (⟨"LightAlongModel", "shopsAt", "(II)I"⟩, 52), (⟨"LightAlongModel", "shopAt", "(II)I"⟩, 52)]
theorem lw_r4 : ∀ q ∈ lw_privs_4, lw_okq q := List.forall_mem_cons.mpr ⟨lw_p48, List.forall_mem_cons.mpr ⟨lw_p49, List.forall_mem_cons.mpr ⟨lw_p50, List.forall_mem_cons.mpr ⟨lw_p51, List.forall_mem_cons.mpr ⟨lw_p52, List.forall_mem_cons.mpr ⟨lw_p53, List.forall_mem_cons.mpr ⟨lw_p54, List.forall_mem_cons.mpr ⟨lw_p55, List.forall_mem_cons.mpr ⟨lw_p56, List.forall_mem_cons.mpr ⟨lw_p57, List.forall_mem_cons.mpr ⟨lw_p58, List.forall_mem_cons.mpr ⟨lw_p59, List.forall_mem_cons.mpr ⟨lw_p60, List.forall_mem_cons.mpr ⟨lw_p61, List.forall_mem_cons.mpr ⟨lw_p62, List.forall_mem_cons.mpr ⟨lw_p63, fun _ h => absurd h List.not_mem_nil⟩⟩⟩⟩⟩⟩⟩⟩⟩⟩⟩⟩⟩⟩⟩⟩
theorem lw_p64 : lw_okq (⟨"LightAlongModel", "of", "(IIIZ)I"⟩, 52) := ⟨⟨by decide +kernel, by decide +kernel⟩, List.mem_of_getElem? (i := 934) (by decide +kernel), List.mem_of_getElem? (i := 1313) (by decide +kernel), List.mem_of_getElem? (i := 1314) (by decide +kernel)⟩
theorem lw_p65 : lw_okq (⟨"LightAlongModel", "given", "(IIII)I"⟩, 52) := ⟨⟨by decide +kernel, by decide +kernel⟩, List.mem_of_getElem? (i := 934) (by decide +kernel), List.mem_of_getElem? (i := 1317) (by decide +kernel), List.mem_of_getElem? (i := 1318) (by decide +kernel)⟩
theorem lw_p66 : lw_okq (⟨"LightAlongModel", "isBetween", "(III)Z"⟩, 52) := ⟨⟨by decide +kernel, by decide +kernel⟩, List.mem_of_getElem? (i := 934) (by decide +kernel), List.mem_of_getElem? (i := 1321) (by decide +kernel), List.mem_of_getElem? (i := 1322) (by decide +kernel)⟩
theorem lw_p67 : lw_okq (⟨"LightAlongModel", "leaves", "(I)I"⟩, 52) := ⟨⟨by decide +kernel, by decide +kernel⟩, List.mem_of_getElem? (i := 934) (by decide +kernel), List.mem_of_getElem? (i := 1325) (by decide +kernel), List.mem_of_getElem? (i := 1326) (by decide +kernel)⟩
theorem lw_p68 : lw_okq (⟨"LightAlongModel", "lights", "(IIIII)V"⟩, 52) := ⟨⟨by decide +kernel, by decide +kernel⟩, List.mem_of_getElem? (i := 934) (by decide +kernel), List.mem_of_getElem? (i := 1337) (by decide +kernel), List.mem_of_getElem? (i := 1338) (by decide +kernel)⟩
theorem lw_p69 : lw_okq (⟨"LightAlongModel", "judged", "()I"⟩, 52) := ⟨⟨by decide +kernel, by decide +kernel⟩, List.mem_of_getElem? (i := 934) (by decide +kernel), List.mem_of_getElem? (i := 1341) (by decide +kernel), List.mem_of_getElem? (i := 1342) (by decide +kernel)⟩
theorem lw_p70 : lw_okq (⟨"LightAlongModel", "isPool", "(I)Z"⟩, 52) := ⟨⟨by decide +kernel, by decide +kernel⟩, List.mem_of_getElem? (i := 934) (by decide +kernel), List.mem_of_getElem? (i := 1345) (by decide +kernel), List.mem_of_getElem? (i := 1346) (by decide +kernel)⟩
theorem lw_p71 : lw_okq (⟨"LightAlongModel", "isSet", "(I)Z"⟩, 52) := ⟨⟨by decide +kernel, by decide +kernel⟩, List.mem_of_getElem? (i := 934) (by decide +kernel), List.mem_of_getElem? (i := 1357) (by decide +kernel), List.mem_of_getElem? (i := 1358) (by decide +kernel)⟩
theorem lw_p72 : lw_okq (⟨"LightAlongModel", "coinOf", "(II)I"⟩, 52) := ⟨⟨by decide +kernel, by decide +kernel⟩, List.mem_of_getElem? (i := 934) (by decide +kernel), List.mem_of_getElem? (i := 1361) (by decide +kernel), List.mem_of_getElem? (i := 1362) (by decide +kernel)⟩
theorem lw_p73 : lw_okq (⟨"LightAlongModel", "told", "(III)I"⟩, 52) := ⟨⟨by decide +kernel, by decide +kernel⟩, List.mem_of_getElem? (i := 934) (by decide +kernel), List.mem_of_getElem? (i := 1369) (by decide +kernel), List.mem_of_getElem? (i := 1370) (by decide +kernel)⟩
theorem lw_p74 : lw_okq (⟨"LightAlongModel", "chosen", "(III)I"⟩, 52) := ⟨⟨by decide +kernel, by decide +kernel⟩, List.mem_of_getElem? (i := 934) (by decide +kernel), List.mem_of_getElem? (i := 1373) (by decide +kernel), List.mem_of_getElem? (i := 1374) (by decide +kernel)⟩
theorem lw_p75 : lw_okq (⟨"LightAlongModel", "singles", "(II)V"⟩, 52) := ⟨⟨by decide +kernel, by decide +kernel⟩, List.mem_of_getElem? (i := 934) (by decide +kernel), List.mem_of_getElem? (i := 1377) (by decide +kernel), List.mem_of_getElem? (i := 1378) (by decide +kernel)⟩
theorem lw_p76 : lw_okq (⟨"LightAlongModel", "faultyBy", "(I)I"⟩, 52) := ⟨⟨by decide +kernel, by decide +kernel⟩, List.mem_of_getElem? (i := 934) (by decide +kernel), List.mem_of_getElem? (i := 1381) (by decide +kernel), List.mem_of_getElem? (i := 1382) (by decide +kernel)⟩
theorem lw_p77 : lw_okq (⟨"LightAlongModel", "isFirm", "(I)Z"⟩, 52) := ⟨⟨by decide +kernel, by decide +kernel⟩, List.mem_of_getElem? (i := 934) (by decide +kernel), List.mem_of_getElem? (i := 1385) (by decide +kernel), List.mem_of_getElem? (i := 1386) (by decide +kernel)⟩
theorem lw_p78 : lw_okq (⟨"LightAlongModel", "intAt", "(II)I"⟩, 52) := ⟨⟨by decide +kernel, by decide +kernel⟩, List.mem_of_getElem? (i := 934) (by decide +kernel), List.mem_of_getElem? (i := 1441) (by decide +kernel), List.mem_of_getElem? (i := 1442) (by decide +kernel)⟩
theorem lw_p79 : lw_okq (⟨"LightAlongModel", "burning", "(II)I"⟩, 52) := ⟨⟨by decide +kernel, by decide +kernel⟩, List.mem_of_getElem? (i := 934) (by decide +kernel), List.mem_of_getElem? (i := 1449) (by decide +kernel), List.mem_of_getElem? (i := 1450) (by decide +kernel)⟩
def lw_privs_5 : List (MethodName × Nat) := [(⟨"LightAlongModel", "of", "(IIIZ)I"⟩, 52), (⟨"LightAlongModel", "given", "(IIII)I"⟩, 52), (⟨"LightAlongModel", "isBetween", "(III)Z"⟩, 52), (⟨"LightAlongModel", "leaves", "(I)I"⟩, 52), (⟨"LightAlongModel", "lights", "(IIIII)V"⟩, 52), (⟨"LightAlongModel", "judged", "()I"⟩, 52), (⟨"LightAlongModel", "isPool", "(I)Z"⟩, 52), (⟨"LightAlongModel", "isSet", "(I)Z"⟩, 52), (⟨"LightAlongModel", "coinOf", "(II)I"⟩, 52), (⟨"LightAlongModel", "told", "(III)I"⟩, 52), (⟨"LightAlongModel", "chosen", "(III)I"⟩, 52), (⟨"LightAlongModel", "singles", "(II)V"⟩, 52), (⟨"LightAlongModel", "faultyBy", "(I)I"⟩, 52), (⟨"LightAlongModel", "isFirm", "(I)Z"⟩, 52), (⟨"LightAlongModel", "intAt", "(II)I"⟩, 52), (⟨"LightAlongModel", "burning", "(II)I"⟩, 52)]
theorem lw_r5 : ∀ q ∈ lw_privs_5, lw_okq q := List.forall_mem_cons.mpr ⟨lw_p64, List.forall_mem_cons.mpr ⟨lw_p65, List.forall_mem_cons.mpr ⟨lw_p66, List.forall_mem_cons.mpr ⟨lw_p67, List.forall_mem_cons.mpr ⟨lw_p68, List.forall_mem_cons.mpr ⟨lw_p69, List.forall_mem_cons.mpr ⟨lw_p70, List.forall_mem_cons.mpr ⟨lw_p71, List.forall_mem_cons.mpr ⟨lw_p72, List.forall_mem_cons.mpr ⟨lw_p73, List.forall_mem_cons.mpr ⟨lw_p74, List.forall_mem_cons.mpr ⟨lw_p75, List.forall_mem_cons.mpr ⟨lw_p76, List.forall_mem_cons.mpr ⟨lw_p77, List.forall_mem_cons.mpr ⟨lw_p78, List.forall_mem_cons.mpr ⟨lw_p79, fun _ h => absurd h List.not_mem_nil⟩⟩⟩⟩⟩⟩⟩⟩⟩⟩⟩⟩⟩⟩⟩⟩
theorem lw_p80 : lw_okq (⟨"LightAlongModel", "body", "(I)V"⟩, 52) := ⟨⟨by decide +kernel, by decide +kernel⟩, List.mem_of_getElem? (i := 934) (by decide +kernel), List.mem_of_getElem? (i := 1453) (by decide +kernel), List.mem_of_getElem? (i := 1454) (by decide +kernel)⟩
theorem lw_p81 : lw_okq (⟨"LightAlongModel", "falling", "(II)I"⟩, 52) := ⟨⟨by decide +kernel, by decide +kernel⟩, List.mem_of_getElem? (i := 934) (by decide +kernel), List.mem_of_getElem? (i := 1457) (by decide +kernel), List.mem_of_getElem? (i := 1458) (by decide +kernel)⟩
theorem lw_p82 : lw_okq (⟨"LightAlongModel", "costing", "(II)I"⟩, 52) := ⟨⟨by decide +kernel, by decide +kernel⟩, List.mem_of_getElem? (i := 934) (by decide +kernel), List.mem_of_getElem? (i := 1461) (by decide +kernel), List.mem_of_getElem? (i := 1462) (by decide +kernel)⟩
theorem lw_p83 : lw_okq (⟨"LightAlongModel", "all", "(Z)V"⟩, 52) := ⟨⟨by decide +kernel, by decide +kernel⟩, List.mem_of_getElem? (i := 934) (by decide +kernel), List.mem_of_getElem? (i := 1473) (by decide +kernel), List.mem_of_getElem? (i := 1474) (by decide +kernel)⟩
theorem lw_p84 : lw_okq (⟨"LightAlongModel", "keeps", "([IIIZ)I"⟩, 52) := ⟨⟨by decide +kernel, by decide +kernel⟩, List.mem_of_getElem? (i := 934) (by decide +kernel), List.mem_of_getElem? (i := 1477) (by decide +kernel), List.mem_of_getElem? (i := 1478) (by decide +kernel)⟩
def lw_privs_6 : List (MethodName × Nat) := [(⟨"LightAlongModel", "body", "(I)V"⟩, 52), (⟨"LightAlongModel", "falling", "(II)I"⟩, 52), (⟨"LightAlongModel", "costing", "(II)I"⟩, 52), (⟨"LightAlongModel", "all", "(Z)V"⟩, 52), (⟨"LightAlongModel", "keeps", "([IIIZ)I"⟩, 52)]
theorem lw_r6 : ∀ q ∈ lw_privs_6, lw_okq q := List.forall_mem_cons.mpr ⟨lw_p80, List.forall_mem_cons.mpr ⟨lw_p81, List.forall_mem_cons.mpr ⟨lw_p82, List.forall_mem_cons.mpr ⟨lw_p83, List.forall_mem_cons.mpr ⟨lw_p84, fun _ h => absurd h List.not_mem_nil⟩⟩⟩⟩⟩
def lw_privs : List (MethodName × Nat) := lw_privs_1 ++ (lw_privs_2 ++ (lw_privs_3 ++ (lw_privs_4 ++ (lw_privs_5 ++ (lw_privs_6)))))
def lw_tbl : List Cond := k2_sels lw_privs ++ tables_1
theorem lw_privs_ok : ∀ q ∈ lw_privs, lw_okq q := by
  show ∀ q ∈ lw_privs_1 ++ (lw_privs_2 ++ (lw_privs_3 ++ (lw_privs_4 ++ (lw_privs_5 ++ (lw_privs_6))))), lw_okq q
  exact List.forall_mem_append.mpr ⟨lw_r1, List.forall_mem_append.mpr ⟨lw_r2, List.forall_mem_append.mpr ⟨lw_r3, List.forall_mem_append.mpr ⟨lw_r4, List.forall_mem_append.mpr ⟨lw_r5, lw_r6⟩⟩⟩⟩⟩
def R_law : String := "LightAlongLaw"
end
section
def RX0 : String := "LightAlong$Acts"
def TX0 : u_T := fun k => match k with
  | 0 => ("LightAlong$Acts", "bodies", "[I", true)
  | 1 => ("LightAlong$Acts", "ran", "I", false)
  | 2 => ("LightAlong$Acts", "kind", "I", false)
  | 3 => ("LightAlong$Acts", "m", "I", false)
  | _ => ("LightAlong$Acts", "k", "I", false)
def tyX0 : Nat → FieldType := fun k => match k with
  | 0 => .array .int
  | 1 => .int
  | 2 => .int
  | 3 => .int
  | _ => .int
abbrev wsX00 : List Cond := u_ws RX0 TX0 5
theorem nmX0 : ∀ a, a < 5 → ∀ b, b < 5 → a ≠ b → (TX0 a).2.1 ≠ (TX0 b).2.1 := by decide +kernel
theorem tyX0_ok : ∀ k, k < 5 → parseFieldDescriptor (TX0 k).2.2.1 = some (tyX0 k) := by decide +kernel
abbrev cX0_init : ByteArray := prog_2_method_1_code
def yX0_init : MethodName := ⟨RX0, "<init>", "()V"⟩
abbrev cX0_forget : ByteArray := prog_2_method_2_code
def yX0_forget : MethodName := ⟨RX0, "forget", "()V"⟩
abbrev cX0_take : ByteArray := prog_2_method_3_code
def yX0_take : MethodName := ⟨RX0, "take", "(III)V"⟩
abbrev cX0_bodyAt : ByteArray := prog_2_method_4_code
def yX0_bodyAt : MethodName := ⟨RX0, "bodyAt", "(I)I"⟩
abbrev cX0_begin : ByteArray := prog_2_method_5_code
def yX0_begin : MethodName := ⟨RX0, "begin", "(I)V"⟩
abbrev cX0_burns : ByteArray := prog_2_method_6_code
def yX0_burns : MethodName := ⟨RX0, "burns", "(I)I"⟩
abbrev cX0_falls : ByteArray := prog_2_method_7_code
def yX0_falls : MethodName := ⟨RX0, "falls", "(I)I"⟩
abbrev cX0_costs : ByteArray := prog_2_method_8_code
def yX0_costs : MethodName := ⟨RX0, "costs", "(I)I"⟩
def RX1 : String := "LightAlong$Choice"
def TX1 : u_T := fun k => match k with
  | 0 => ("LightAlong$Choice", "ofLamp", "[I", true)
  | 1 => ("LightAlong$Choice", "ofShops", "[I", true)
  | 2 => ("LightAlong$Choice", "floor", "[I", true)
  | 3 => ("LightAlong$Choice", "ceiling", "[I", true)
  | 4 => ("LightAlong$Choice", "coins", "[I", true)
  | 5 => ("LightAlong$Choice", "lights", "LLightAlong$Lights;", true)
  | 6 => ("LightAlong$Choice", "points", "I", false)
  | _ => ("LightAlong$Choice", "places", "I", false)
def tyX1 : Nat → FieldType := fun k => match k with
  | 0 => .array .int
  | 1 => .array .int
  | 2 => .array .int
  | 3 => .array .int
  | 4 => .array .int
  | 5 => .object "LightAlong$Lights"
  | 6 => .int
  | _ => .int
abbrev wsX10 : List Cond := u_ws RX1 TX1 8
theorem nmX1 : ∀ a, a < 8 → ∀ b, b < 8 → a ≠ b → (TX1 a).2.1 ≠ (TX1 b).2.1 := by decide +kernel
theorem tyX1_ok : ∀ k, k < 8 → parseFieldDescriptor (TX1 k).2.2.1 = some (tyX1 k) := by decide +kernel
abbrev cX1_init : ByteArray := prog_3_method_1_code
def yX1_init : MethodName := ⟨RX1, "<init>", "()V"⟩
abbrev cX1_prepare : ByteArray := prog_3_method_2_code
def yX1_prepare : MethodName := ⟨RX1, "prepare", "(LLightAlong$Street;II)V"⟩
abbrev cX1_best : ByteArray := prog_3_method_3_code
def yX1_best : MethodName := ⟨RX1, "best", "(LLightAlong$Street;I)I"⟩
abbrev cX1_isBetter : ByteArray := prog_3_method_4_code
def yX1_isBetter : MethodName := ⟨RX1, "isBetter", "(III)Z"⟩
abbrev cX1_coinsOf : ByteArray := prog_3_method_5_code
def yX1_coinsOf : MethodName := ⟨RX1, "coinsOf", "(I)I"⟩
abbrev cX1_isWell : ByteArray := prog_3_method_6_code
def yX1_isWell : MethodName := ⟨RX1, "isWell", "(LLightAlong$Street;I)Z"⟩
abbrev cX1_isFirm : ByteArray := prog_3_method_7_code
def yX1_isFirm : MethodName := ⟨RX1, "isFirm", "(I)Z"⟩
abbrev cX1_isBrightEnough : ByteArray := prog_3_method_8_code
def yX1_isBrightEnough : MethodName := ⟨RX1, "isBrightEnough", "(I)Z"⟩
abbrev cX1_lampsNeeded : ByteArray := prog_3_method_9_code
def yX1_lampsNeeded : MethodName := ⟨RX1, "lampsNeeded", "()I"⟩
abbrev cX1_lampsNeededAt : ByteArray := prog_3_method_10_code
def yX1_lampsNeededAt : MethodName := ⟨RX1, "lampsNeededAt", "(I)I"⟩
abbrev cX1_brightestAside : ByteArray := prog_3_method_11_code
def yX1_brightestAside : MethodName := ⟨RX1, "brightestAside", "(II)I"⟩
def RX2 : String := "LightAlong$Lights"
def TX2 : u_T := fun k => match k with
  | 0 => ("LightAlong$Lights", "isPool", "[Z", true)
  | 1 => ("LightAlong$Lights", "ofLamps", "[I", true)
  | 2 => ("LightAlong$Lights", "light", "[I", true)
  | _ => ("LightAlong$Lights", "points", "I", false)
def tyX2 : Nat → FieldType := fun k => match k with
  | 0 => .array .boolean
  | 1 => .array .int
  | 2 => .array .int
  | _ => .int
abbrev wsX20 : List Cond := u_ws RX2 TX2 4
theorem nmX2 : ∀ a, a < 4 → ∀ b, b < 4 → a ≠ b → (TX2 a).2.1 ≠ (TX2 b).2.1 := by decide +kernel
theorem tyX2_ok : ∀ k, k < 4 → parseFieldDescriptor (TX2 k).2.2.1 = some (tyX2 k) := by decide +kernel
abbrev cX2_init : ByteArray := prog_4_method_1_code
def yX2_init : MethodName := ⟨RX2, "<init>", "()V"⟩
abbrev cX2_measure : ByteArray := prog_4_method_2_code
def yX2_measure : MethodName := ⟨RX2, "measure", "(LLightAlong$Street;)V"⟩
abbrev cX2_shine : ByteArray := prog_4_method_3_code
def yX2_shine : MethodName := ⟨RX2, "shine", "(LLightAlong$Street;IZI)V"⟩
abbrev cX2_addShops : ByteArray := prog_4_method_4_code
def yX2_addShops : MethodName := ⟨RX2, "addShops", "(LLightAlong$Street;I)V"⟩
abbrev cX2_ruleBroken : ByteArray := prog_4_method_5_code
def yX2_ruleBroken : MethodName := ⟨RX2, "ruleBroken", "(LLightAlong$Street;)I"⟩
abbrev cX2_pointAgainst : ByteArray := prog_4_method_6_code
def yX2_pointAgainst : MethodName := ⟨RX2, "pointAgainst", "(LLightAlong$Street;I)I"⟩
abbrev cX2_leastLight : ByteArray := prog_4_method_7_code
def yX2_leastLight : MethodName := ⟨RX2, "leastLight", "()I"⟩
abbrev cX2_firstTooDark : ByteArray := prog_4_method_8_code
def yX2_firstTooDark : MethodName := ⟨RX2, "firstTooDark", "(LLightAlong$Street;)I"⟩
abbrev cX2_firstBrightPool : ByteArray := prog_4_method_9_code
def yX2_firstBrightPool : MethodName := ⟨RX2, "firstBrightPool", "()I"⟩
abbrev cX2_firstUneven : ByteArray := prog_4_method_10_code
def yX2_firstUneven : MethodName := ⟨RX2, "firstUneven", "(LLightAlong$Street;)I"⟩
abbrev cX2_firstBrightWindow : ByteArray := prog_4_method_11_code
def yX2_firstBrightWindow : MethodName := ⟨RX2, "firstBrightWindow", "(LLightAlong$Street;)I"⟩
abbrev cX2_darkest : ByteArray := prog_4_method_12_code
def yX2_darkest : MethodName := ⟨RX2, "darkest", "()I"⟩
def RX3 : String := "LightAlong$Shelf"
def TX3 : u_T := fun k => match k with
  | 0 => ("LightAlong$Shelf", "elements", "[J", true)
  | 1 => ("LightAlong$Shelf", "content", "I", false)
  | 2 => ("LightAlong$Shelf", "size", "I", false)
  | 3 => ("LightAlong$Shelf", "by", "I", false)
  | _ => ("LightAlong$Shelf", "wereThere", "I", false)
def tyX3 : Nat → FieldType := fun k => match k with
  | 0 => .array .long
  | 1 => .int
  | 2 => .int
  | 3 => .int
  | _ => .int
abbrev wsX30 : List Cond := u_ws RX3 TX3 5
theorem nmX3 : ∀ a, a < 5 → ∀ b, b < 5 → a ≠ b → (TX3 a).2.1 ≠ (TX3 b).2.1 := by decide +kernel
theorem tyX3_ok : ∀ k, k < 5 → parseFieldDescriptor (TX3 k).2.2.1 = some (tyX3 k) := by decide +kernel
abbrev cX3_init : ByteArray := prog_5_method_1_code
def yX3_init : MethodName := ⟨RX3, "<init>", "()V"⟩
abbrev cX3_isRow : ByteArray := prog_5_method_2_code
def yX3_isRow : MethodName := ⟨RX3, "isRow", "()Z"⟩
abbrev cX3_isLaying : ByteArray := prog_5_method_3_code
def yX3_isLaying : MethodName := ⟨RX3, "isLaying", "()Z"⟩
abbrev cX3_holdNothing : ByteArray := prog_5_method_4_code
def yX3_holdNothing : MethodName := ⟨RX3, "holdNothing", "()V"⟩
abbrev cX3_holdRow : ByteArray := prog_5_method_5_code
def yX3_holdRow : MethodName := ⟨RX3, "holdRow", "(II)V"⟩
abbrev cX3_holdLaying : ByteArray := prog_5_method_6_code
def yX3_holdLaying : MethodName := ⟨RX3, "holdLaying", "(III)V"⟩
abbrev cX3_has : ByteArray := prog_5_method_7_code
def yX3_has : MethodName := ⟨RX3, "has", "(I)Z"⟩
abbrev cX3_hasRun : ByteArray := prog_5_method_8_code
def yX3_hasRun : MethodName := ⟨RX3, "hasRun", "(II)Z"⟩
abbrev cX3_elementAt : ByteArray := prog_5_method_9_code
def yX3_elementAt : MethodName := ⟨RX3, "elementAt", "(I)J"⟩
abbrev cX3_intAt : ByteArray := prog_5_method_10_code
def yX3_intAt : MethodName := ⟨RX3, "intAt", "(I)I"⟩
abbrev cX3_put : ByteArray := prog_5_method_11_code
def yX3_put : MethodName := ⟨RX3, "put", "(IJ)V"⟩
abbrev cX3_lowestBits : ByteArray := prog_5_method_12_code
def yX3_lowestBits : MethodName := ⟨RX3, "lowestBits", "(J)J"⟩
abbrev cX3_isOfKind : ByteArray := prog_5_method_13_code
def yX3_isOfKind : MethodName := ⟨RX3, "isOfKind", "(I)Z"⟩
abbrev cX3_isHalfAt : ByteArray := prog_5_method_14_code
def yX3_isHalfAt : MethodName := ⟨RX3, "isHalfAt", "(I)Z"⟩
def RX4 : String := "LightAlong$Street"
def TX4 : u_T := fun k => match k with
  | 0 => ("LightAlong$Street", "measures", "[I", true)
  | 1 => ("LightAlong$Street", "sorts", "LLightAlong$Table;", true)
  | 2 => ("LightAlong$Street", "places", "LLightAlong$Table;", true)
  | 3 => ("LightAlong$Street", "trees", "LLightAlong$Table;", true)
  | 4 => ("LightAlong$Street", "walls", "LLightAlong$Table;", true)
  | 5 => ("LightAlong$Street", "windows", "LLightAlong$Table;", true)
  | 6 => ("LightAlong$Street", "shops", "LLightAlong$Table;", true)
  | _ => ("LightAlong$Street", "pools", "LLightAlong$Table;", true)
def tyX4 : Nat → FieldType := fun k => match k with
  | 0 => .array .int
  | 1 => .object "LightAlong$Table"
  | 2 => .object "LightAlong$Table"
  | 3 => .object "LightAlong$Table"
  | 4 => .object "LightAlong$Table"
  | 5 => .object "LightAlong$Table"
  | 6 => .object "LightAlong$Table"
  | _ => .object "LightAlong$Table"
abbrev wsX40 : List Cond := u_ws RX4 TX4 8
theorem nmX4 : ∀ a, a < 8 → ∀ b, b < 8 → a ≠ b → (TX4 a).2.1 ≠ (TX4 b).2.1 := by decide +kernel
theorem tyX4_ok : ∀ k, k < 8 → parseFieldDescriptor (TX4 k).2.2.1 = some (tyX4 k) := by decide +kernel
abbrev cX4_init : ByteArray := prog_6_method_1_code
def yX4_init : MethodName := ⟨RX4, "<init>", "()V"⟩
abbrev cX4_become : ByteArray := prog_6_method_2_code
def yX4_become : MethodName := ⟨RX4, "become", "(LLightAlong$Street;)V"⟩
abbrev cX4_hasRoom : ByteArray := prog_6_method_3_code
def yX4_hasRoom : MethodName := ⟨RX4, "hasRoom", "(I)Z"⟩
abbrev cX4_add : ByteArray := prog_6_method_4_code
def yX4_add : MethodName := ⟨RX4, "add", "(I[I)V"⟩
abbrev cX4_tableOf : ByteArray := prog_6_method_5_code
def yX4_tableOf : MethodName := ⟨RX4, "tableOf", "(I)LLightAlong$Table;"⟩
abbrev cX4_isPool : ByteArray := prog_6_method_6_code
def yX4_isPool : MethodName := ⟨RX4, "isPool", "(I)Z"⟩
abbrev cX4_isSet : ByteArray := prog_6_method_7_code
def yX4_isSet : MethodName := ⟨RX4, "isSet", "(I)Z"⟩
abbrev cX4_hasLamp : ByteArray := prog_6_method_8_code
def yX4_hasLamp : MethodName := ⟨RX4, "hasLamp", "(I)Z"⟩
abbrev cX4_isOut : ByteArray := prog_6_method_9_code
def yX4_isOut : MethodName := ⟨RX4, "isOut", "(I)Z"⟩
abbrev cX4_putLamp : ByteArray := prog_6_method_10_code
def yX4_putLamp : MethodName := ⟨RX4, "putLamp", "(II)V"⟩
abbrev cX4_lampBits : ByteArray := prog_6_method_11_code
def yX4_lampBits : MethodName := ⟨RX4, "lampBits", "()I"⟩
abbrev cX4_burningBits : ByteArray := prog_6_method_12_code
def yX4_burningBits : MethodName := ⟨RX4, "burningBits", "()I"⟩
abbrev cX4_burning : ByteArray := prog_6_method_13_code
def yX4_burning : MethodName := ⟨RX4, "burning", "(LLightAlong$Shelf;)I"⟩
abbrev cX4_bitsOnSide : ByteArray := prog_6_method_14_code
def yX4_bitsOnSide : MethodName := ⟨RX4, "bitsOnSide", "(I)I"⟩
abbrev cX4_bitsInTurn : ByteArray := prog_6_method_15_code
def yX4_bitsInTurn : MethodName := ⟨RX4, "bitsInTurn", "(II)I"⟩
abbrev cX4_bareLight : ByteArray := prog_6_method_16_code
def yX4_bareLight : MethodName := ⟨RX4, "bareLight", "(II)I"⟩
abbrev cX4_given : ByteArray := prog_6_method_17_code
def yX4_given : MethodName := ⟨RX4, "given", "(IIII)I"⟩
abbrev cX4_countBetween : ByteArray := prog_6_method_18_code
def yX4_countBetween : MethodName := ⟨RX4, "countBetween", "(LLightAlong$Table;II)I"⟩
abbrev cX4_ofLamp : ByteArray := prog_6_method_19_code
def yX4_ofLamp : MethodName := ⟨RX4, "ofLamp", "(IZII)I"⟩
abbrev cX4_ofLamps : ByteArray := prog_6_method_20_code
def yX4_ofLamps : MethodName := ⟨RX4, "ofLamps", "(IZII)I"⟩
abbrev cX4_faceOfLamps : ByteArray := prog_6_method_21_code
def yX4_faceOfLamps : MethodName := ⟨RX4, "faceOfLamps", "(IZII)I"⟩
abbrev cX4_brightest : ByteArray := prog_6_method_22_code
def yX4_brightest : MethodName := ⟨RX4, "brightest", "(IZII)I"⟩
abbrev cX4_ofShop : ByteArray := prog_6_method_23_code
def yX4_ofShop : MethodName := ⟨RX4, "ofShop", "(III)I"⟩
abbrev cX4_ofShops : ByteArray := prog_6_method_24_code
def yX4_ofShops : MethodName := ⟨RX4, "ofShops", "(II)I"⟩
abbrev cX4_coinOf : ByteArray := prog_6_method_25_code
def yX4_coinOf : MethodName := ⟨RX4, "coinOf", "(II)I"⟩
abbrev cX4_bulbsAsTheyGo : ByteArray := prog_6_method_26_code
def yX4_bulbsAsTheyGo : MethodName := ⟨RX4, "bulbsAsTheyGo", "(I)I"⟩
abbrev cX4_bulbsTogether : ByteArray := prog_6_method_27_code
def yX4_bulbsTogether : MethodName := ⟨RX4, "bulbsTogether", "(I)I"⟩
def RX5 : String := "LightAlong$StreetText"
def TX5 : u_T := fun k => match k with
  | 0 => ("LightAlong$StreetText", "numbers", "[I", true)
  | 1 => ("LightAlong$StreetText", "reached", "I", false)
  | _ => ("LightAlong$StreetText", "items", "I", false)
def tyX5 : Nat → FieldType := fun k => match k with
  | 0 => .array .int
  | 1 => .int
  | _ => .int
abbrev wsX50 : List Cond := u_ws RX5 TX5 3
theorem nmX5 : ∀ a, a < 3 → ∀ b, b < 3 → a ≠ b → (TX5 a).2.1 ≠ (TX5 b).2.1 := by decide +kernel
theorem tyX5_ok : ∀ k, k < 3 → parseFieldDescriptor (TX5 k).2.2.1 = some (tyX5 k) := by decide +kernel
abbrev cX5_init : ByteArray := prog_7_method_1_code
def yX5_init : MethodName := ⟨RX5, "<init>", "()V"⟩
abbrev cX5_read : ByteArray := prog_7_method_2_code
def yX5_read : MethodName := ⟨RX5, "read", "(LLightAlong$Shelf;LLightAlong$Street;)I"⟩
abbrev cX5_readItem : ByteArray := prog_7_method_3_code
def yX5_readItem : MethodName := ⟨RX5, "readItem", "(LLightAlong$Shelf;LLightAlong$Street;)I"⟩
abbrev cX5_readWord : ByteArray := prog_7_method_4_code
def yX5_readWord : MethodName := ⟨RX5, "readWord", "(LLightAlong$Shelf;)I"⟩
abbrev cX5_sameLetters : ByteArray := prog_7_method_5_code
def yX5_sameLetters : MethodName := ⟨RX5, "sameLetters", "(LLightAlong$Shelf;ILjava/lang/String;)I"⟩
abbrev cX5_readNumber : ByteArray := prog_7_method_6_code
def yX5_readNumber : MethodName := ⟨RX5, "readNumber", "(LLightAlong$Shelf;II)Z"⟩
abbrev cX5_isDigit : ByteArray := prog_7_method_7_code
def yX5_isDigit : MethodName := ⟨RX5, "isDigit", "(I)Z"⟩
def RX6 : String := "LightAlong$Table"
def TX6 : u_T := fun k => match k with
  | 0 => ("LightAlong$Table", "most", "I", true)
  | 1 => ("LightAlong$Table", "numbers", "[I", true)
  | _ => ("LightAlong$Table", "count", "I", false)
def tyX6 : Nat → FieldType := fun k => match k with
  | 0 => .int
  | 1 => .array .int
  | _ => .int
abbrev wsX60 : List Cond := u_ws RX6 TX6 3
theorem nmX6 : ∀ a, a < 3 → ∀ b, b < 3 → a ≠ b → (TX6 a).2.1 ≠ (TX6 b).2.1 := by decide +kernel
theorem tyX6_ok : ∀ k, k < 3 → parseFieldDescriptor (TX6 k).2.2.1 = some (tyX6 k) := by decide +kernel
abbrev cX6_init : ByteArray := prog_8_method_1_code
def yX6_init : MethodName := ⟨RX6, "<init>", "(I)V"⟩
abbrev cX6_isFull : ByteArray := prog_8_method_2_code
def yX6_isFull : MethodName := ⟨RX6, "isFull", "()Z"⟩
abbrev cX6_has : ByteArray := prog_8_method_3_code
def yX6_has : MethodName := ⟨RX6, "has", "(I)Z"⟩
abbrev cX6_number : ByteArray := prog_8_method_4_code
def yX6_number : MethodName := ⟨RX6, "number", "(II)I"⟩
abbrev cX6_change : ByteArray := prog_8_method_5_code
def yX6_change : MethodName := ⟨RX6, "change", "(III)V"⟩
abbrev cX6_add : ByteArray := prog_8_method_6_code
def yX6_add : MethodName := ⟨RX6, "add", "(IIII)I"⟩
abbrev cX6_become : ByteArray := prog_8_method_7_code
def yX6_become : MethodName := ⟨RX6, "become", "(LLightAlong$Table;)V"⟩
def RX7 : String := "LightAlong"
def TX7 : u_T := fun k => match k with
  | 0 => ("LightAlong", "now", "LLightAlong$Street;", true)
  | 1 => ("LightAlong", "draft", "LLightAlong$Street;", true)
  | 2 => ("LightAlong", "kept", "LLightAlong$Street;", true)
  | 3 => ("LightAlong", "imageTaken", "Z", false)
  | 4 => ("LightAlong", "shelves", "[LLightAlong$Shelf;", true)
  | 5 => ("LightAlong", "text", "LLightAlong$StreetText;", true)
  | 6 => ("LightAlong", "lights", "LLightAlong$Lights;", true)
  | 7 => ("LightAlong", "choice", "LLightAlong$Choice;", true)
  | 8 => ("LightAlong", "acts", "LLightAlong$Acts;", true)
  | 9 => ("LightAlong", "refusals", "[I", true)
  | _ => ("LightAlong", "latestFault", "I", false)
def tyX7 : Nat → FieldType := fun k => match k with
  | 0 => .object "LightAlong$Street"
  | 1 => .object "LightAlong$Street"
  | 2 => .object "LightAlong$Street"
  | 3 => .boolean
  | 4 => .array (.object "LightAlong$Shelf")
  | 5 => .object "LightAlong$StreetText"
  | 6 => .object "LightAlong$Lights"
  | 7 => .object "LightAlong$Choice"
  | 8 => .object "LightAlong$Acts"
  | 9 => .array .int
  | _ => .int
abbrev wsX70 : List Cond := u_ws RX7 TX7 11
theorem nmX7 : ∀ a, a < 11 → ∀ b, b < 11 → a ≠ b → (TX7 a).2.1 ≠ (TX7 b).2.1 := by decide +kernel
theorem tyX7_ok : ∀ k, k < 11 → parseFieldDescriptor (TX7 k).2.2.1 = some (tyX7 k) := by decide +kernel
abbrev cX7_init : ByteArray := prog_1_method_1_code
def yX7_init : MethodName := ⟨RX7, "<init>", "()V"⟩
abbrev cX7_row : ByteArray := prog_1_method_2_code
def yX7_row : MethodName := ⟨RX7, "row", "(III)I"⟩
abbrev cX7_set : ByteArray := prog_1_method_3_code
def yX7_set : MethodName := ⟨RX7, "set", "(IIJ)I"⟩
abbrev cX7_copy : ByteArray := prog_1_method_4_code
def yX7_copy : MethodName := ⟨RX7, "copy", "(IIIII)I"⟩
abbrev cX7_element : ByteArray := prog_1_method_5_code
def yX7_element : MethodName := ⟨RX7, "element", "(II)J"⟩
abbrev cX7_laying : ByteArray := prog_1_method_6_code
def yX7_laying : MethodName := ⟨RX7, "laying", "(III)I"⟩
abbrev cX7_holds : ByteArray := prog_1_method_7_code
def yX7_holds : MethodName := ⟨RX7, "holds", "(I)I"⟩
abbrev cX7_says : ByteArray := prog_1_method_8_code
def yX7_says : MethodName := ⟨RX7, "says", "(II)I"⟩
abbrev cX7_sort : ByteArray := prog_1_method_9_code
def yX7_sort : MethodName := ⟨RX7, "sort", "(IIII)I"⟩
abbrev cX7_place : ByteArray := prog_1_method_10_code
def yX7_place : MethodName := ⟨RX7, "place", "(II)I"⟩
abbrev cX7_stand : ByteArray := prog_1_method_11_code
def yX7_stand : MethodName := ⟨RX7, "stand", "(II)I"⟩
abbrev cX7_window : ByteArray := prog_1_method_12_code
def yX7_window : MethodName := ⟨RX7, "window", "(II)I"⟩
abbrev cX7_shop : ByteArray := prog_1_method_13_code
def yX7_shop : MethodName := ⟨RX7, "shop", "(III)I"⟩
abbrev cX7_ask : ByteArray := prog_1_method_14_code
def yX7_ask : MethodName := ⟨RX7, "ask", "(II)I"⟩
abbrev cX7_street : ByteArray := prog_1_method_15_code
def yX7_street : MethodName := ⟨RX7, "street", "(I)I"⟩
abbrev cX7_fault : ByteArray := prog_1_method_16_code
def yX7_fault : MethodName := ⟨RX7, "fault", "()I"⟩
abbrev cX7_sortOf : ByteArray := prog_1_method_17_code
def yX7_sortOf : MethodName := ⟨RX7, "sortOf", "(II)I"⟩
abbrev cX7_placeOf : ByteArray := prog_1_method_18_code
def yX7_placeOf : MethodName := ⟨RX7, "placeOf", "(II)I"⟩
abbrev cX7_lamp : ByteArray := prog_1_method_19_code
def yX7_lamp : MethodName := ⟨RX7, "lamp", "(II)I"⟩
abbrev cX7_out : ByteArray := prog_1_method_20_code
def yX7_out : MethodName := ⟨RX7, "out", "(IZ)I"⟩
abbrev cX7_light : ByteArray := prog_1_method_21_code
def yX7_light : MethodName := ⟨RX7, "light", "(IIII)I"⟩
abbrev cX7_face : ByteArray := prog_1_method_22_code
def yX7_face : MethodName := ⟨RX7, "face", "(IIII)I"⟩
abbrev cX7_faulty : ByteArray := prog_1_method_23_code
def yX7_faulty : MethodName := ⟨RX7, "faulty", "(III)I"⟩
abbrev cX7_dark : ByteArray := prog_1_method_24_code
def yX7_dark : MethodName := ⟨RX7, "dark", "(III)I"⟩
abbrev cX7_coin : ByteArray := prog_1_method_25_code
def yX7_coin : MethodName := ⟨RX7, "coin", "(II)I"⟩
abbrev cX7_cheapest : ByteArray := prog_1_method_26_code
def yX7_cheapest : MethodName := ⟨RX7, "cheapest", "(II)I"⟩
abbrev cX7_fewest : ByteArray := prog_1_method_27_code
def yX7_fewest : MethodName := ⟨RX7, "fewest", "(II)I"⟩
abbrev cX7_firm : ByteArray := prog_1_method_28_code
def yX7_firm : MethodName := ⟨RX7, "firm", "(II)I"⟩
abbrev cX7_bound : ByteArray := prog_1_method_29_code
def yX7_bound : MethodName := ⟨RX7, "bound", "(II)I"⟩
abbrev cX7_which : ByteArray := prog_1_method_30_code
def yX7_which : MethodName := ⟨RX7, "which", "(I)I"⟩
abbrev cX7_reach : ByteArray := prog_1_method_31_code
def yX7_reach : MethodName := ⟨RX7, "reach", "(I)I"⟩
abbrev cX7_worst : ByteArray := prog_1_method_32_code
def yX7_worst : MethodName := ⟨RX7, "worst", "()I"⟩
abbrev cX7_shade : ByteArray := prog_1_method_33_code
def yX7_shade : MethodName := ⟨RX7, "shade", "(III)I"⟩
abbrev cX7_spill : ByteArray := prog_1_method_34_code
def yX7_spill : MethodName := ⟨RX7, "spill", "(II)I"⟩
abbrev cX7_dim : ByteArray := prog_1_method_35_code
def yX7_dim : MethodName := ⟨RX7, "dim", "(I)I"⟩
abbrev cX7_bulbs : ByteArray := prog_1_method_36_code
def yX7_bulbs : MethodName := ⟨RX7, "bulbs", "(IZ)I"⟩
abbrev cX7_moved : ByteArray := prog_1_method_37_code
def yX7_moved : MethodName := ⟨RX7, "moved", "(II)I"⟩
abbrev cX7_lay : ByteArray := prog_1_method_38_code
def yX7_lay : MethodName := ⟨RX7, "lay", "(II)I"⟩
abbrev cX7_judge : ByteArray := prog_1_method_39_code
def yX7_judge : MethodName := ⟨RX7, "judge", "(III)I"⟩
abbrev cX7_act : ByteArray := prog_1_method_40_code
def yX7_act : MethodName := ⟨RX7, "act", "(III)I"⟩
abbrev cX7_trace : ByteArray := prog_1_method_41_code
def yX7_trace : MethodName := ⟨RX7, "trace", "(I)I"⟩
abbrev cX7_image : ByteArray := prog_1_method_42_code
def yX7_image : MethodName := ⟨RX7, "image", "()I"⟩
abbrev cX7_restore : ByteArray := prog_1_method_43_code
def yX7_restore : MethodName := ⟨RX7, "restore", "()I"⟩
abbrev cX7_status : ByteArray := prog_1_method_44_code
def yX7_status : MethodName := ⟨RX7, "status", "(I)I"⟩
abbrev cX7_refuse : ByteArray := prog_1_method_45_code
def yX7_refuse : MethodName := ⟨RX7, "refuse", "(I)I"⟩
abbrev cX7_refuseApart : ByteArray := prog_1_method_46_code
def yX7_refuseApart : MethodName := ⟨RX7, "refuseApart", "(I)I"⟩
abbrev cX7_hindranceOfRow : ByteArray := prog_1_method_47_code
def yX7_hindranceOfRow : MethodName := ⟨RX7, "hindranceOfRow", "(I)I"⟩
abbrev cX7_hindranceOfLaying : ByteArray := prog_1_method_48_code
def yX7_hindranceOfLaying : MethodName := ⟨RX7, "hindranceOfLaying", "(I)I"⟩
abbrev cX7_hindranceOfLight : ByteArray := prog_1_method_49_code
def yX7_hindranceOfLight : MethodName := ⟨RX7, "hindranceOfLight", "(IZZ)I"⟩
abbrev cX7_chosen : ByteArray := prog_1_method_50_code
def yX7_chosen : MethodName := ⟨RX7, "chosen", "(III)I"⟩
abbrev cX7_lightAt : ByteArray := prog_1_method_51_code
def yX7_lightAt : MethodName := ⟨RX7, "lightAt", "(LLightAlong$Shelf;III)I"⟩
abbrev cX7_brokenRule : ByteArray := prog_1_method_52_code
def yX7_brokenRule : MethodName := ⟨RX7, "brokenRule", "(LLightAlong$Shelf;II)I"⟩
abbrev cX7_isShelf : ByteArray := prog_1_method_53_code
def yX7_isShelf : MethodName := ⟨RX7, "isShelf", "(I)Z"⟩
abbrev cX7_isPoint : ByteArray := prog_1_method_54_code
def yX7_isPoint : MethodName := ⟨RX7, "isPoint", "(I)Z"⟩
abbrev cX7_isMonth : ByteArray := prog_1_method_55_code
def yX7_isMonth : MethodName := ⟨RX7, "isMonth", "(I)Z"⟩
abbrev cX7_isHour : ByteArray := prog_1_method_56_code
def yX7_isHour : MethodName := ⟨RX7, "isHour", "(I)Z"⟩
abbrev cX7_isIn : ByteArray := prog_1_method_57_code
def yX7_isIn : MethodName := ⟨RX7, "isIn", "(II)Z"⟩
abbrev cX7_yardOf : ByteArray := prog_1_method_58_code
def yX7_yardOf : MethodName := ⟨RX7, "yardOf", "(I)I"⟩
abbrev cX7_sideOf : ByteArray := prog_1_method_59_code
def yX7_sideOf : MethodName := ⟨RX7, "sideOf", "(I)I"⟩
abbrev cX7_mayBe : ByteArray := prog_1_method_60_code
def yX7_mayBe : MethodName := ⟨RX7, "mayBe", "(III)Z"⟩
abbrev cX7_mayBeBy : ByteArray := prog_1_method_61_code
def yX7_mayBeBy : MethodName := ⟨RX7, "mayBeBy", "(II)Z"⟩
abbrev cX7_wordOf : ByteArray := prog_1_method_62_code
def yX7_wordOf : MethodName := ⟨RX7, "wordOf", "(I)Ljava/lang/String;"⟩
def RX8 : String := "LightAlongModel"
def TX8 : u_T := fun k => match k with
  | 0 => ("LightAlongModel", "sorts", "I", false)
  | 1 => ("LightAlongModel", "places", "I", false)
  | 2 => ("LightAlongModel", "trees", "I", false)
  | 3 => ("LightAlongModel", "walls", "I", false)
  | 4 => ("LightAlongModel", "windows", "I", false)
  | 5 => ("LightAlongModel", "shops", "I", false)
  | 6 => ("LightAlongModel", "pools", "I", false)
  | 7 => ("LightAlongModel", "least", "I", false)
  | 8 => ("LightAlongModel", "even", "I", false)
  | 9 => ("LightAlongModel", "wide", "I", false)
  | 10 => ("LightAlongModel", "reaches", "I", false)
  | 11 => ("LightAlongModel", "fault", "I", false)
  | 12 => ("LightAlongModel", "refused", "[I", true)
  | 13 => ("LightAlongModel", "height", "[I", true)
  | 14 => ("LightAlongModel", "power", "[I", true)
  | 15 => ("LightAlongModel", "coin", "[I", true)
  | 16 => ("LightAlongModel", "life", "[I", true)
  | 17 => ("LightAlongModel", "at", "[I", true)
  | 18 => ("LightAlongModel", "wire", "[I", true)
  | 19 => ("LightAlongModel", "lamp", "[I", true)
  | 20 => ("LightAlongModel", "out", "[I", true)
  | 21 => ("LightAlongModel", "tree", "[I", true)
  | 22 => ("LightAlongModel", "wall", "[I", true)
  | 23 => ("LightAlongModel", "window", "[I", true)
  | 24 => ("LightAlongModel", "bar", "[I", true)
  | 25 => ("LightAlongModel", "shop", "[I", true)
  | 26 => ("LightAlongModel", "gives", "[I", true)
  | 27 => ("LightAlongModel", "till", "[I", true)
  | 28 => ("LightAlongModel", "pool", "[I", true)
  | 29 => ("LightAlongModel", "held", "[I", true)
  | 30 => ("LightAlongModel", "sort", "[I", true)
  | 31 => ("LightAlongModel", "size", "[I", true)
  | 32 => ("LightAlongModel", "shown", "[I", true)
  | 33 => ("LightAlongModel", "by", "[I", true)
  | 34 => ("LightAlongModel", "cells", "[J", true)
  | 35 => ("LightAlongModel", "carried", "[J", true)
  | 36 => ("LightAlongModel", "words", "[I", true)
  | 37 => ("LightAlongModel", "base", "I", false)
  | 38 => ("LightAlongModel", "place", "I", false)
  | 39 => ("LightAlongModel", "end", "I", false)
  | 40 => ("LightAlongModel", "told", "I", false)
  | 41 => ("LightAlongModel", "wrongAt", "I", false)
  | 42 => ("LightAlongModel", "was", "[I", true)
  | 43 => ("LightAlongModel", "kept", "[I", true)
  | 44 => ("LightAlongModel", "lit", "[I", true)
  | 45 => ("LightAlongModel", "darkAt", "I", false)
  | 46 => ("LightAlongModel", "single", "[I", true)
  | 47 => ("LightAlongModel", "shopLight", "[I", true)
  | 48 => ("LightAlongModel", "trace", "[I", true)
  | 49 => ("LightAlongModel", "ran", "I", false)
  | 50 => ("LightAlongModel", "iCounts", "[I", true)
  | _ => ("LightAlongModel", "isKept", "Z", false)
def tyX8 : Nat → FieldType := fun k => match k with
  | 0 => .int
  | 1 => .int
  | 2 => .int
  | 3 => .int
  | 4 => .int
  | 5 => .int
  | 6 => .int
  | 7 => .int
  | 8 => .int
  | 9 => .int
  | 10 => .int
  | 11 => .int
  | 12 => .array .int
  | 13 => .array .int
  | 14 => .array .int
  | 15 => .array .int
  | 16 => .array .int
  | 17 => .array .int
  | 18 => .array .int
  | 19 => .array .int
  | 20 => .array .int
  | 21 => .array .int
  | 22 => .array .int
  | 23 => .array .int
  | 24 => .array .int
  | 25 => .array .int
  | 26 => .array .int
  | 27 => .array .int
  | 28 => .array .int
  | 29 => .array .int
  | 30 => .array .int
  | 31 => .array .int
  | 32 => .array .int
  | 33 => .array .int
  | 34 => .array .long
  | 35 => .array .long
  | 36 => .array .int
  | 37 => .int
  | 38 => .int
  | 39 => .int
  | 40 => .int
  | 41 => .int
  | 42 => .array .int
  | 43 => .array .int
  | 44 => .array .int
  | 45 => .int
  | 46 => .array .int
  | 47 => .array .int
  | 48 => .array .int
  | 49 => .int
  | 50 => .array .int
  | _ => .boolean
abbrev wsX80 : List Cond := u_ws RX8 TX8 52
theorem nmX8 : ∀ a, a < 52 → ∀ b, b < 52 → a ≠ b → (TX8 a).2.1 ≠ (TX8 b).2.1 := by decide +kernel
theorem tyX8_ok : ∀ k, k < 52 → parseFieldDescriptor (TX8 k).2.2.1 = some (tyX8 k) := by decide +kernel
abbrev cX8_init : ByteArray := prog_10_method_1_code
def yX8_init : MethodName := ⟨RX8, "<init>", "()V"⟩
abbrev cX8_no : ByteArray := prog_10_method_2_code
def yX8_no : MethodName := ⟨RX8, "no", "(I)I"⟩
abbrev cX8_noTen : ByteArray := prog_10_method_3_code
def yX8_noTen : MethodName := ⟨RX8, "noTen", "(I)I"⟩
abbrev cX8_isShelf : ByteArray := prog_10_method_4_code
def yX8_isShelf : MethodName := ⟨RX8, "isShelf", "(I)Z"⟩
abbrev cX8_isPoint : ByteArray := prog_10_method_5_code
def yX8_isPoint : MethodName := ⟨RX8, "isPoint", "(I)Z"⟩
abbrev cX8_isSort : ByteArray := prog_10_method_6_code
def yX8_isSort : MethodName := ⟨RX8, "isSort", "(I)Z"⟩
abbrev cX8_isPlace : ByteArray := prog_10_method_7_code
def yX8_isPlace : MethodName := ⟨RX8, "isPlace", "(I)Z"⟩
abbrev cX8_isSet : ByteArray := prog_10_method_8_code
def yX8_isSet : MethodName := ⟨RX8, "isSet", "(I)Z"⟩
abbrev cX8_isHour : ByteArray := prog_10_method_9_code
def yX8_isHour : MethodName := ⟨RX8, "isHour", "(I)Z"⟩
abbrev cX8_row : ByteArray := prog_10_method_10_code
def yX8_row : MethodName := ⟨RX8, "row", "(III)I"⟩
abbrev cX8_set : ByteArray := prog_10_method_11_code
def yX8_set : MethodName := ⟨RX8, "set", "(IIJ)I"⟩
abbrev cX8_copy : ByteArray := prog_10_method_12_code
def yX8_copy : MethodName := ⟨RX8, "copy", "(IIIII)I"⟩
abbrev cX8_element : ByteArray := prog_10_method_13_code
def yX8_element : MethodName := ⟨RX8, "element", "(II)J"⟩
abbrev cX8_laying : ByteArray := prog_10_method_14_code
def yX8_laying : MethodName := ⟨RX8, "laying", "(III)I"⟩
abbrev cX8_holds : ByteArray := prog_10_method_15_code
def yX8_holds : MethodName := ⟨RX8, "holds", "(I)I"⟩
abbrev cX8_isUnder : ByteArray := prog_10_method_16_code
def yX8_isUnder : MethodName := ⟨RX8, "isUnder", "(II)Z"⟩
abbrev cX8_says : ByteArray := prog_10_method_17_code
def yX8_says : MethodName := ⟨RX8, "says", "(II)I"⟩
abbrev cX8_bits : ByteArray := prog_10_method_18_code
def yX8_bits : MethodName := ⟨RX8, "bits", "(I)I"⟩
abbrev cX8_wants : ByteArray := prog_10_method_19_code
def yX8_wants : MethodName := ⟨RX8, "wants", "(II)I"⟩
abbrev cX8_intAt : ByteArray := prog_10_method_20_code
def yX8_intAt : MethodName := ⟨RX8, "intAt", "(II)I"⟩
abbrev cX8_isLamp : ByteArray := prog_10_method_21_code
def yX8_isLamp : MethodName := ⟨RX8, "isLamp", "(IIII)Z"⟩
abbrev cX8_sorts : ByteArray := prog_10_method_22_code
def yX8_sorts : MethodName := ⟨RX8, "sorts", "(IIII)I"⟩
abbrev cX8_sort : ByteArray := prog_10_method_23_code
def yX8_sort : MethodName := ⟨RX8, "sort", "(IIII)I"⟩
abbrev cX8_places : ByteArray := prog_10_method_24_code
def yX8_places : MethodName := ⟨RX8, "places", "(II)I"⟩
abbrev cX8_place : ByteArray := prog_10_method_25_code
def yX8_place : MethodName := ⟨RX8, "place", "(II)I"⟩
abbrev cX8_isFull : ByteArray := prog_10_method_26_code
def yX8_isFull : MethodName := ⟨RX8, "isFull", "(I)Z"⟩
abbrev cX8_stands : ByteArray := prog_10_method_27_code
def yX8_stands : MethodName := ⟨RX8, "stands", "(II)I"⟩
abbrev cX8_stand : ByteArray := prog_10_method_28_code
def yX8_stand : MethodName := ⟨RX8, "stand", "(II)I"⟩
abbrev cX8_windows : ByteArray := prog_10_method_29_code
def yX8_windows : MethodName := ⟨RX8, "windows", "(II)I"⟩
abbrev cX8_window : ByteArray := prog_10_method_30_code
def yX8_window : MethodName := ⟨RX8, "window", "(II)I"⟩
abbrev cX8_shops : ByteArray := prog_10_method_31_code
def yX8_shops : MethodName := ⟨RX8, "shops", "(III)I"⟩
abbrev cX8_shop : ByteArray := prog_10_method_32_code
def yX8_shop : MethodName := ⟨RX8, "shop", "(III)I"⟩
abbrev cX8_isAsked : ByteArray := prog_10_method_33_code
def yX8_isAsked : MethodName := ⟨RX8, "isAsked", "(II)Z"⟩
abbrev cX8_asks : ByteArray := prog_10_method_34_code
def yX8_asks : MethodName := ⟨RX8, "asks", "(II)I"⟩
abbrev cX8_ask : ByteArray := prog_10_method_35_code
def yX8_ask : MethodName := ⟨RX8, "ask", "(II)I"⟩
abbrev cX8_wrong : ByteArray := prog_10_method_36_code
def yX8_wrong : MethodName := ⟨RX8, "wrong", "(I)Z"⟩
abbrev cX8_word : ByteArray := prog_10_method_37_code
def yX8_word : MethodName := ⟨RX8, "word", "()I"⟩
abbrev cX8_isDigit : ByteArray := prog_10_method_38_code
def yX8_isDigit : MethodName := ⟨RX8, "isDigit", "()Z"⟩
abbrev cX8_number : ByteArray := prog_10_method_39_code
def yX8_number : MethodName := ⟨RX8, "number", "(II)Z"⟩
abbrev cX8_next : ByteArray := prog_10_method_40_code
def yX8_next : MethodName := ⟨RX8, "next", "(II)Z"⟩
abbrev cX8_isWordFull : ByteArray := prog_10_method_41_code
def yX8_isWordFull : MethodName := ⟨RX8, "isWordFull", "(I)Z"⟩
abbrev cX8_isWordAt : ByteArray := prog_10_method_42_code
def yX8_isWordAt : MethodName := ⟨RX8, "isWordAt", "(I)Z"⟩
abbrev cX8_item : ByteArray := prog_10_method_43_code
def yX8_item : MethodName := ⟨RX8, "item", "()Z"⟩
abbrev cX8_counts : ByteArray := prog_10_method_44_code
def yX8_counts : MethodName := ⟨RX8, "counts", "([IZ)V"⟩
abbrev cX8_street : ByteArray := prog_10_method_45_code
def yX8_street : MethodName := ⟨RX8, "street", "(I)I"⟩
abbrev cX8_fault : ByteArray := prog_10_method_46_code
def yX8_fault : MethodName := ⟨RX8, "fault", "()I"⟩
abbrev cX8_sortOf : ByteArray := prog_10_method_47_code
def yX8_sortOf : MethodName := ⟨RX8, "sortOf", "(II)I"⟩
abbrev cX8_placeOf : ByteArray := prog_10_method_48_code
def yX8_placeOf : MethodName := ⟨RX8, "placeOf", "(II)I"⟩
abbrev cX8_lamp : ByteArray := prog_10_method_49_code
def yX8_lamp : MethodName := ⟨RX8, "lamp", "(II)I"⟩
abbrev cX8_out : ByteArray := prog_10_method_50_code
def yX8_out : MethodName := ⟨RX8, "out", "(IZ)I"⟩
abbrev cX8_lamps : ByteArray := prog_10_method_51_code
def yX8_lamps : MethodName := ⟨RX8, "lamps", "()I"⟩
abbrev cX8_leaves : ByteArray := prog_10_method_52_code
def yX8_leaves : MethodName := ⟨RX8, "leaves", "(I)I"⟩
abbrev cX8_isBetween : ByteArray := prog_10_method_53_code
def yX8_isBetween : MethodName := ⟨RX8, "isBetween", "(III)Z"⟩
abbrev cX8_given : ByteArray := prog_10_method_54_code
def yX8_given : MethodName := ⟨RX8, "given", "(IIII)I"⟩
abbrev cX8_burns : ByteArray := prog_10_method_55_code
def yX8_burns : MethodName := ⟨RX8, "burns", "(III)I"⟩
abbrev cX8_shopsAt : ByteArray := prog_10_method_56_code
def yX8_shopsAt : MethodName := ⟨RX8, "shopsAt", "(II)I"⟩
abbrev cX8_shopAt : ByteArray := prog_10_method_57_code
def yX8_shopAt : MethodName := ⟨RX8, "shopAt", "(II)I"⟩
abbrev cX8_of : ByteArray := prog_10_method_58_code
def yX8_of : MethodName := ⟨RX8, "of", "(IIIZ)I"⟩
abbrev cX8_lightOf : ByteArray := prog_10_method_59_code
def yX8_lightOf : MethodName := ⟨RX8, "lightOf", "(IIIIII)I"⟩
abbrev cX8_lightBy : ByteArray := prog_10_method_60_code
def yX8_lightBy : MethodName := ⟨RX8, "lightBy", "(IIII)I"⟩
abbrev cX8_light : ByteArray := prog_10_method_61_code
def yX8_light : MethodName := ⟨RX8, "light", "(IIII)I"⟩
abbrev cX8_face : ByteArray := prog_10_method_62_code
def yX8_face : MethodName := ⟨RX8, "face", "(IIII)I"⟩
abbrev cX8_isPool : ByteArray := prog_10_method_63_code
def yX8_isPool : MethodName := ⟨RX8, "isPool", "(I)Z"⟩
abbrev cX8_judged : ByteArray := prog_10_method_64_code
def yX8_judged : MethodName := ⟨RX8, "judged", "()I"⟩
abbrev cX8_lights : ByteArray := prog_10_method_65_code
def yX8_lights : MethodName := ⟨RX8, "lights", "(IIIII)V"⟩
abbrev cX8_faulty : ByteArray := prog_10_method_66_code
def yX8_faulty : MethodName := ⟨RX8, "faulty", "(III)I"⟩
abbrev cX8_dark : ByteArray := prog_10_method_67_code
def yX8_dark : MethodName := ⟨RX8, "dark", "(III)I"⟩
abbrev cX8_coinOf : ByteArray := prog_10_method_68_code
def yX8_coinOf : MethodName := ⟨RX8, "coinOf", "(II)I"⟩
abbrev cX8_coin : ByteArray := prog_10_method_69_code
def yX8_coin : MethodName := ⟨RX8, "coin", "(II)I"⟩
abbrev cX8_singles : ByteArray := prog_10_method_70_code
def yX8_singles : MethodName := ⟨RX8, "singles", "(II)V"⟩
abbrev cX8_faultyBy : ByteArray := prog_10_method_71_code
def yX8_faultyBy : MethodName := ⟨RX8, "faultyBy", "(I)I"⟩
abbrev cX8_isFirm : ByteArray := prog_10_method_72_code
def yX8_isFirm : MethodName := ⟨RX8, "isFirm", "(I)Z"⟩
abbrev cX8_chosen : ByteArray := prog_10_method_73_code
def yX8_chosen : MethodName := ⟨RX8, "chosen", "(III)I"⟩
abbrev cX8_told : ByteArray := prog_10_method_74_code
def yX8_told : MethodName := ⟨RX8, "told", "(III)I"⟩
abbrev cX8_cheapest : ByteArray := prog_10_method_75_code
def yX8_cheapest : MethodName := ⟨RX8, "cheapest", "(II)I"⟩
abbrev cX8_fewest : ByteArray := prog_10_method_76_code
def yX8_fewest : MethodName := ⟨RX8, "fewest", "(II)I"⟩
abbrev cX8_firm : ByteArray := prog_10_method_77_code
def yX8_firm : MethodName := ⟨RX8, "firm", "(II)I"⟩
abbrev cX8_bound : ByteArray := prog_10_method_78_code
def yX8_bound : MethodName := ⟨RX8, "bound", "(II)I"⟩
abbrev cX8_which : ByteArray := prog_10_method_79_code
def yX8_which : MethodName := ⟨RX8, "which", "(I)I"⟩
abbrev cX8_reach : ByteArray := prog_10_method_80_code
def yX8_reach : MethodName := ⟨RX8, "reach", "(I)I"⟩
abbrev cX8_worst : ByteArray := prog_10_method_81_code
def yX8_worst : MethodName := ⟨RX8, "worst", "()I"⟩
abbrev cX8_shade : ByteArray := prog_10_method_82_code
def yX8_shade : MethodName := ⟨RX8, "shade", "(III)I"⟩
abbrev cX8_spill : ByteArray := prog_10_method_83_code
def yX8_spill : MethodName := ⟨RX8, "spill", "(II)I"⟩
abbrev cX8_dim : ByteArray := prog_10_method_84_code
def yX8_dim : MethodName := ⟨RX8, "dim", "(I)I"⟩
abbrev cX8_bulbs : ByteArray := prog_10_method_85_code
def yX8_bulbs : MethodName := ⟨RX8, "bulbs", "(IZ)I"⟩
abbrev cX8_moved : ByteArray := prog_10_method_86_code
def yX8_moved : MethodName := ⟨RX8, "moved", "(II)I"⟩
abbrev cX8_lay : ByteArray := prog_10_method_87_code
def yX8_lay : MethodName := ⟨RX8, "lay", "(II)I"⟩
abbrev cX8_judge : ByteArray := prog_10_method_88_code
def yX8_judge : MethodName := ⟨RX8, "judge", "(III)I"⟩
abbrev cX8_body : ByteArray := prog_10_method_89_code
def yX8_body : MethodName := ⟨RX8, "body", "(I)V"⟩
abbrev cX8_burning : ByteArray := prog_10_method_90_code
def yX8_burning : MethodName := ⟨RX8, "burning", "(II)I"⟩
abbrev cX8_falling : ByteArray := prog_10_method_91_code
def yX8_falling : MethodName := ⟨RX8, "falling", "(II)I"⟩
abbrev cX8_costing : ByteArray := prog_10_method_92_code
def yX8_costing : MethodName := ⟨RX8, "costing", "(II)I"⟩
abbrev cX8_act : ByteArray := prog_10_method_93_code
def yX8_act : MethodName := ⟨RX8, "act", "(III)I"⟩
abbrev cX8_trace : ByteArray := prog_10_method_94_code
def yX8_trace : MethodName := ⟨RX8, "trace", "(I)I"⟩
abbrev cX8_keeps : ByteArray := prog_10_method_95_code
def yX8_keeps : MethodName := ⟨RX8, "keeps", "([IIIZ)I"⟩
abbrev cX8_all : ByteArray := prog_10_method_96_code
def yX8_all : MethodName := ⟨RX8, "all", "(Z)V"⟩
abbrev cX8_image : ByteArray := prog_10_method_97_code
def yX8_image : MethodName := ⟨RX8, "image", "()I"⟩
abbrev cX8_restore : ByteArray := prog_10_method_98_code
def yX8_restore : MethodName := ⟨RX8, "restore", "()I"⟩
abbrev cX8_status : ByteArray := prog_10_method_99_code
def yX8_status : MethodName := ⟨RX8, "status", "(I)I"⟩
def RJ6 : String := "java/lang/Integer"
abbrev cJ6_bitCount_0f7a4 : ByteArray := prog_11_method_49_code
def yJ6_bitCount_0f7a4 : MethodName := ⟨RJ6, "bitCount", "(I)I"⟩
def RJ9 : String := "java/lang/Math"
abbrev cJ9_abs_0f7a4 : ByteArray := prog_12_method_59_code
def yJ9_abs_0f7a4 : MethodName := ⟨RJ9, "abs", "(I)I"⟩
abbrev cJ9_max_7cf53 : ByteArray := prog_12_method_65_code
def yJ9_max_7cf53 : MethodName := ⟨RJ9, "max", "(II)I"⟩
abbrev cJ9_min_7cf53 : ByteArray := prog_12_method_69_code
def yJ9_min_7cf53 : MethodName := ⟨RJ9, "min", "(II)I"⟩
def RJ0 : String := "java/lang/String"
abbrev cJ0_length_8abf5 : ByteArray := prog_13_method_54_code
def yJ0_length_8abf5 : MethodName := ⟨RJ0, "length", "()I"⟩
abbrev cJ0_charAt_5068e : ByteArray := prog_13_method_56_code
def yJ0_charAt_5068e : MethodName := ⟨RJ0, "charAt", "(I)C"⟩
abbrev cJ0_coder_7d493 : ByteArray := prog_13_method_152_code
def yJ0_coder_7d493 : MethodName := ⟨RJ0, "coder", "()B"⟩
abbrev cJ0_isLatin1_aae02 : ByteArray := prog_13_method_154_code
def yJ0_isLatin1_aae02 : MethodName := ⟨RJ0, "isLatin1", "()Z"⟩
abbrev cJ0_checkIndex_df160 : ByteArray := prog_13_method_155_code
def yJ0_checkIndex_df160 : MethodName := ⟨RJ0, "checkIndex", "(II)V"⟩
def RJ1 : String := "java/lang/StringLatin1"
abbrev cJ1_charAt_3b067 : ByteArray := prog_14_method_2_code
def yJ1_charAt_3b067 : MethodName := ⟨RJ1, "charAt", "([BI)C"⟩
def RJ2 : String := "java/lang/StringUTF16"
abbrev cJ2_getChar_3b067 : ByteArray := prog_15_method_5_code
def yJ2_getChar_3b067 : MethodName := ⟨RJ2, "getChar", "([BI)C"⟩
abbrev cJ2_length_9d52b : ByteArray := prog_15_method_6_code
def yJ2_length_9d52b : MethodName := ⟨RJ2, "length", "([B)I"⟩
abbrev cJ2_charAt_3b067 : ByteArray := prog_15_method_83_code
def yJ2_charAt_3b067 : MethodName := ⟨RJ2, "charAt", "([BI)C"⟩
abbrev cJ2_checkIndex_2214a : ByteArray := prog_15_method_91_code
def yJ2_checkIndex_2214a : MethodName := ⟨RJ2, "checkIndex", "(I[B)V"⟩
def RJ10 : String := "java/lang/System"
def RJ7 : String := "java/util/Arrays"
abbrev cJ7_fill_d0a16 : ByteArray := prog_17_method_101_code
def yJ7_fill_d0a16 : MethodName := ⟨RJ7, "fill", "([JJ)V"⟩
abbrev cJ7_fill_53178 : ByteArray := prog_17_method_103_code
def yJ7_fill_53178 : MethodName := ⟨RJ7, "fill", "([II)V"⟩
def RJ3 : String := "jdk/internal/util/Preconditions"
abbrev cJ3_checkIndex_8e157 : ByteArray := prog_18_method_11_code
def yJ3_checkIndex_8e157 : MethodName := ⟨RJ3, "checkIndex", "(IILjava/util/function/BiFunction;)I"⟩
abbrev vwCl : List vw_C := [(RX0, TX0, 5), (RX1, TX1, 8), (RX2, TX2, 4), (RX3, TX3, 5), (RX4, TX4, 8), (RX5, TX5, 3), (RX6, TX6, 3), (RX7, TX7, 11), (RX8, TX8, 52)]
end
section
/-! THE PURE MACHINE: the class's, the reference's and the law's bytecode, over cells with fixed shapes; a reference is a cell's number. -/
/-- a cell's shape: its class's number (or 100 int[], 101 boolean[], 102 long[], 103 Shelf[]), its length, its references -/
abbrev px_S : Type := Nat × Nat × List (Option Nat)
abbrev px_H : Type := List px_S × (Nat → Nat → Int32) × (Nat → Nat → Int64)
/-- an instruction: pc, itself, its length, two numbers and an int that it stands for -/
abbrev px_I : Type := Nat × Instr × Nat × Nat × Nat × Int32
/-- the script: its length, its ints -/
abbrev px_X : Type := Nat × (Nat → Int32)
abbrev px_R : Type := Option Nat × List Value × List Value × px_H
def px_up (d : Nat → Nat → Int32) (q j : Nat) (y : Int32) : Nat → Nat → Int32 := fun i => if i = q then upd (d q) j y else d i
def px_row (d : Nat → Nat → Int32) (q : Nat) (f : Nat → Int32) : Nat → Nat → Int32 := fun i => if i = q then f else d i
def px_upL (d : Nat → Nat → Int64) (q j : Nat) (y : Int64) : Nat → Nat → Int64 := fun i => if i = q then vp_updL (d q) j y else d i
def px_rowL (d : Nat → Nat → Int64) (q : Nat) (f : Nat → Int64) : Nat → Nat → Int64 := fun i => if i = q then f else d i
def px_in (j : Int32) (n : Nat) : Bool := !(decide (j < 0)) && decide (j.toNatClampNeg < n)
def px_cc (c : Jvm.ClassFile.Cond) (x y : Int32) : Bool := match c with
  | .eq => decide (x = y)
  | .ne => !(decide (x = y))
  | .lt => decide (x < y)
  | .ge => decide (y ≤ x)
  | .gt => decide (y < x)
  | .le => decide (x ≤ y)
def px_get (L : List Value) (a : Nat) : Value := L.getD a .null
def px_set (L : List Value) (a : Nat) (v : Value) : List Value := match a with
  | 0 => L.set 0 v
  | a + 1 => if (L.getD a .null).category = 2 then (L.set a .null).set (a + 1) v else L.set (a + 1) v
def px_set2 (L : List Value) (a : Nat) (v : Value) : List Value := (px_set L a v).set (a + 1) .null
/-- the static arrays, the script -/
def px_ia : List (List Int32) := [
  [0, 0, 0, 0, 1, 0, 0, 0, 1, 0, 0, 0, 1, 0, 0, 0, 1, 1, 0, 1, 0, 0, 0, 0, 0, 0, 0, 0, 0, 0, 0, 0, 0, 0, 0, 0, 0, 1, 0, 0, 0, 0, 0, 0],
  [999, 0, 0, 0, 99, 0, 0, 0, 12, 0, 0, 0, 60, 0, 0, 0, 12, 99, 99, 99, 119, 99, 0, 0, 119, 0, 0, 0, 119, 0, 0, 0, 119, 999, 0, 0, 119, 999, 11, 0, 119, 0, 0, 0],
  [1, 1, 1, 1, 4, 2, 1, 1, 2, 3, 1],
  [0, 0, 0, 1, 2, 3, 3, 3, 2, 1, 0, 0]]
def px_xa (X : px_X) (q : Nat) : Option px_X :=
  if q = 1300 then some X else if q < 1200 then none else (px_ia[q - 1200]?).map fun l => (l.length, fun j => l.getD j 0)
/-- the words' letters -/
def px_wl : List Nat := [5, 4, 4, 4, 4, 5, 4, 4, 6, 4, 4]
def px_wb : List (List Int32) := [[108, 101, 97, 115, 116], [101, 118, 101, 110], [119, 105, 100, 101], [108, 111, 110, 103], [115, 111, 114, 116], [112, 108, 97, 99, 101], [116, 114, 101, 101], [119, 97, 108, 108], [119, 105, 110, 100, 111, 119], [115, 104, 111, 112], [112, 111, 111, 108]]
/-- the fields' kinds: 0 int, 1 boolean, 2 a reference; which are final -/
def px_kinds : List (List Nat) := [[2, 0, 0, 0, 0], [2, 2, 2, 2, 2, 2, 0, 0], [2, 2, 2, 0], [2, 0, 0, 0, 0], [2, 2, 2, 2, 2, 2, 2, 2], [2, 0, 0], [0, 2, 0], [2, 2, 2, 1, 2, 2, 2, 2, 2, 2, 0], [0, 0, 0, 0, 0, 0, 0, 0, 0, 0, 0, 0, 2, 2, 2, 2, 2, 2, 2, 2, 2, 2, 2, 2, 2, 2, 2, 2, 2, 2, 2, 2, 2, 2, 2, 2, 2, 0, 0, 0, 0, 0, 2, 2, 2, 0, 2, 2, 2, 0, 2, 1]]
def px_fins : List (List Bool) := [[true, false, false, false, false], [true, true, true, true, true, true, false, false], [true, true, true, false], [true, false, false, false, false], [true, true, true, true, true, true, true, true], [true, false, false], [true, true, false], [true, true, true, false, true, true, true, true, true, true, false], [false, false, false, false, false, false, false, false, false, false, false, false, true, true, true, true, true, true, true, true, true, true, true, true, true, true, true, true, true, true, true, true, true, true, true, true, true, false, false, false, false, false, true, true, true, false, true, true, true, false, true, false]]
def px_kind (c j : Nat) : Nat := ((px_kinds[c]?).getD []).getD j 3
def px_fin (c j : Nat) : Bool := ((px_fins[c]?).getD []).getD j true
def px_nf (c : Nat) : Nat := ((px_kinds[c]?).getD []).length
def px_vok (n : Nat) (v : Value) : Bool := match v with
  | .ref r => decide (r < n) || decide (1000 ≤ r)
  | _ => true
def px_rok (n : Nat) (s : px_S) : Bool := s.2.2.all fun r => match r with
  | some r => decide (r < n)
  | none => true
/-- nothing points at a cell that isn't there (asked where a cell is made) -/
def px_tidy (G : List px_S) (L st : List Value) : Bool := decide (G.length < 1000) && L.all (px_vok G.length) && st.all (px_vok G.length) && G.all (px_rok G.length)
def px_clr (d : Nat → Nat → Int32) (q : Nat) : Nat → Nat → Int32 := px_row d q (fun _ => 0)
def px_clrL (d : Nat → Nat → Int64) (q : Nat) : Nat → Nat → Int64 := px_rowL d q (fun _ => 0)
def px_alu (i : Instr) (x y : Int32) : Option Int32 := match i with
  | .iadd => some (x + y)
  | .isub => some (x - y)
  | .imul => some (x * y)
  | .iand => some (x &&& y)
  | .ior => some (x ||| y)
  | .ixor => some (x ^^^ y)
  | .ishl => some (x <<< (y &&& 31))
  | .ishr => some (x >>> (y &&& 31))
  | .iushr => some (x.toUInt32 >>> (y.toUInt32 &&& Int32.toUInt32 31)).toInt32
  | .idiv => if y = 0 then none else some (x / y)
  | .irem => if y = 0 then none else some (x - x / y * y)
  | _ => none
def px_une (i : Instr) (x : Value) : Option Value := match i with
  | .ineg => (match x with | .int x => some (.int (-x)) | _ => none)
  | .i2l => (match x with | .int x => some (.long x.toInt64) | _ => none)
  | .l2i => (match x with | .long x => some (.int x.toInt32) | _ => none)
  | .i2b => (match x with | .int x => some (.int x.toInt8.toInt32) | _ => none)
  | .i2s => (match x with | .int x => some (.int x.toInt16.toInt32) | _ => none)
  | .i2c => (match x with | .int x => some (.int (x.toUInt32 % 65536).toInt32) | _ => none)
  | _ => none
/-- one instruction that is neither a call nor a return: where to go on (none: behind it), the locals, the stack, the cells -/
def px_step (X : px_X) (ini : Nat) (rem : Nat × Nat) (pc : Nat) (i : Instr) (a b : Nat) (v : Int32) (L st : List Value) (h : px_H) : Option px_R := match i with
  | .iconst _ => some (none, L, .int v :: st, h)
  | .bipush _ => some (none, L, .int v :: st, h)
  | .sipush _ => some (none, L, .int v :: st, h)
  | .lconst n => some (none, L, .long (Int64.ofNat n) :: st, h)
  | .ldc _ => some (none, L, (if 1000 ≤ a then .ref a else .int v) :: st, h)
  | .ldc_w _ => some (none, L, (if 1000 ≤ a then .ref a else .int v) :: st, h)
  | .ldc2_w _ => some (none, L, .long 4294967295 :: st, h)
  | .iload _ => (match px_get L a with | .int x => some (none, L, .int x :: st, h) | _ => none)
  | .iload_n _ => (match px_get L a with | .int x => some (none, L, .int x :: st, h) | _ => none)
  | .lload _ => (match px_get L a with | .long x => some (none, L, .long x :: st, h) | _ => none)
  | .lload_n _ => (match px_get L a with | .long x => some (none, L, .long x :: st, h) | _ => none)
  | .aload _ => (match px_get L a with | .ref x => some (none, L, .ref x :: st, h) | _ => none)
  | .aload_n _ => (match px_get L a with | .ref x => some (none, L, .ref x :: st, h) | _ => none)
  | .istore _ => (match st with | .int x :: st => some (none, px_set L a (.int x), st, h) | _ => none)
  | .istore_n _ => (match st with | .int x :: st => some (none, px_set L a (.int x), st, h) | _ => none)
  | .astore _ => (match st with | .ref x :: st => some (none, px_set L a (.ref x), st, h) | _ => none)
  | .astore_n _ => (match st with | .ref x :: st => some (none, px_set L a (.ref x), st, h) | _ => none)
  | .lstore _ => (match st with | .long x :: st => some (none, px_set2 L a (.long x), st, h) | _ => none)
  | .lstore_n _ => (match st with | .long x :: st => some (none, px_set2 L a (.long x), st, h) | _ => none)
  | .iinc _ _ => (match px_get L a with | .int x => some (none, px_set L a (.int (x + v)), st, h) | _ => none)
  | .pop => (match st with | x :: st => if x.category = 1 then some (none, L, st, h) else none | _ => none)
  | .dup => (match st with | x :: st => if x.category = 1 then some (none, L, x :: x :: st, h) else none | _ => none)
  | .dup_x1 => (match st with | x :: y :: st => if x.category = 1 ∧ y.category = 1 then some (none, L, x :: y :: x :: st, h) else none | _ => none)
  | .dup2 => (match st with | x :: y :: st => if x.category = 1 ∧ y.category = 1 then some (none, L, x :: y :: x :: y :: st, h) else none | _ => none)
  | .ladd => (match st with | .long y :: .long x :: st => some (none, L, .long (x + y) :: st, h) | _ => none)
  | .lor => (match st with | .long y :: .long x :: st => some (none, L, .long (x ||| y) :: st, h) | _ => none)
  | .land => (match st with | .long y :: .long x :: st => some (none, L, .long (x &&& y) :: st, h) | _ => none)
  | .lshl => (match st with | .int y :: .long x :: st => some (none, L, .long (x <<< (y.toInt64 &&& 63)) :: st, h) | _ => none)
  | .lcmp => (match st with | .long y :: .long x :: st => some (none, L, .int (lg_cmp x y) :: st, h) | _ => none)
  | .goto _ => some (some a, L, st, h)
  | .ifCond c _ => (match st with | .int x :: st => some (if px_cc c x 0 then some a else none, L, st, h) | _ => none)
  | .if_icmp c _ => (match st with | .int y :: .int x :: st => some (if px_cc c x y then some a else none, L, st, h) | _ => none)
  | .tableswitch dflt lo hi offs => (match st with
    | .int x :: st => if x.toInt < lo ∨ hi < x.toInt then some (some ((pc : Int) + dflt).toNat, L, st, h) else (match offs[(x.toInt - lo).toNat]? with | some o => some (some ((pc : Int) + o).toNat, L, st, h) | none => none)
    | _ => none)
  | .lookupswitch dflt ps => (match st with
    | .int x :: st => if 0 ≤ (pc : Int) + Op.lookupswitch.offset ps.toList dflt x.toInt then some (some ((pc : Int) + Op.lookupswitch.offset ps.toList dflt x.toInt).toNat, L, st, h) else none
    | _ => none)
  | .getfield _ => (match st with
    | .ref q :: st => if q < 1000 then (match h.1[q]? with
        | some (t, n, rs) => if t = a ∧ t < 100 ∧ b < n ∧ n = px_nf t then (if px_kind t b < 2 then some (none, L, .int (h.2.1 q b) :: st, h) else (match rs.getD b none with | some r => some (none, L, .ref r :: st, h) | none => none)) else none
        | none => none)
      else if a = 14 ∧ q < 1011 then (if b = 0 then some (none, L, .ref (q + 100) :: st, h) else if b = 1 then some (none, L, .int 0 :: st, h) else none) else none
    | _ => none)
  | .putfield _ => (match st with
    | .int y :: .ref q :: st => (match h.1[q]? with
        | some (t, n, _) => if t = a ∧ t < 100 ∧ b < n ∧ n = px_nf t ∧ (px_fin t b = false ∨ ini = t + 1) ∧ q < 1000 ∧ (px_kind t b = 0 ∨ (px_kind t b = 1 ∧ y &&& 1 = y)) then some (none, L, st, (h.1, px_up h.2.1 q b y, h.2.2)) else none
        | none => none)
    | .ref r :: .ref q :: st => (match h.1[q]? with
        | some (t, n, rs) => if t = a ∧ t < 100 ∧ b < n ∧ n = px_nf t ∧ (px_fin t b = false ∨ ini = t + 1) ∧ q < 1000 ∧ px_kind t b = 2 ∧ b < rs.length then some (none, L, st, (h.1.set q (t, n, rs.set b (some r)), h.2)) else none
        | none => none)
    | _ => none)
  | .getstatic _ => if a < 4 then some (none, L, .ref (1200 + a) :: st, h) else if a = 4 then some (none, L, .int 1 :: st, h) else if a = 5 then some (none, L, .retAddr 0 :: st, h) else none
  | .arraylength => (match st with
    | .ref q :: st => if q < 1000 then (match h.1[q]? with | some (t, n, _) => if 100 ≤ t then some (none, L, .int (Int32.ofNat n) :: st, h) else none | none => none)
      else if q < 1100 then none else (match px_wl[q - 1100]? with | some n => some (none, L, .int (Int32.ofNat n) :: st, h) | none => (match px_xa X q with | some (n, _) => some (none, L, .int (Int32.ofNat n) :: st, h) | none => none))
    | _ => none)
  | .iaload => (match st with
    | .int j :: .ref q :: st => if q < 1000 then (match h.1[q]? with | some (t, n, _) => if t = 100 ∧ px_in j n = true then some (none, L, .int (h.2.1 q j.toNatClampNeg) :: st, h) else none | none => none)
      else (match px_xa X q with | some (n, f) => if px_in j n = true then some (none, L, .int (f j.toNatClampNeg) :: st, h) else none | none => none)
    | _ => none)
  | .baload => (match st with
    | .int j :: .ref q :: st => if q < 1000 then (match h.1[q]? with | some (t, n, _) => if t = 101 ∧ px_in j n = true then some (none, L, .int (h.2.1 q j.toNatClampNeg) :: st, h) else none | none => none)
      else if q < 1100 then none else (match px_wl[q - 1100]? with | some n => if px_in j n = true then some (none, L, .int ((px_wb.getD (q - 1100) []).getD j.toNatClampNeg 0) :: st, h) else none | none => none)
    | _ => none)
  | .laload => (match st with
    | .int j :: .ref q :: st => (match h.1[q]? with | some (t, n, _) => if t = 102 ∧ px_in j n = true ∧ q < 1000 then some (none, L, .long (h.2.2 q j.toNatClampNeg) :: st, h) else none | none => none)
    | _ => none)
  | .aaload => (match st with
    | .int j :: .ref q :: st => (match h.1[q]? with | some (t, n, rs) => if t = 103 ∧ px_in j n = true ∧ q < 1000 then (match rs.getD j.toNatClampNeg none with | some r => some (none, L, .ref r :: st, h) | none => none) else none | none => none)
    | _ => none)
  | .iastore => (match st with
    | .int y :: .int j :: .ref q :: st => (match h.1[q]? with | some (t, n, _) => if t = 100 ∧ px_in j n = true ∧ q < 1000 then some (none, L, st, (h.1, px_up h.2.1 q j.toNatClampNeg y, h.2.2)) else none | none => none)
    | _ => none)
  | .bastore => (match st with
    | .int y :: .int j :: .ref q :: st => (match h.1[q]? with | some (t, n, _) => if t = 101 ∧ px_in j n = true ∧ q < 1000 then some (none, L, st, (h.1, px_up h.2.1 q j.toNatClampNeg (vp_nar .boolean y), h.2.2)) else none | none => none)
    | _ => none)
  | .lastore => (match st with
    | .long y :: .int j :: .ref q :: st => (match h.1[q]? with | some (t, n, _) => if t = 102 ∧ px_in j n = true ∧ q < 1000 then some (none, L, st, (h.1, h.2.1, px_upL h.2.2 q j.toNatClampNeg y)) else none | none => none)
    | _ => none)
  | .aastore => (match st with
    | .ref r :: .int j :: .ref q :: st => (match h.1[q]? with
      | some (t, n, rs) => (match h.1[r]? with
        | some (t2, _, _) => if t = 103 ∧ px_in j n = true ∧ q < 1000 ∧ r < 1000 ∧ t2 = 3 ∧ j.toNatClampNeg < rs.length then some (none, L, st, (h.1.set q (t, n, rs.set j.toNatClampNeg (some r)), h.2)) else none
        | none => none)
      | none => none)
    | _ => none)
  | .new _ => if a < 9 ∧ 1 ≤ rem.1 ∧ px_nf a ≤ rem.2 ∧ px_tidy h.1 L st = true then some (none, L, .ref h.1.length :: st, (h.1 ++ [(a, px_nf a, List.replicate (px_nf a) none)], px_clr h.2.1 h.1.length, h.2.2)) else none
  | .newarray _ => (match st with
    | .int n :: st => if ¬ n < 0 ∧ n.toNatClampNeg * 8 ≤ 536870912 ∧ 100 ≤ a ∧ a ≤ 102 ∧ 1 ≤ rem.1 ∧ n.toNatClampNeg ≤ rem.2 ∧ px_tidy h.1 L st = true then some (none, L, .ref h.1.length :: st, (h.1 ++ [(a, n.toNatClampNeg, [])], px_clr h.2.1 h.1.length, px_clrL h.2.2 h.1.length)) else none
    | _ => none)
  | .anewarray _ => (match st with
    | .int n :: st => if ¬ n < 0 ∧ n.toNatClampNeg * 4 ≤ 536870912 ∧ a = 103 ∧ 1 ≤ rem.1 ∧ n.toNatClampNeg ≤ rem.2 ∧ px_tidy h.1 L st = true then some (none, L, .ref h.1.length :: st, (h.1 ++ [(103, n.toNatClampNeg, List.replicate n.toNatClampNeg none)], h.2)) else none
    | _ => none)
  | i => (match st with
    | .int y :: .int x :: st => (match px_alu i x y with | some z => some (none, L, .int z :: st, h) | none => (match px_une i (.int y) with | some z => some (none, L, z :: .int x :: st, h) | none => none))
    | y :: st => (match px_une i y with | some z => some (none, L, z :: st, h) | none => none)
    | _ => none)
def px_remN (rem : Nat × Nat) (i : Instr) (a : Nat) (st : List Value) : Nat × Nat := match i with
  | .new _ => (rem.1 - 1, rem.2 - px_nf a)
  | .newarray _ => (match st with | .int n :: _ => (rem.1 - 1, rem.2 - n.toNatClampNeg) | _ => rem)
  | .anewarray _ => (match st with | .int n :: _ => (rem.1 - 1, rem.2 - n.toNatClampNeg) | _ => rem)
  | _ => rem
end
section
/-! THE CODE, by program: every instruction of every method, with what it stands for; in blocks, each with all that is behind it. -/
def px_c0_0 : List px_I := (0, .aload_n 0, 1, 0, 0, 0) :: (1, .invokespecial 3, 3, 9000, 0, 0) :: (4, .aload_n 0, 1, 0, 0, 0) :: (5, .bipush 20, 2, 0, 0, 20) :: (7, .newarray .int, 2, 100, 0, 0) :: (9, .putfield 9, 3, 0, 0, 0) :: (12, .aload_n 0, 1, 0, 0, 0) :: (13, .iconst 0, 1, 0, 0, 0) :: (14, .putfield 15, 3, 0, 1, 0) :: (17, .aload_n 0, 1, 0, 0, 0) :: (18, .iconst 0, 1, 0, 0, 0) :: (19, .putfield 19, 3, 0, 2, 0) :: (22, .aload_n 0, 1, 0, 0, 0) :: (23, .iconst 0, 1, 0, 0, 0) :: (24, .putfield 22, 3, 0, 3, 0) :: (27, .aload_n 0, 1, 0, 0, 0) :: (28, .iconst 0, 1, 0, 0, 0) :: (29, .putfield 25, 3, 0, 4, 0) :: (32, .return_, 1, 0, 0, 0) :: []
def px_c1_0 : List px_I := (0, .aload_n 0, 1, 0, 0, 0) :: (1, .iconst 0, 1, 0, 0, 0) :: (2, .putfield 15, 3, 0, 1, 0) :: (5, .return_, 1, 0, 0, 0) :: []
def px_c2_0 : List px_I := (0, .aload_n 0, 1, 0, 0, 0) :: (1, .iload_n 1, 1, 1, 0, 0) :: (2, .putfield 19, 3, 0, 2, 0) :: (5, .aload_n 0, 1, 0, 0, 0) :: (6, .iload_n 2, 1, 2, 0, 0) :: (7, .putfield 22, 3, 0, 3, 0) :: (10, .aload_n 0, 1, 0, 0, 0) :: (11, .iload_n 3, 1, 3, 0, 0) :: (12, .putfield 25, 3, 0, 4, 0) :: (15, .return_, 1, 0, 0, 0) :: []
def px_c3_31 : List px_I := (31, .ireturn, 1, 0, 0, 0) :: []
def px_c3_30 : List px_I := (30, .iconst (-1), 1, 0, 0, (-1)) :: px_c3_31
def px_c3_0 : List px_I := (0, .iload_n 1, 1, 1, 0, 0) :: (1, .ifCond .lt 29, 3, 30, 0, 0) :: (4, .iload_n 1, 1, 1, 0, 0) :: (5, .aload_n 0, 1, 0, 0, 0) :: (6, .getfield 15, 3, 0, 1, 0) :: (9, .if_icmp .ge 21, 3, 30, 0, 0) :: (12, .iload_n 1, 1, 1, 0, 0) :: (13, .aload_n 0, 1, 0, 0, 0) :: (14, .getfield 9, 3, 0, 0, 0) :: (17, .arraylength, 1, 0, 0, 0) :: (18, .if_icmp .ge 12, 3, 30, 0, 0) :: (21, .aload_n 0, 1, 0, 0, 0) :: (22, .getfield 9, 3, 0, 0, 0) :: (25, .iload_n 1, 1, 1, 0, 0) :: (26, .iaload, 1, 0, 0, 0) :: (27, .goto 4, 3, 31, 0, 0) :: px_c3_30
def px_c4_22 : List px_I := (22, .aload_n 0, 1, 0, 0, 0) :: (23, .dup, 1, 0, 0, 0) :: (24, .getfield 15, 3, 0, 1, 0) :: (27, .iconst 1, 1, 0, 0, 1) :: (28, .iadd, 1, 0, 0, 0) :: (29, .putfield 15, 3, 0, 1, 0) :: (32, .return_, 1, 0, 0, 0) :: []
def px_c4_0 : List px_I := (0, .aload_n 0, 1, 0, 0, 0) :: (1, .getfield 15, 3, 0, 1, 0) :: (4, .aload_n 0, 1, 0, 0, 0) :: (5, .getfield 9, 3, 0, 0, 0) :: (8, .arraylength, 1, 0, 0, 0) :: (9, .if_icmp .ge 13, 3, 22, 0, 0) :: (12, .aload_n 0, 1, 0, 0, 0) :: (13, .getfield 9, 3, 0, 0, 0) :: (16, .aload_n 0, 1, 0, 0, 0) :: (17, .getfield 15, 3, 0, 1, 0) :: (20, .iload_n 1, 1, 1, 0, 0) :: (21, .iastore, 1, 0, 0, 0) :: px_c4_22
def px_c5_110 : List px_I := (110, .iload_n 2, 1, 2, 0, 0) :: (111, .ireturn, 1, 0, 0, 0) :: []
def px_c5_106 : List px_I := (106, .iload_n 2, 1, 2, 0, 0) :: (107, .iconst 5, 1, 0, 0, 5) :: (108, .ixor, 1, 0, 0, 0) :: (109, .ireturn, 1, 0, 0, 0) :: px_c5_110
def px_c5_99 : List px_I := (99, .iload_n 2, 1, 2, 0, 0) :: (100, .aload_n 0, 1, 0, 0, 0) :: (101, .getfield 22, 3, 0, 3, 0) :: (104, .isub, 1, 0, 0, 0) :: (105, .ireturn, 1, 0, 0, 0) :: px_c5_106
def px_c5_92 : List px_I := (92, .iload_n 2, 1, 2, 0, 0) :: (93, .aload_n 0, 1, 0, 0, 0) :: (94, .getfield 25, 3, 0, 4, 0) :: (97, .iadd, 1, 0, 0, 0) :: (98, .ireturn, 1, 0, 0, 0) :: px_c5_99
def px_c5_42 : List px_I := (42, .aload_n 0, 1, 0, 0, 0) :: (43, .bipush 10, 2, 0, 0, 10) :: (45, .invokevirtual 28, 3, 4, 2, 0) :: (48, .iload_n 1, 1, 1, 0, 0) :: (49, .aload_n 0, 1, 0, 0, 0) :: (50, .getfield 22, 3, 0, 3, 0) :: (53, .iadd, 1, 0, 0, 0) :: (54, .istore_n 2, 1, 2, 0, 0) :: (55, .aload_n 0, 1, 0, 0, 0) :: (56, .getfield 19, 3, 0, 2, 0) :: (59, .tableswitch 51 1 5 #[33, 51, 40, 51, 47], 33, 0, 0, 0) :: px_c5_92
def px_c5_28 : List px_I := (28, .aload_n 0, 1, 0, 0, 0) :: (29, .getfield 19, 3, 0, 2, 0) :: (32, .iconst 5, 1, 0, 0, 5) :: (33, .if_icmp .ne 9, 3, 42, 0, 0) :: (36, .aload_n 0, 1, 0, 0, 0) :: (37, .bipush 60, 2, 0, 0, 60) :: (39, .invokevirtual 28, 3, 4, 2, 0) :: px_c5_42
def px_c5_14 : List px_I := (14, .aload_n 0, 1, 0, 0, 0) :: (15, .getfield 19, 3, 0, 2, 0) :: (18, .iconst 3, 1, 0, 0, 3) :: (19, .if_icmp .ne 9, 3, 28, 0, 0) :: (22, .aload_n 0, 1, 0, 0, 0) :: (23, .bipush 41, 2, 0, 0, 41) :: (25, .invokevirtual 28, 3, 4, 2, 0) :: px_c5_28
def px_c5_0 : List px_I := (0, .aload_n 0, 1, 0, 0, 0) :: (1, .getfield 19, 3, 0, 2, 0) :: (4, .iconst 1, 1, 0, 0, 1) :: (5, .if_icmp .ne 9, 3, 14, 0, 0) :: (8, .aload_n 0, 1, 0, 0, 0) :: (9, .bipush 20, 2, 0, 0, 20) :: (11, .invokevirtual 28, 3, 4, 2, 0) :: px_c5_14
def px_c6_121 : List px_I := (121, .ireturn, 1, 0, 0, 0) :: []
def px_c6_120 : List px_I := (120, .iload_n 3, 1, 3, 0, 0) :: px_c6_121
def px_c6_105 : List px_I := (105, .aload_n 0, 1, 0, 0, 0) :: (106, .getfield 19, 3, 0, 2, 0) :: (109, .bipush 6, 2, 0, 0, 6) :: (111, .if_icmp .ne 9, 3, 120, 0, 0) :: (114, .iload_n 3, 1, 3, 0, 0) :: (115, .iconst 2, 1, 0, 0, 2) :: (116, .imul, 1, 0, 0, 0) :: (117, .goto 4, 3, 121, 0, 0) :: px_c6_120
def px_c6_91 : List px_I := (91, .invokevirtual 32, 3, 5, 2, 0) :: (94, .iconst 2, 1, 0, 0, 2) :: (95, .imul, 1, 0, 0, 0) :: (96, .istore_n 3, 1, 3, 0, 0) :: (97, .iload_n 2, 1, 2, 0, 0) :: (98, .ifCond .eq 7, 3, 105, 0, 0) :: (101, .iload_n 3, 1, 3, 0, 0) :: (102, .iconst 3, 1, 0, 0, 3) :: (103, .imul, 1, 0, 0, 0) :: (104, .ireturn, 1, 0, 0, 0) :: px_c6_105
def px_c6_90 : List px_I := (90, .iload_n 1, 1, 1, 0, 0) :: px_c6_91
def px_c6_69 : List px_I := (69, .aload_n 0, 1, 0, 0, 0) :: (70, .bipush 11, 2, 0, 0, 11) :: (72, .invokevirtual 28, 3, 4, 2, 0) :: (75, .aload_n 0, 1, 0, 0, 0) :: (76, .aload_n 0, 1, 0, 0, 0) :: (77, .getfield 19, 3, 0, 2, 0) :: (80, .iconst 3, 1, 0, 0, 3) :: (81, .if_icmp .ne 9, 3, 90, 0, 0) :: (84, .iload_n 1, 1, 1, 0, 0) :: (85, .iconst 1, 1, 0, 0, 1) :: (86, .iadd, 1, 0, 0, 0) :: (87, .goto 4, 3, 91, 0, 0) :: px_c6_90
def px_c6_54 : List px_I := (54, .aload_n 0, 1, 0, 0, 0) :: (55, .getfield 19, 3, 0, 2, 0) :: (58, .bipush 6, 2, 0, 0, 6) :: (60, .if_icmp .ne 9, 3, 69, 0, 0) :: (63, .aload_n 0, 1, 0, 0, 0) :: (64, .bipush 70, 2, 0, 0, 70) :: (66, .invokevirtual 28, 3, 4, 2, 0) :: px_c6_69
def px_c6_44 : List px_I := (44, .iload_n 2, 1, 2, 0, 0) :: (45, .ifCond .eq 9, 3, 54, 0, 0) :: (48, .aload_n 0, 1, 0, 0, 0) :: (49, .bipush 30, 2, 0, 0, 30) :: (51, .invokevirtual 28, 3, 4, 2, 0) :: px_c6_54
def px_c6_29 : List px_I := (29, .istore_n 2, 1, 2, 0, 0) :: (30, .aload_n 0, 1, 0, 0, 0) :: (31, .getfield 19, 3, 0, 2, 0) :: (34, .iconst 3, 1, 0, 0, 3) :: (35, .if_icmp .ne 9, 3, 44, 0, 0) :: (38, .aload_n 0, 1, 0, 0, 0) :: (39, .bipush 40, 2, 0, 0, 40) :: (41, .invokevirtual 28, 3, 4, 2, 0) :: px_c6_44
def px_c6_28 : List px_I := (28, .iconst 0, 1, 0, 0, 0) :: px_c6_29
def px_c6_24 : List px_I := (24, .iconst 1, 1, 0, 0, 1) :: (25, .goto 4, 3, 29, 0, 0) :: px_c6_28
def px_c6_0 : List px_I := (0, .aload_n 0, 1, 0, 0, 0) :: (1, .getfield 19, 3, 0, 2, 0) :: (4, .iconst 2, 1, 0, 0, 2) :: (5, .if_icmp .eq 19, 3, 24, 0, 0) :: (8, .aload_n 0, 1, 0, 0, 0) :: (9, .getfield 19, 3, 0, 2, 0) :: (12, .iconst 3, 1, 0, 0, 3) :: (13, .if_icmp .eq 11, 3, 24, 0, 0) :: (16, .aload_n 0, 1, 0, 0, 0) :: (17, .getfield 19, 3, 0, 2, 0) :: (20, .iconst 5, 1, 0, 0, 5) :: (21, .if_icmp .ne 7, 3, 28, 0, 0) :: px_c6_24
def px_c7_91 : List px_I := (91, .ireturn, 1, 0, 0, 0) :: []
def px_c7_89 : List px_I := (89, .iload 4, 2, 4, 0, 0) :: px_c7_91
def px_c7_48 : List px_I := (48, .istore_n 2, 1, 2, 0, 0) :: (49, .aload_n 0, 1, 0, 0, 0) :: (50, .bipush 12, 2, 0, 0, 12) :: (52, .invokevirtual 28, 3, 4, 2, 0) :: (55, .aload_n 0, 1, 0, 0, 0) :: (56, .iload_n 2, 1, 2, 0, 0) :: (57, .invokevirtual 36, 3, 6, 2, 0) :: (60, .istore_n 3, 1, 3, 0, 0) :: (61, .iload_n 3, 1, 3, 0, 0) :: (62, .aload_n 0, 1, 0, 0, 0) :: (63, .iload_n 2, 1, 2, 0, 0) :: (64, .aload_n 0, 1, 0, 0, 0) :: (65, .getfield 25, 3, 0, 4, 0) :: (68, .isub, 1, 0, 0, 0) :: (69, .invokevirtual 32, 3, 5, 2, 0) :: (72, .ixor, 1, 0, 0, 0) :: (73, .istore 4, 2, 4, 0, 0) :: (75, .aload_n 0, 1, 0, 0, 0) :: (76, .getfield 19, 3, 0, 2, 0) :: (79, .iconst 4, 1, 0, 0, 4) :: (80, .if_icmp .ne 9, 3, 89, 0, 0) :: (83, .iload 4, 2, 4, 0, 0) :: (85, .ineg, 1, 0, 0, 0) :: (86, .goto 5, 3, 91, 0, 0) :: px_c7_89
def px_c7_47 : List px_I := (47, .iload_n 1, 1, 1, 0, 0) :: px_c7_48
def px_c7_29 : List px_I := (29, .aload_n 0, 1, 0, 0, 0) :: (30, .getfield 19, 3, 0, 2, 0) :: (33, .bipush 6, 2, 0, 0, 6) :: (35, .if_icmp .ne 12, 3, 47, 0, 0) :: (38, .iload_n 1, 1, 1, 0, 0) :: (39, .aload_n 0, 1, 0, 0, 0) :: (40, .getfield 25, 3, 0, 4, 0) :: (43, .isub, 1, 0, 0, 0) :: (44, .goto 4, 3, 48, 0, 0) :: px_c7_47
def px_c7_14 : List px_I := (14, .aload_n 0, 1, 0, 0, 0) :: (15, .getfield 19, 3, 0, 2, 0) :: (18, .bipush 6, 2, 0, 0, 6) :: (20, .if_icmp .ne 9, 3, 29, 0, 0) :: (23, .aload_n 0, 1, 0, 0, 0) :: (24, .bipush 71, 2, 0, 0, 71) :: (26, .invokevirtual 28, 3, 4, 2, 0) :: px_c7_29
def px_c7_0 : List px_I := (0, .aload_n 0, 1, 0, 0, 0) :: (1, .getfield 19, 3, 0, 2, 0) :: (4, .iconst 4, 1, 0, 0, 4) :: (5, .if_icmp .ne 9, 3, 14, 0, 0) :: (8, .aload_n 0, 1, 0, 0, 0) :: (9, .bipush 50, 2, 0, 0, 50) :: (11, .invokevirtual 28, 3, 4, 2, 0) :: px_c7_14
def px_c8_0 : List px_I := (0, .aload_n 0, 1, 0, 0, 0) :: (1, .invokespecial 3, 3, 9000, 0, 0) :: (4, .aload_n 0, 1, 0, 0, 0) :: (5, .sipush 1080, 3, 0, 0, 1080) :: (8, .newarray .int, 2, 100, 0, 0) :: (10, .putfield 9, 3, 1, 0, 0) :: (13, .aload_n 0, 1, 0, 0, 0) :: (14, .bipush 120, 2, 0, 0, 120) :: (16, .newarray .int, 2, 100, 0, 0) :: (18, .putfield 15, 3, 1, 1, 0) :: (21, .aload_n 0, 1, 0, 0, 0) :: (22, .bipush 120, 2, 0, 0, 120) :: (24, .newarray .int, 2, 100, 0, 0) :: (26, .putfield 18, 3, 1, 2, 0) :: (29, .aload_n 0, 1, 0, 0, 0) :: (30, .bipush 120, 2, 0, 0, 120) :: (32, .newarray .int, 2, 100, 0, 0) :: (34, .putfield 21, 3, 1, 3, 0) :: (37, .aload_n 0, 1, 0, 0, 0) :: (38, .bipush 9, 2, 0, 0, 9) :: (40, .newarray .int, 2, 100, 0, 0) :: (42, .putfield 24, 3, 1, 4, 0) :: (45, .aload_n 0, 1, 0, 0, 0) :: (46, .new 27, 3, 2, 0, 0) :: (49, .dup, 1, 0, 0, 0) :: (50, .invokespecial 29, 3, 19, 1, 0) :: (53, .putfield 30, 3, 1, 5, 0) :: (56, .aload_n 0, 1, 0, 0, 0) :: (57, .iconst 0, 1, 0, 0, 0) :: (58, .putfield 34, 3, 1, 6, 0) :: (61, .aload_n 0, 1, 0, 0, 0) :: (62, .iconst 0, 1, 0, 0, 0) :: (63, .putfield 38, 3, 1, 7, 0) :: (66, .return_, 1, 0, 0, 0) :: []
def px_c9_194 : List px_I := (194, .return_, 1, 0, 0, 0) :: []
def px_c9_163 : List px_I := (163, .iload 4, 2, 4, 0, 0) :: (165, .aload_n 0, 1, 0, 0, 0) :: (166, .getfield 38, 3, 1, 7, 0) :: (169, .if_icmp .ge 25, 3, 194, 0, 0) :: (172, .aload_n 0, 1, 0, 0, 0) :: (173, .getfield 24, 3, 1, 4, 0) :: (176, .iload 4, 2, 4, 0, 0) :: (178, .aload_n 1, 1, 1, 0, 0) :: (179, .iconst 1, 1, 0, 0, 1) :: (180, .iload 4, 2, 4, 0, 0) :: (182, .ishl, 1, 0, 0, 0) :: (183, .iload_n 2, 1, 2, 0, 0) :: (184, .invokevirtual 78, 3, 69, 3, 0) :: (187, .iastore, 1, 0, 0, 0) :: (188, .iinc 4 1, 3, 4, 0, 1) :: (191, .goto (-28), 3, 163, 0, 0) :: px_c9_194
def px_c9_160 : List px_I := (160, .iconst 0, 1, 0, 0, 0) :: (161, .istore 4, 2, 4, 0, 0) :: px_c9_163
def px_c9_154 : List px_I := (154, .iinc 4 1, 3, 4, 0, 1) :: (157, .goto (-119), 3, 38, 0, 0) :: px_c9_160
def px_c9_116 : List px_I := (116, .iload 6, 2, 6, 0, 0) :: (118, .aload_n 0, 1, 0, 0, 0) :: (119, .getfield 38, 3, 1, 7, 0) :: (122, .if_icmp .ge 32, 3, 154, 0, 0) :: (125, .aload_n 0, 1, 0, 0, 0) :: (126, .getfield 9, 3, 1, 0, 0) :: (129, .iload 6, 2, 6, 0, 0) :: (131, .bipush 120, 2, 0, 0, 120) :: (133, .imul, 1, 0, 0, 0) :: (134, .iload 4, 2, 4, 0, 0) :: (136, .iadd, 1, 0, 0, 0) :: (137, .aload_n 1, 1, 1, 0, 0) :: (138, .iload 6, 2, 6, 0, 0) :: (140, .iload_n 2, 1, 2, 0, 0) :: (141, .iload 4, 2, 4, 0, 0) :: (143, .iload_n 3, 1, 3, 0, 0) :: (144, .invokevirtual 74, 3, 61, 5, 0) :: (147, .iastore, 1, 0, 0, 0) :: (148, .iinc 6 1, 3, 6, 0, 1) :: (151, .goto (-35), 3, 116, 0, 0) :: px_c9_154
def px_c9_98 : List px_I := (98, .iastore, 1, 0, 0, 0) :: (99, .aload_n 0, 1, 0, 0, 0) :: (100, .getfield 15, 3, 1, 1, 0) :: (103, .iload 4, 2, 4, 0, 0) :: (105, .aload_n 1, 1, 1, 0, 0) :: (106, .iload 4, 2, 4, 0, 0) :: (108, .iconst 0, 1, 0, 0, 0) :: (109, .invokevirtual 72, 3, 68, 3, 0) :: (112, .iastore, 1, 0, 0, 0) :: (113, .iconst 0, 1, 0, 0, 0) :: (114, .istore 6, 2, 6, 0, 0) :: px_c9_116
def px_c9_96 : List px_I := (96, .ldc 71, 2, 0, 0, 2147483647) :: px_c9_98
def px_c9_80 : List px_I := (80, .iastore, 1, 0, 0, 0) :: (81, .aload_n 0, 1, 0, 0, 0) :: (82, .getfield 21, 3, 1, 3, 0) :: (85, .iload 4, 2, 4, 0, 0) :: (87, .iload 5, 2, 5, 0, 0) :: (89, .ifCond .eq 7, 3, 96, 0, 0) :: (92, .iconst 5, 1, 0, 0, 5) :: (93, .goto 5, 3, 98, 0, 0) :: px_c9_96
def px_c9_74 : List px_I := (74, .aload_n 1, 1, 1, 0, 0) :: (75, .getfield 66, 3, 4, 0, 0) :: (78, .iconst 0, 1, 0, 0, 0) :: (79, .iaload, 1, 0, 0, 0) :: px_c9_80
def px_c9_38 : List px_I := (38, .iload 4, 2, 4, 0, 0) :: (40, .aload_n 0, 1, 0, 0, 0) :: (41, .getfield 34, 3, 1, 6, 0) :: (44, .if_icmp .ge 116, 3, 160, 0, 0) :: (47, .aload_n 0, 1, 0, 0, 0) :: (48, .getfield 30, 3, 1, 5, 0) :: (51, .getfield 62, 3, 2, 0, 0) :: (54, .iload 4, 2, 4, 0, 0) :: (56, .baload, 1, 0, 0, 0) :: (57, .istore 5, 2, 5, 0, 0) :: (59, .aload_n 0, 1, 0, 0, 0) :: (60, .getfield 18, 3, 1, 2, 0) :: (63, .iload 4, 2, 4, 0, 0) :: (65, .iload 5, 2, 5, 0, 0) :: (67, .ifCond .eq 7, 3, 74, 0, 0) :: (70, .iconst 0, 1, 0, 0, 0) :: (71, .goto 9, 3, 80, 0, 0) :: px_c9_74
def px_c9_0 : List px_I := (0, .aload_n 0, 1, 0, 0, 0) :: (1, .getfield 30, 3, 1, 5, 0) :: (4, .aload_n 1, 1, 1, 0, 0) :: (5, .invokevirtual 41, 3, 20, 2, 0) :: (8, .aload_n 0, 1, 0, 0, 0) :: (9, .aload_n 0, 1, 0, 0, 0) :: (10, .getfield 30, 3, 1, 5, 0) :: (13, .getfield 45, 3, 2, 3, 0) :: (16, .putfield 34, 3, 1, 6, 0) :: (19, .aload_n 0, 1, 0, 0, 0) :: (20, .aload_n 1, 1, 1, 0, 0) :: (21, .getfield 46, 3, 4, 2, 0) :: (24, .getfield 51, 3, 6, 2, 0) :: (27, .bipush 9, 2, 0, 0, 9) :: (29, .invokestatic 56, 3, 9004, 0, 0) :: (32, .putfield 38, 3, 1, 7, 0) :: (35, .iconst 0, 1, 0, 0, 0) :: (36, .istore 4, 2, 4, 0, 0) :: px_c9_38
def px_c10_80 : List px_I := (80, .iload_n 3, 1, 3, 0, 0) :: (81, .ireturn, 1, 0, 0, 0) :: []
def px_c10_74 : List px_I := (74, .iinc 4 1, 3, 4, 0, 1) :: (77, .goto (-72), 3, 5, 0, 0) :: px_c10_80
def px_c10_64 : List px_I := (64, .istore 5, 2, 5, 0, 0) :: (66, .iload 5, 2, 5, 0, 0) :: (68, .ifCond .eq 6, 3, 74, 0, 0) :: (71, .iload 4, 2, 4, 0, 0) :: (73, .istore_n 3, 1, 3, 0, 0) :: px_c10_74
def px_c10_63 : List px_I := (63, .iconst 0, 1, 0, 0, 0) :: px_c10_64
def px_c10_59 : List px_I := (59, .iconst 1, 1, 0, 0, 1) :: (60, .goto 4, 3, 64, 0, 0) :: px_c10_63
def px_c10_35 : List px_I := (35, .aload_n 0, 1, 0, 0, 0) :: (36, .aload_n 1, 1, 1, 0, 0) :: (37, .iload 4, 2, 4, 0, 0) :: (39, .invokevirtual 85, 3, 13, 3, 0) :: (42, .ifCond .eq 21, 3, 63, 0, 0) :: (45, .iload_n 2, 1, 2, 0, 0) :: (46, .iconst 2, 1, 0, 0, 2) :: (47, .if_icmp .ne 12, 3, 59, 0, 0) :: (50, .aload_n 0, 1, 0, 0, 0) :: (51, .iload 4, 2, 4, 0, 0) :: (53, .invokevirtual 89, 3, 14, 2, 0) :: (56, .ifCond .eq 7, 3, 63, 0, 0) :: px_c10_59
def px_c10_5 : List px_I := (5, .iload 4, 2, 4, 0, 0) :: (7, .iconst 1, 1, 0, 0, 1) :: (8, .aload_n 0, 1, 0, 0, 0) :: (9, .getfield 38, 3, 1, 7, 0) :: (12, .ishl, 1, 0, 0, 0) :: (13, .if_icmp .ge 67, 3, 80, 0, 0) :: (16, .iload_n 3, 1, 3, 0, 0) :: (17, .iconst (-1), 1, 0, 0, (-1)) :: (18, .if_icmp .eq 17, 3, 35, 0, 0) :: (21, .aload_n 0, 1, 0, 0, 0) :: (22, .iload 4, 2, 4, 0, 0) :: (24, .iload_n 3, 1, 3, 0, 0) :: (25, .iload_n 2, 1, 2, 0, 0) :: (26, .invokevirtual 81, 3, 11, 4, 0) :: (29, .ifCond .ne 6, 3, 35, 0, 0) :: (32, .goto 42, 3, 74, 0, 0) :: px_c10_35
def px_c10_0 : List px_I := (0, .iconst (-1), 1, 0, 0, (-1)) :: (1, .istore_n 3, 1, 3, 0, 0) :: (2, .iconst 0, 1, 0, 0, 0) :: (3, .istore 4, 2, 4, 0, 0) :: px_c10_5
def px_c11_50 : List px_I := (50, .ireturn, 1, 0, 0, 0) :: []
def px_c11_49 : List px_I := (49, .iconst 0, 1, 0, 0, 0) :: px_c11_50
def px_c11_32 : List px_I := (32, .aload_n 0, 1, 0, 0, 0) :: (33, .iload_n 1, 1, 1, 0, 0) :: (34, .invokevirtual 97, 3, 12, 2, 0) :: (37, .aload_n 0, 1, 0, 0, 0) :: (38, .iload_n 2, 1, 2, 0, 0) :: (39, .invokevirtual 97, 3, 12, 2, 0) :: (42, .if_icmp .ge 7, 3, 49, 0, 0) :: (45, .iconst 1, 1, 0, 0, 1) :: (46, .goto 4, 3, 50, 0, 0) :: px_c11_49
def px_c11_31 : List px_I := (31, .ireturn, 1, 0, 0, 0) :: px_c11_32
def px_c11_30 : List px_I := (30, .iconst 0, 1, 0, 0, 0) :: px_c11_31
def px_c11_0 : List px_I := (0, .iload_n 1, 1, 1, 0, 0) :: (1, .invokestatic 93, 3, 247, 1, 0) :: (4, .iload_n 2, 1, 2, 0, 0) :: (5, .invokestatic 93, 3, 247, 1, 0) :: (8, .isub, 1, 0, 0, 0) :: (9, .istore 4, 2, 4, 0, 0) :: (11, .iload_n 3, 1, 3, 0, 0) :: (12, .iconst 1, 1, 0, 0, 1) :: (13, .if_icmp .ne 19, 3, 32, 0, 0) :: (16, .iload 4, 2, 4, 0, 0) :: (18, .ifCond .eq 14, 3, 32, 0, 0) :: (21, .iload 4, 2, 4, 0, 0) :: (23, .ifCond .ge 7, 3, 30, 0, 0) :: (26, .iconst 1, 1, 0, 0, 1) :: (27, .goto 4, 3, 31, 0, 0) :: px_c11_30
def px_c12_35 : List px_I := (35, .iload_n 2, 1, 2, 0, 0) :: (36, .ireturn, 1, 0, 0, 0) :: []
def px_c12_29 : List px_I := (29, .iinc 3 1, 3, 3, 0, 1) :: (32, .goto (-28), 3, 4, 0, 0) :: px_c12_35
def px_c12_4 : List px_I := (4, .iload_n 3, 1, 3, 0, 0) :: (5, .aload_n 0, 1, 0, 0, 0) :: (6, .getfield 38, 3, 1, 7, 0) :: (9, .if_icmp .ge 26, 3, 35, 0, 0) :: (12, .iload_n 1, 1, 1, 0, 0) :: (13, .iload_n 3, 1, 3, 0, 0) :: (14, .invokestatic 100, 3, 142, 2, 0) :: (17, .ifCond .eq 12, 3, 29, 0, 0) :: (20, .iload_n 2, 1, 2, 0, 0) :: (21, .aload_n 0, 1, 0, 0, 0) :: (22, .getfield 24, 3, 1, 4, 0) :: (25, .iload_n 3, 1, 3, 0, 0) :: (26, .iaload, 1, 0, 0, 0) :: (27, .iadd, 1, 0, 0, 0) :: (28, .istore_n 2, 1, 2, 0, 0) :: px_c12_29
def px_c12_0 : List px_I := (0, .iconst 0, 1, 0, 0, 0) :: (1, .istore_n 2, 1, 2, 0, 0) :: (2, .iconst 0, 1, 0, 0, 0) :: (3, .istore_n 3, 1, 3, 0, 0) :: px_c12_4
def px_c13_24 : List px_I := (24, .ireturn, 1, 0, 0, 0) :: []
def px_c13_23 : List px_I := (23, .iconst 0, 1, 0, 0, 0) :: px_c13_24
def px_c13_0 : List px_I := (0, .aload_n 0, 1, 0, 0, 0) :: (1, .iload_n 2, 1, 2, 0, 0) :: (2, .invokevirtual 104, 3, 15, 2, 0) :: (5, .ifCond .eq 18, 3, 23, 0, 0) :: (8, .aload_n 0, 1, 0, 0, 0) :: (9, .getfield 30, 3, 1, 5, 0) :: (12, .aload_n 1, 1, 1, 0, 0) :: (13, .invokevirtual 107, 3, 23, 2, 0) :: (16, .ifCond .ne 7, 3, 23, 0, 0) :: (19, .iconst 1, 1, 0, 0, 1) :: (20, .goto 4, 3, 24, 0, 0) :: px_c13_23
def px_c14_40 : List px_I := (40, .iconst 1, 1, 0, 0, 1) :: (41, .ireturn, 1, 0, 0, 0) :: []
def px_c14_34 : List px_I := (34, .iinc 2 1, 3, 2, 0, 1) :: (37, .goto (-35), 3, 2, 0, 0) :: px_c14_40
def px_c14_2 : List px_I := (2, .iload_n 2, 1, 2, 0, 0) :: (3, .aload_n 0, 1, 0, 0, 0) :: (4, .getfield 38, 3, 1, 7, 0) :: (7, .if_icmp .ge 33, 3, 40, 0, 0) :: (10, .iload_n 1, 1, 1, 0, 0) :: (11, .iload_n 2, 1, 2, 0, 0) :: (12, .invokestatic 100, 3, 142, 2, 0) :: (15, .ifCond .eq 19, 3, 34, 0, 0) :: (18, .aload_n 0, 1, 0, 0, 0) :: (19, .iload_n 1, 1, 1, 0, 0) :: (20, .iconst 1, 1, 0, 0, 1) :: (21, .iload_n 2, 1, 2, 0, 0) :: (22, .ishl, 1, 0, 0, 0) :: (23, .iconst (-1), 1, 0, 0, (-1)) :: (24, .ixor, 1, 0, 0, 0) :: (25, .iand, 1, 0, 0, 0) :: (26, .invokevirtual 104, 3, 15, 2, 0) :: (29, .ifCond .ne 5, 3, 34, 0, 0) :: (32, .iconst 0, 1, 0, 0, 0) :: (33, .ireturn, 1, 0, 0, 0) :: px_c14_34
def px_c14_0 : List px_I := (0, .iconst 0, 1, 0, 0, 0) :: (1, .istore_n 2, 1, 2, 0, 0) :: px_c14_2
def px_c15_97 : List px_I := (97, .iconst 1, 1, 0, 0, 1) :: (98, .ireturn, 1, 0, 0, 0) :: []
def px_c15_81 : List px_I := (81, .aload_n 0, 1, 0, 0, 0) :: (82, .getfield 30, 3, 1, 5, 0) :: (85, .getfield 111, 3, 2, 2, 0) :: (88, .iload_n 2, 1, 2, 0, 0) :: (89, .iload_n 3, 1, 3, 0, 0) :: (90, .iastore, 1, 0, 0, 0) :: (91, .iinc 2 1, 3, 2, 0, 1) :: (94, .goto (-92), 3, 2, 0, 0) :: px_c15_97
def px_c15_79 : List px_I := (79, .iconst 0, 1, 0, 0, 0) :: (80, .ireturn, 1, 0, 0, 0) :: px_c15_81
def px_c15_59 : List px_I := (59, .iload_n 3, 1, 3, 0, 0) :: (60, .aload_n 0, 1, 0, 0, 0) :: (61, .getfield 18, 3, 1, 2, 0) :: (64, .iload_n 2, 1, 2, 0, 0) :: (65, .iaload, 1, 0, 0, 0) :: (66, .if_icmp .lt 13, 3, 79, 0, 0) :: (69, .iload_n 3, 1, 3, 0, 0) :: (70, .aload_n 0, 1, 0, 0, 0) :: (71, .getfield 21, 3, 1, 3, 0) :: (74, .iload_n 2, 1, 2, 0, 0) :: (75, .iaload, 1, 0, 0, 0) :: (76, .if_icmp .le 5, 3, 81, 0, 0) :: px_c15_79
def px_c15_53 : List px_I := (53, .iinc 4 1, 3, 4, 0, 1) :: (56, .goto (-36), 3, 20, 0, 0) :: px_c15_59
def px_c15_20 : List px_I := (20, .iload 4, 2, 4, 0, 0) :: (22, .aload_n 0, 1, 0, 0, 0) :: (23, .getfield 38, 3, 1, 7, 0) :: (26, .if_icmp .ge 33, 3, 59, 0, 0) :: (29, .iload_n 1, 1, 1, 0, 0) :: (30, .iload 4, 2, 4, 0, 0) :: (32, .invokestatic 100, 3, 142, 2, 0) :: (35, .ifCond .eq 18, 3, 53, 0, 0) :: (38, .iload_n 3, 1, 3, 0, 0) :: (39, .aload_n 0, 1, 0, 0, 0) :: (40, .getfield 9, 3, 1, 0, 0) :: (43, .iload 4, 2, 4, 0, 0) :: (45, .bipush 120, 2, 0, 0, 120) :: (47, .imul, 1, 0, 0, 0) :: (48, .iload_n 2, 1, 2, 0, 0) :: (49, .iadd, 1, 0, 0, 0) :: (50, .iaload, 1, 0, 0, 0) :: (51, .iadd, 1, 0, 0, 0) :: (52, .istore_n 3, 1, 3, 0, 0) :: px_c15_53
def px_c15_2 : List px_I := (2, .iload_n 2, 1, 2, 0, 0) :: (3, .aload_n 0, 1, 0, 0, 0) :: (4, .getfield 34, 3, 1, 6, 0) :: (7, .if_icmp .ge 90, 3, 97, 0, 0) :: (10, .aload_n 0, 1, 0, 0, 0) :: (11, .getfield 15, 3, 1, 1, 0) :: (14, .iload_n 2, 1, 2, 0, 0) :: (15, .iaload, 1, 0, 0, 0) :: (16, .istore_n 3, 1, 3, 0, 0) :: (17, .iconst 0, 1, 0, 0, 0) :: (18, .istore 4, 2, 4, 0, 0) :: px_c15_20
def px_c15_0 : List px_I := (0, .iconst 0, 1, 0, 0, 0) :: (1, .istore_n 2, 1, 2, 0, 0) :: px_c15_2
def px_c16_37 : List px_I := (37, .iload_n 1, 1, 1, 0, 0) :: (38, .ireturn, 1, 0, 0, 0) :: []
def px_c16_25 : List px_I := (25, .iload_n 1, 1, 1, 0, 0) :: (26, .iload_n 3, 1, 3, 0, 0) :: (27, .invokestatic 117, 3, 9003, 0, 0) :: (30, .istore_n 1, 1, 1, 0, 0) :: (31, .iinc 2 1, 3, 2, 0, 1) :: (34, .goto (-30), 3, 4, 0, 0) :: px_c16_37
def px_c16_4 : List px_I := (4, .iload_n 2, 1, 2, 0, 0) :: (5, .aload_n 0, 1, 0, 0, 0) :: (6, .getfield 34, 3, 1, 6, 0) :: (9, .if_icmp .ge 28, 3, 37, 0, 0) :: (12, .aload_n 0, 1, 0, 0, 0) :: (13, .iload_n 2, 1, 2, 0, 0) :: (14, .invokevirtual 114, 3, 17, 2, 0) :: (17, .istore_n 3, 1, 3, 0, 0) :: (18, .iload_n 3, 1, 3, 0, 0) :: (19, .iconst (-1), 1, 0, 0, (-1)) :: (20, .if_icmp .ne 5, 3, 25, 0, 0) :: (23, .iconst (-1), 1, 0, 0, (-1)) :: (24, .ireturn, 1, 0, 0, 0) :: px_c16_25
def px_c16_0 : List px_I := (0, .iconst 0, 1, 0, 0, 0) :: (1, .istore_n 1, 1, 1, 0, 0) :: (2, .iconst 0, 1, 0, 0, 0) :: (3, .istore_n 2, 1, 2, 0, 0) :: px_c16_4
def px_c17_96 : List px_I := (96, .ireturn, 1, 0, 0, 0) :: []
def px_c17_95 : List px_I := (95, .iconst (-1), 1, 0, 0, (-1)) :: px_c17_96
def px_c17_78 : List px_I := (78, .iload_n 2, 1, 2, 0, 0) :: (79, .aload_n 0, 1, 0, 0, 0) :: (80, .getfield 18, 3, 1, 2, 0) :: (83, .iload_n 1, 1, 1, 0, 0) :: (84, .iaload, 1, 0, 0, 0) :: (85, .if_icmp .lt 10, 3, 95, 0, 0) :: (88, .aload_n 0, 1, 0, 0, 0) :: (89, .getfield 38, 3, 1, 7, 0) :: (92, .goto 4, 3, 96, 0, 0) :: px_c17_95
def px_c17_50 : List px_I := (50, .iload_n 2, 1, 2, 0, 0) :: (51, .aload_n 0, 1, 0, 0, 0) :: (52, .getfield 9, 3, 1, 0, 0) :: (55, .iload 5, 2, 5, 0, 0) :: (57, .bipush 120, 2, 0, 0, 120) :: (59, .imul, 1, 0, 0, 0) :: (60, .iload_n 1, 1, 1, 0, 0) :: (61, .iadd, 1, 0, 0, 0) :: (62, .iaload, 1, 0, 0, 0) :: (63, .iadd, 1, 0, 0, 0) :: (64, .istore_n 2, 1, 2, 0, 0) :: (65, .iload_n 3, 1, 3, 0, 0) :: (66, .iconst 1, 1, 0, 0, 1) :: (67, .iload 5, 2, 5, 0, 0) :: (69, .ishl, 1, 0, 0, 0) :: (70, .ior, 1, 0, 0, 0) :: (71, .istore_n 3, 1, 3, 0, 0) :: (72, .iinc 4 1, 3, 4, 0, 1) :: (75, .goto (-63), 3, 12, 0, 0) :: px_c17_78
def px_c17_34 : List px_I := (34, .aload_n 0, 1, 0, 0, 0) :: (35, .iload_n 3, 1, 3, 0, 0) :: (36, .iload_n 1, 1, 1, 0, 0) :: (37, .invokevirtual 120, 3, 18, 3, 0) :: (40, .istore 5, 2, 5, 0, 0) :: (42, .iload 5, 2, 5, 0, 0) :: (44, .iconst (-1), 1, 0, 0, (-1)) :: (45, .if_icmp .ne 5, 3, 50, 0, 0) :: (48, .iconst (-1), 1, 0, 0, (-1)) :: (49, .ireturn, 1, 0, 0, 0) :: px_c17_50
def px_c17_12 : List px_I := (12, .iload 4, 2, 4, 0, 0) :: (14, .aload_n 0, 1, 0, 0, 0) :: (15, .getfield 38, 3, 1, 7, 0) :: (18, .if_icmp .ge 60, 3, 78, 0, 0) :: (21, .iload_n 2, 1, 2, 0, 0) :: (22, .aload_n 0, 1, 0, 0, 0) :: (23, .getfield 18, 3, 1, 2, 0) :: (26, .iload_n 1, 1, 1, 0, 0) :: (27, .iaload, 1, 0, 0, 0) :: (28, .if_icmp .lt 6, 3, 34, 0, 0) :: (31, .iload 4, 2, 4, 0, 0) :: (33, .ireturn, 1, 0, 0, 0) :: px_c17_34
def px_c17_0 : List px_I := (0, .aload_n 0, 1, 0, 0, 0) :: (1, .getfield 15, 3, 1, 1, 0) :: (4, .iload_n 1, 1, 1, 0, 0) :: (5, .iaload, 1, 0, 0, 0) :: (6, .istore_n 2, 1, 2, 0, 0) :: (7, .iconst 0, 1, 0, 0, 0) :: (8, .istore_n 3, 1, 3, 0, 0) :: (9, .iconst 0, 1, 0, 0, 0) :: (10, .istore 4, 2, 4, 0, 0) :: px_c17_12
def px_c18_66 : List px_I := (66, .iload_n 3, 1, 3, 0, 0) :: (67, .ireturn, 1, 0, 0, 0) :: []
def px_c18_60 : List px_I := (60, .iinc 4 1, 3, 4, 0, 1) :: (63, .goto (-58), 3, 5, 0, 0) :: px_c18_66
def px_c18_57 : List px_I := (57, .iload 4, 2, 4, 0, 0) :: (59, .istore_n 3, 1, 3, 0, 0) :: px_c18_60
def px_c18_26 : List px_I := (26, .iload_n 3, 1, 3, 0, 0) :: (27, .iconst (-1), 1, 0, 0, (-1)) :: (28, .if_icmp .eq 29, 3, 57, 0, 0) :: (31, .aload_n 0, 1, 0, 0, 0) :: (32, .getfield 9, 3, 1, 0, 0) :: (35, .iload 4, 2, 4, 0, 0) :: (37, .bipush 120, 2, 0, 0, 120) :: (39, .imul, 1, 0, 0, 0) :: (40, .iload_n 2, 1, 2, 0, 0) :: (41, .iadd, 1, 0, 0, 0) :: (42, .iaload, 1, 0, 0, 0) :: (43, .aload_n 0, 1, 0, 0, 0) :: (44, .getfield 9, 3, 1, 0, 0) :: (47, .iload_n 3, 1, 3, 0, 0) :: (48, .bipush 120, 2, 0, 0, 120) :: (50, .imul, 1, 0, 0, 0) :: (51, .iload_n 2, 1, 2, 0, 0) :: (52, .iadd, 1, 0, 0, 0) :: (53, .iaload, 1, 0, 0, 0) :: (54, .if_icmp .le 6, 3, 60, 0, 0) :: px_c18_57
def px_c18_5 : List px_I := (5, .iload 4, 2, 4, 0, 0) :: (7, .aload_n 0, 1, 0, 0, 0) :: (8, .getfield 38, 3, 1, 7, 0) :: (11, .if_icmp .ge 55, 3, 66, 0, 0) :: (14, .iload_n 1, 1, 1, 0, 0) :: (15, .iload 4, 2, 4, 0, 0) :: (17, .invokestatic 100, 3, 142, 2, 0) :: (20, .ifCond .eq 6, 3, 26, 0, 0) :: (23, .goto 37, 3, 60, 0, 0) :: px_c18_26
def px_c18_0 : List px_I := (0, .iconst (-1), 1, 0, 0, (-1)) :: (1, .istore_n 3, 1, 3, 0, 0) :: (2, .iconst 0, 1, 0, 0, 0) :: (3, .istore 4, 2, 4, 0, 0) :: px_c18_5
def px_c19_0 : List px_I := (0, .aload_n 0, 1, 0, 0, 0) :: (1, .invokespecial 3, 3, 9000, 0, 0) :: (4, .aload_n 0, 1, 0, 0, 0) :: (5, .bipush 120, 2, 0, 0, 120) :: (7, .newarray .boolean, 2, 101, 0, 0) :: (9, .putfield 9, 3, 2, 0, 0) :: (12, .aload_n 0, 1, 0, 0, 0) :: (13, .bipush 120, 2, 0, 0, 120) :: (15, .newarray .int, 2, 100, 0, 0) :: (17, .putfield 15, 3, 2, 1, 0) :: (20, .aload_n 0, 1, 0, 0, 0) :: (21, .bipush 120, 2, 0, 0, 120) :: (23, .newarray .int, 2, 100, 0, 0) :: (25, .putfield 19, 3, 2, 2, 0) :: (28, .aload_n 0, 1, 0, 0, 0) :: (29, .iconst 0, 1, 0, 0, 0) :: (30, .putfield 22, 3, 2, 3, 0) :: (33, .return_, 1, 0, 0, 0) :: []
def px_c20_44 : List px_I := (44, .return_, 1, 0, 0, 0) :: []
def px_c20_19 : List px_I := (19, .iload_n 2, 1, 2, 0, 0) :: (20, .aload_n 0, 1, 0, 0, 0) :: (21, .getfield 22, 3, 2, 3, 0) :: (24, .if_icmp .ge 20, 3, 44, 0, 0) :: (27, .aload_n 0, 1, 0, 0, 0) :: (28, .getfield 9, 3, 2, 0, 0) :: (31, .iload_n 2, 1, 2, 0, 0) :: (32, .aload_n 1, 1, 1, 0, 0) :: (33, .iload_n 2, 1, 2, 0, 0) :: (34, .invokevirtual 37, 3, 50, 2, 0) :: (37, .bastore, 1, 0, 0, 0) :: (38, .iinc 2 1, 3, 2, 0, 1) :: (41, .goto (-22), 3, 19, 0, 0) :: px_c20_44
def px_c20_0 : List px_I := (0, .aload_n 0, 1, 0, 0, 0) :: (1, .aload_n 1, 1, 1, 0, 0) :: (2, .getfield 26, 3, 4, 0, 0) :: (5, .iconst 3, 1, 0, 0, 3) :: (6, .iaload, 1, 0, 0, 0) :: (7, .iconst 2, 1, 0, 0, 2) :: (8, .imul, 1, 0, 0, 0) :: (9, .bipush 120, 2, 0, 0, 120) :: (11, .invokestatic 31, 3, 9004, 0, 0) :: (14, .putfield 22, 3, 2, 3, 0) :: (17, .iconst 0, 1, 0, 0, 0) :: (18, .istore_n 2, 1, 2, 0, 0) :: px_c20_19
def px_c21_40 : List px_I := (40, .return_, 1, 0, 0, 0) :: []
def px_c21_8 : List px_I := (8, .iload 5, 2, 5, 0, 0) :: (10, .aload_n 0, 1, 0, 0, 0) :: (11, .getfield 22, 3, 2, 3, 0) :: (14, .if_icmp .ge 26, 3, 40, 0, 0) :: (17, .aload_n 0, 1, 0, 0, 0) :: (18, .getfield 15, 3, 2, 1, 0) :: (21, .iload 5, 2, 5, 0, 0) :: (23, .aload_n 1, 1, 1, 0, 0) :: (24, .iload_n 2, 1, 2, 0, 0) :: (25, .iload_n 3, 1, 3, 0, 0) :: (26, .iload 5, 2, 5, 0, 0) :: (28, .iload 4, 2, 4, 0, 0) :: (30, .invokevirtual 44, 3, 64, 5, 0) :: (33, .iastore, 1, 0, 0, 0) :: (34, .iinc 5 1, 3, 5, 0, 1) :: (37, .goto (-29), 3, 8, 0, 0) :: px_c21_40
def px_c21_0 : List px_I := (0, .aload_n 0, 1, 0, 0, 0) :: (1, .aload_n 1, 1, 1, 0, 0) :: (2, .invokevirtual 40, 3, 20, 2, 0) :: (5, .iconst 0, 1, 0, 0, 0) :: (6, .istore 5, 2, 5, 0, 0) :: px_c21_8
def px_c22_35 : List px_I := (35, .return_, 1, 0, 0, 0) :: []
def px_c22_2 : List px_I := (2, .iload_n 3, 1, 3, 0, 0) :: (3, .aload_n 0, 1, 0, 0, 0) :: (4, .getfield 22, 3, 2, 3, 0) :: (7, .if_icmp .ge 28, 3, 35, 0, 0) :: (10, .aload_n 0, 1, 0, 0, 0) :: (11, .getfield 19, 3, 2, 2, 0) :: (14, .iload_n 3, 1, 3, 0, 0) :: (15, .aload_n 0, 1, 0, 0, 0) :: (16, .getfield 15, 3, 2, 1, 0) :: (19, .iload_n 3, 1, 3, 0, 0) :: (20, .iaload, 1, 0, 0, 0) :: (21, .aload_n 1, 1, 1, 0, 0) :: (22, .iload_n 3, 1, 3, 0, 0) :: (23, .iload_n 2, 1, 2, 0, 0) :: (24, .invokevirtual 47, 3, 68, 3, 0) :: (27, .iadd, 1, 0, 0, 0) :: (28, .iastore, 1, 0, 0, 0) :: (29, .iinc 3 1, 3, 3, 0, 1) :: (32, .goto (-30), 3, 2, 0, 0) :: px_c22_35
def px_c22_0 : List px_I := (0, .iconst 0, 1, 0, 0, 0) :: (1, .istore_n 3, 1, 3, 0, 0) :: px_c22_2
def px_c23_46 : List px_I := (46, .ireturn, 1, 0, 0, 0) :: []
def px_c23_45 : List px_I := (45, .iconst 0, 1, 0, 0, 0) :: px_c23_46
def px_c23_32 : List px_I := (32, .aload_n 0, 1, 0, 0, 0) :: (33, .aload_n 1, 1, 1, 0, 0) :: (34, .invokevirtual 61, 3, 29, 2, 0) :: (37, .iconst (-1), 1, 0, 0, (-1)) :: (38, .if_icmp .eq 7, 3, 45, 0, 0) :: (41, .iconst 4, 1, 0, 0, 4) :: (42, .goto 4, 3, 46, 0, 0) :: px_c23_45
def px_c23_21 : List px_I := (21, .aload_n 0, 1, 0, 0, 0) :: (22, .aload_n 1, 1, 1, 0, 0) :: (23, .invokevirtual 58, 3, 28, 2, 0) :: (26, .iconst (-1), 1, 0, 0, (-1)) :: (27, .if_icmp .eq 5, 3, 32, 0, 0) :: (30, .iconst 3, 1, 0, 0, 3) :: (31, .ireturn, 1, 0, 0, 0) :: px_c23_32
def px_c23_11 : List px_I := (11, .aload_n 0, 1, 0, 0, 0) :: (12, .invokevirtual 54, 3, 27, 1, 0) :: (15, .iconst (-1), 1, 0, 0, (-1)) :: (16, .if_icmp .eq 5, 3, 21, 0, 0) :: (19, .iconst 2, 1, 0, 0, 2) :: (20, .ireturn, 1, 0, 0, 0) :: px_c23_21
def px_c23_0 : List px_I := (0, .aload_n 0, 1, 0, 0, 0) :: (1, .aload_n 1, 1, 1, 0, 0) :: (2, .invokevirtual 50, 3, 26, 2, 0) :: (5, .iconst (-1), 1, 0, 0, (-1)) :: (6, .if_icmp .eq 5, 3, 11, 0, 0) :: (9, .iconst 1, 1, 0, 0, 1) :: (10, .ireturn, 1, 0, 0, 0) :: px_c23_11
def px_c24_55 : List px_I := (55, .iconst (-1), 1, 0, 0, (-1)) :: (56, .ireturn, 1, 0, 0, 0) :: []
def px_c24_49 : List px_I := (49, .aload_n 0, 1, 0, 0, 0) :: (50, .aload_n 1, 1, 1, 0, 0) :: (51, .invokevirtual 61, 3, 29, 2, 0) :: (54, .ireturn, 1, 0, 0, 0) :: px_c24_55
def px_c24_43 : List px_I := (43, .aload_n 0, 1, 0, 0, 0) :: (44, .aload_n 1, 1, 1, 0, 0) :: (45, .invokevirtual 58, 3, 28, 2, 0) :: (48, .ireturn, 1, 0, 0, 0) :: px_c24_49
def px_c24_38 : List px_I := (38, .aload_n 0, 1, 0, 0, 0) :: (39, .invokevirtual 54, 3, 27, 1, 0) :: (42, .ireturn, 1, 0, 0, 0) :: px_c24_43
def px_c24_32 : List px_I := (32, .aload_n 0, 1, 0, 0, 0) :: (33, .aload_n 1, 1, 1, 0, 0) :: (34, .invokevirtual 50, 3, 26, 2, 0) :: (37, .ireturn, 1, 0, 0, 0) :: px_c24_38
def px_c24_0 : List px_I := (0, .iload_n 2, 1, 2, 0, 0) :: (1, .tableswitch 54 1 4 #[31, 37, 42, 48], 31, 0, 0, 0) :: px_c24_32
def px_c25_25 : List px_I := (25, .ireturn, 1, 0, 0, 0) :: []
def px_c25_24 : List px_I := (24, .iconst (-1), 1, 0, 0, (-1)) :: px_c25_25
def px_c25_0 : List px_I := (0, .aload_n 0, 1, 0, 0, 0) :: (1, .invokevirtual 64, 3, 30, 1, 0) :: (4, .istore_n 1, 1, 1, 0, 0) :: (5, .iload_n 1, 1, 1, 0, 0) :: (6, .ifCond .lt 18, 3, 24, 0, 0) :: (9, .iload_n 1, 1, 1, 0, 0) :: (10, .bipush 120, 2, 0, 0, 120) :: (12, .if_icmp .ge 12, 3, 24, 0, 0) :: (15, .aload_n 0, 1, 0, 0, 0) :: (16, .getfield 19, 3, 2, 2, 0) :: (19, .iload_n 1, 1, 1, 0, 0) :: (20, .iaload, 1, 0, 0, 0) :: (21, .goto 4, 3, 25, 0, 0) :: px_c25_24
def px_c26_42 : List px_I := (42, .iconst (-1), 1, 0, 0, (-1)) :: (43, .ireturn, 1, 0, 0, 0) :: []
def px_c26_36 : List px_I := (36, .iinc 2 1, 3, 2, 0, 1) :: (39, .goto (-37), 3, 2, 0, 0) :: px_c26_42
def px_c26_2 : List px_I := (2, .iload_n 2, 1, 2, 0, 0) :: (3, .aload_n 0, 1, 0, 0, 0) :: (4, .getfield 22, 3, 2, 3, 0) :: (7, .if_icmp .ge 35, 3, 42, 0, 0) :: (10, .aload_n 0, 1, 0, 0, 0) :: (11, .getfield 19, 3, 2, 2, 0) :: (14, .iload_n 2, 1, 2, 0, 0) :: (15, .iaload, 1, 0, 0, 0) :: (16, .aload_n 1, 1, 1, 0, 0) :: (17, .getfield 26, 3, 4, 0, 0) :: (20, .iconst 0, 1, 0, 0, 0) :: (21, .iaload, 1, 0, 0, 0) :: (22, .if_icmp .ge 14, 3, 36, 0, 0) :: (25, .aload_n 0, 1, 0, 0, 0) :: (26, .getfield 9, 3, 2, 0, 0) :: (29, .iload_n 2, 1, 2, 0, 0) :: (30, .baload, 1, 0, 0, 0) :: (31, .ifCond .ne 5, 3, 36, 0, 0) :: (34, .iload_n 2, 1, 2, 0, 0) :: (35, .ireturn, 1, 0, 0, 0) :: px_c26_36
def px_c26_0 : List px_I := (0, .iconst 0, 1, 0, 0, 0) :: (1, .istore_n 2, 1, 2, 0, 0) :: px_c26_2
def px_c27_37 : List px_I := (37, .iconst (-1), 1, 0, 0, (-1)) :: (38, .ireturn, 1, 0, 0, 0) :: []
def px_c27_31 : List px_I := (31, .iinc 1 1, 3, 1, 0, 1) :: (34, .goto (-32), 3, 2, 0, 0) :: px_c27_37
def px_c27_2 : List px_I := (2, .iload_n 1, 1, 1, 0, 0) :: (3, .aload_n 0, 1, 0, 0, 0) :: (4, .getfield 22, 3, 2, 3, 0) :: (7, .if_icmp .ge 30, 3, 37, 0, 0) :: (10, .aload_n 0, 1, 0, 0, 0) :: (11, .getfield 19, 3, 2, 2, 0) :: (14, .iload_n 1, 1, 1, 0, 0) :: (15, .iaload, 1, 0, 0, 0) :: (16, .iconst 5, 1, 0, 0, 5) :: (17, .if_icmp .le 14, 3, 31, 0, 0) :: (20, .aload_n 0, 1, 0, 0, 0) :: (21, .getfield 9, 3, 2, 0, 0) :: (24, .iload_n 1, 1, 1, 0, 0) :: (25, .baload, 1, 0, 0, 0) :: (26, .ifCond .eq 5, 3, 31, 0, 0) :: (29, .iload_n 1, 1, 1, 0, 0) :: (30, .ireturn, 1, 0, 0, 0) :: px_c27_31
def px_c27_0 : List px_I := (0, .iconst 0, 1, 0, 0, 0) :: (1, .istore_n 1, 1, 1, 0, 0) :: px_c27_2
def px_c28_72 : List px_I := (72, .iconst (-1), 1, 0, 0, (-1)) :: (73, .ireturn, 1, 0, 0, 0) :: []
def px_c28_66 : List px_I := (66, .iinc 4 1, 3, 4, 0, 1) :: (69, .goto (-35), 3, 34, 0, 0) :: px_c28_72
def px_c28_34 : List px_I := (34, .iload 4, 2, 4, 0, 0) :: (36, .aload_n 0, 1, 0, 0, 0) :: (37, .getfield 22, 3, 2, 3, 0) :: (40, .if_icmp .ge 32, 3, 72, 0, 0) :: (43, .aload_n 0, 1, 0, 0, 0) :: (44, .getfield 19, 3, 2, 2, 0) :: (47, .iload 4, 2, 4, 0, 0) :: (49, .iaload, 1, 0, 0, 0) :: (50, .iload_n 3, 1, 3, 0, 0) :: (51, .if_icmp .le 15, 3, 66, 0, 0) :: (54, .aload_n 0, 1, 0, 0, 0) :: (55, .getfield 9, 3, 2, 0, 0) :: (58, .iload 4, 2, 4, 0, 0) :: (60, .baload, 1, 0, 0, 0) :: (61, .ifCond .ne 5, 3, 66, 0, 0) :: (64, .iload_n 2, 1, 2, 0, 0) :: (65, .ireturn, 1, 0, 0, 0) :: px_c28_66
def px_c28_17 : List px_I := (17, .aload_n 1, 1, 1, 0, 0) :: (18, .getfield 26, 3, 4, 0, 0) :: (21, .iconst 1, 1, 0, 0, 1) :: (22, .iaload, 1, 0, 0, 0) :: (23, .aload_n 0, 1, 0, 0, 0) :: (24, .getfield 19, 3, 2, 2, 0) :: (27, .iload_n 2, 1, 2, 0, 0) :: (28, .iaload, 1, 0, 0, 0) :: (29, .imul, 1, 0, 0, 0) :: (30, .istore_n 3, 1, 3, 0, 0) :: (31, .iconst 0, 1, 0, 0, 0) :: (32, .istore 4, 2, 4, 0, 0) :: px_c28_34
def px_c28_15 : List px_I := (15, .iconst (-1), 1, 0, 0, (-1)) :: (16, .ireturn, 1, 0, 0, 0) :: px_c28_17
def px_c28_0 : List px_I := (0, .aload_n 0, 1, 0, 0, 0) :: (1, .invokevirtual 64, 3, 30, 1, 0) :: (4, .istore_n 2, 1, 2, 0, 0) :: (5, .iload_n 2, 1, 2, 0, 0) :: (6, .ifCond .lt 9, 3, 15, 0, 0) :: (9, .iload_n 2, 1, 2, 0, 0) :: (10, .bipush 120, 2, 0, 0, 120) :: (12, .if_icmp .lt 5, 3, 17, 0, 0) :: px_c28_15
def px_c29_73 : List px_I := (73, .iconst (-1), 1, 0, 0, (-1)) :: (74, .ireturn, 1, 0, 0, 0) :: []
def px_c29_67 : List px_I := (67, .iinc 2 1, 3, 2, 0, 1) :: (70, .goto (-68), 3, 2, 0, 0) :: px_c29_73
def px_c29_40 : List px_I := (40, .istore 4, 2, 4, 0, 0) :: (42, .iload 4, 2, 4, 0, 0) :: (44, .ifCond .eq 23, 3, 67, 0, 0) :: (47, .aload_n 0, 1, 0, 0, 0) :: (48, .getfield 19, 3, 2, 2, 0) :: (51, .iload_n 3, 1, 3, 0, 0) :: (52, .iaload, 1, 0, 0, 0) :: (53, .aload_n 1, 1, 1, 0, 0) :: (54, .getfield 67, 3, 4, 5, 0) :: (57, .iload_n 2, 1, 2, 0, 0) :: (58, .iconst 1, 1, 0, 0, 1) :: (59, .invokevirtual 76, 3, 82, 3, 0) :: (62, .if_icmp .le 5, 3, 67, 0, 0) :: (65, .iload_n 3, 1, 3, 0, 0) :: (66, .ireturn, 1, 0, 0, 0) :: px_c29_67
def px_c29_39 : List px_I := (39, .iconst 0, 1, 0, 0, 0) :: px_c29_40
def px_c29_2 : List px_I := (2, .iload_n 2, 1, 2, 0, 0) :: (3, .aload_n 1, 1, 1, 0, 0) :: (4, .getfield 67, 3, 4, 5, 0) :: (7, .getfield 71, 3, 6, 2, 0) :: (10, .if_icmp .ge 63, 3, 73, 0, 0) :: (13, .aload_n 1, 1, 1, 0, 0) :: (14, .getfield 67, 3, 4, 5, 0) :: (17, .iload_n 2, 1, 2, 0, 0) :: (18, .iconst 0, 1, 0, 0, 0) :: (19, .invokevirtual 76, 3, 82, 3, 0) :: (22, .istore_n 3, 1, 3, 0, 0) :: (23, .iload_n 3, 1, 3, 0, 0) :: (24, .ifCond .lt 15, 3, 39, 0, 0) :: (27, .iload_n 3, 1, 3, 0, 0) :: (28, .aload_n 0, 1, 0, 0, 0) :: (29, .getfield 22, 3, 2, 3, 0) :: (32, .if_icmp .ge 7, 3, 39, 0, 0) :: (35, .iconst 1, 1, 0, 0, 1) :: (36, .goto 4, 3, 40, 0, 0) :: px_c29_39
def px_c29_0 : List px_I := (0, .iconst 0, 1, 0, 0, 0) :: (1, .istore_n 2, 1, 2, 0, 0) :: px_c29_2
def px_c30_56 : List px_I := (56, .iload_n 1, 1, 1, 0, 0) :: (57, .ireturn, 1, 0, 0, 0) :: []
def px_c30_50 : List px_I := (50, .iinc 3 1, 3, 3, 0, 1) :: (53, .goto (-47), 3, 6, 0, 0) :: px_c30_56
def px_c30_41 : List px_I := (41, .iload_n 3, 1, 3, 0, 0) :: (42, .istore_n 1, 1, 1, 0, 0) :: (43, .aload_n 0, 1, 0, 0, 0) :: (44, .getfield 19, 3, 2, 2, 0) :: (47, .iload_n 3, 1, 3, 0, 0) :: (48, .iaload, 1, 0, 0, 0) :: (49, .istore_n 2, 1, 2, 0, 0) :: px_c30_50
def px_c30_26 : List px_I := (26, .iload_n 1, 1, 1, 0, 0) :: (27, .iconst (-1), 1, 0, 0, (-1)) :: (28, .if_icmp .eq 13, 3, 41, 0, 0) :: (31, .aload_n 0, 1, 0, 0, 0) :: (32, .getfield 19, 3, 2, 2, 0) :: (35, .iload_n 3, 1, 3, 0, 0) :: (36, .iaload, 1, 0, 0, 0) :: (37, .iload_n 2, 1, 2, 0, 0) :: (38, .if_icmp .ge 12, 3, 50, 0, 0) :: px_c30_41
def px_c30_6 : List px_I := (6, .iload_n 3, 1, 3, 0, 0) :: (7, .aload_n 0, 1, 0, 0, 0) :: (8, .getfield 22, 3, 2, 3, 0) :: (11, .if_icmp .ge 45, 3, 56, 0, 0) :: (14, .aload_n 0, 1, 0, 0, 0) :: (15, .getfield 9, 3, 2, 0, 0) :: (18, .iload_n 3, 1, 3, 0, 0) :: (19, .baload, 1, 0, 0, 0) :: (20, .ifCond .eq 6, 3, 26, 0, 0) :: (23, .goto 27, 3, 50, 0, 0) :: px_c30_26
def px_c30_0 : List px_I := (0, .iconst (-1), 1, 0, 0, (-1)) :: (1, .istore_n 1, 1, 1, 0, 0) :: (2, .iconst 0, 1, 0, 0, 0) :: (3, .istore_n 2, 1, 2, 0, 0) :: (4, .iconst 0, 1, 0, 0, 0) :: (5, .istore_n 3, 1, 3, 0, 0) :: px_c30_6
def px_c31_0 : List px_I := (0, .aload_n 0, 1, 0, 0, 0) :: (1, .invokespecial 3, 3, 9000, 0, 0) :: (4, .aload_n 0, 1, 0, 0, 0) :: (5, .bipush 120, 2, 0, 0, 120) :: (7, .newarray .long, 2, 102, 0, 0) :: (9, .putfield 9, 3, 3, 0, 0) :: (12, .aload_n 0, 1, 0, 0, 0) :: (13, .iconst (-1), 1, 0, 0, (-1)) :: (14, .putfield 15, 3, 3, 1, 0) :: (17, .aload_n 0, 1, 0, 0, 0) :: (18, .iconst 0, 1, 0, 0, 0) :: (19, .putfield 19, 3, 3, 2, 0) :: (22, .aload_n 0, 1, 0, 0, 0) :: (23, .iconst 0, 1, 0, 0, 0) :: (24, .putfield 22, 3, 3, 3, 0) :: (27, .aload_n 0, 1, 0, 0, 0) :: (28, .iconst 0, 1, 0, 0, 0) :: (29, .putfield 25, 3, 3, 4, 0) :: (32, .return_, 1, 0, 0, 0) :: []
def px_c32_14 : List px_I := (14, .ireturn, 1, 0, 0, 0) :: []
def px_c32_13 : List px_I := (13, .iconst 0, 1, 0, 0, 0) :: px_c32_14
def px_c32_0 : List px_I := (0, .aload_n 0, 1, 0, 0, 0) :: (1, .getfield 15, 3, 3, 1, 0) :: (4, .bipush 100, 2, 0, 0, 100) :: (6, .if_icmp .lt 7, 3, 13, 0, 0) :: (9, .iconst 1, 1, 0, 0, 1) :: (10, .goto 4, 3, 14, 0, 0) :: px_c32_13
def px_c33_21 : List px_I := (21, .ireturn, 1, 0, 0, 0) :: []
def px_c33_20 : List px_I := (20, .iconst 0, 1, 0, 0, 0) :: px_c33_21
def px_c33_0 : List px_I := (0, .aload_n 0, 1, 0, 0, 0) :: (1, .getfield 15, 3, 3, 1, 0) :: (4, .ifCond .lt 16, 3, 20, 0, 0) :: (7, .aload_n 0, 1, 0, 0, 0) :: (8, .getfield 15, 3, 3, 1, 0) :: (11, .bipush 100, 2, 0, 0, 100) :: (13, .if_icmp .ge 7, 3, 20, 0, 0) :: (16, .iconst 1, 1, 0, 0, 1) :: (17, .goto 4, 3, 21, 0, 0) :: px_c33_20
def px_c34_0 : List px_I := (0, .aload_n 0, 1, 0, 0, 0) :: (1, .iconst (-1), 1, 0, 0, (-1)) :: (2, .putfield 15, 3, 3, 1, 0) :: (5, .aload_n 0, 1, 0, 0, 0) :: (6, .iconst 0, 1, 0, 0, 0) :: (7, .putfield 19, 3, 3, 2, 0) :: (10, .return_, 1, 0, 0, 0) :: []
def px_c35_0 : List px_I := (0, .aload_n 0, 1, 0, 0, 0) :: (1, .bipush 100, 2, 0, 0, 100) :: (3, .iload_n 1, 1, 1, 0, 0) :: (4, .iadd, 1, 0, 0, 0) :: (5, .putfield 15, 3, 3, 1, 0) :: (8, .aload_n 0, 1, 0, 0, 0) :: (9, .iconst 0, 1, 0, 0, 0) :: (10, .iload_n 2, 1, 2, 0, 0) :: (11, .bipush 120, 2, 0, 0, 120) :: (13, .invokestatic 28, 3, 9004, 0, 0) :: (16, .invokestatic 34, 3, 9003, 0, 0) :: (19, .putfield 19, 3, 3, 2, 0) :: (22, .aload_n 0, 1, 0, 0, 0) :: (23, .getfield 9, 3, 3, 0, 0) :: (26, .lconst 0, 1, 0, 0, 0) :: (27, .invokestatic 37, 3, 257, 2, 0) :: (30, .return_, 1, 0, 0, 0) :: []
def px_c36_49 : List px_I := (49, .putfield 22, 3, 3, 3, 0) :: (52, .aload_n 0, 1, 0, 0, 0) :: (53, .iload_n 3, 1, 3, 0, 0) :: (54, .putfield 25, 3, 3, 4, 0) :: (57, .return_, 1, 0, 0, 0) :: []
def px_c36_48 : List px_I := (48, .iconst 0, 1, 0, 0, 0) :: px_c36_49
def px_c36_26 : List px_I := (26, .istore 4, 2, 4, 0, 0) :: (28, .aload_n 0, 1, 0, 0, 0) :: (29, .iload_n 1, 1, 1, 0, 0) :: (30, .putfield 15, 3, 3, 1, 0) :: (33, .aload_n 0, 1, 0, 0, 0) :: (34, .iconst 0, 1, 0, 0, 0) :: (35, .putfield 19, 3, 3, 2, 0) :: (38, .aload_n 0, 1, 0, 0, 0) :: (39, .iload 4, 2, 4, 0, 0) :: (41, .ifCond .eq 7, 3, 48, 0, 0) :: (44, .iload_n 2, 1, 2, 0, 0) :: (45, .goto 4, 3, 49, 0, 0) :: px_c36_48
def px_c36_25 : List px_I := (25, .iconst 0, 1, 0, 0, 0) :: px_c36_26
def px_c36_21 : List px_I := (21, .iconst 1, 1, 0, 0, 1) :: (22, .goto 4, 3, 26, 0, 0) :: px_c36_25
def px_c36_0 : List px_I := (0, .iload_n 1, 1, 1, 0, 0) :: (1, .iconst 1, 1, 0, 0, 1) :: (2, .if_icmp .eq 19, 3, 21, 0, 0) :: (5, .iload_n 1, 1, 1, 0, 0) :: (6, .iconst 3, 1, 0, 0, 3) :: (7, .if_icmp .eq 14, 3, 21, 0, 0) :: (10, .iload_n 1, 1, 1, 0, 0) :: (11, .iconst 4, 1, 0, 0, 4) :: (12, .if_icmp .eq 9, 3, 21, 0, 0) :: (15, .iload_n 1, 1, 1, 0, 0) :: (16, .bipush 6, 2, 0, 0, 6) :: (18, .if_icmp .ne 7, 3, 25, 0, 0) :: px_c36_21
def px_c37_17 : List px_I := (17, .ireturn, 1, 0, 0, 0) :: []
def px_c37_16 : List px_I := (16, .iconst 0, 1, 0, 0, 0) :: px_c37_17
def px_c37_0 : List px_I := (0, .iload_n 1, 1, 1, 0, 0) :: (1, .ifCond .lt 15, 3, 16, 0, 0) :: (4, .iload_n 1, 1, 1, 0, 0) :: (5, .aload_n 0, 1, 0, 0, 0) :: (6, .getfield 19, 3, 3, 2, 0) :: (9, .if_icmp .ge 7, 3, 16, 0, 0) :: (12, .iconst 1, 1, 0, 0, 1) :: (13, .goto 4, 3, 17, 0, 0) :: px_c37_16
def px_c38_27 : List px_I := (27, .ireturn, 1, 0, 0, 0) :: []
def px_c38_26 : List px_I := (26, .iconst 0, 1, 0, 0, 0) :: px_c38_27
def px_c38_0 : List px_I := (0, .iload_n 1, 1, 1, 0, 0) :: (1, .ifCond .lt 25, 3, 26, 0, 0) :: (4, .iload_n 2, 1, 2, 0, 0) :: (5, .ifCond .lt 21, 3, 26, 0, 0) :: (8, .iload_n 1, 1, 1, 0, 0) :: (9, .i2l, 1, 0, 0, 0) :: (10, .iload_n 2, 1, 2, 0, 0) :: (11, .i2l, 1, 0, 0, 0) :: (12, .ladd, 1, 0, 0, 0) :: (13, .aload_n 0, 1, 0, 0, 0) :: (14, .getfield 19, 3, 3, 2, 0) :: (17, .i2l, 1, 0, 0, 0) :: (18, .lcmp, 1, 0, 0, 0) :: (19, .ifCond .gt 7, 3, 26, 0, 0) :: (22, .iconst 1, 1, 0, 0, 1) :: (23, .goto 4, 3, 27, 0, 0) :: px_c38_26
def px_c39_22 : List px_I := (22, .lreturn, 1, 0, 0, 0) :: []
def px_c39_21 : List px_I := (21, .lconst 0, 1, 0, 0, 0) :: px_c39_22
def px_c39_0 : List px_I := (0, .iload_n 1, 1, 1, 0, 0) :: (1, .ifCond .lt 20, 3, 21, 0, 0) :: (4, .iload_n 1, 1, 1, 0, 0) :: (5, .aload_n 0, 1, 0, 0, 0) :: (6, .getfield 19, 3, 3, 2, 0) :: (9, .if_icmp .ge 12, 3, 21, 0, 0) :: (12, .aload_n 0, 1, 0, 0, 0) :: (13, .getfield 9, 3, 3, 0, 0) :: (16, .iload_n 1, 1, 1, 0, 0) :: (17, .laload, 1, 0, 0, 0) :: (18, .goto 4, 3, 22, 0, 0) :: px_c39_21
def px_c40_0 : List px_I := (0, .aload_n 0, 1, 0, 0, 0) :: (1, .iload_n 1, 1, 1, 0, 0) :: (2, .invokevirtual 43, 3, 39, 2, 0) :: (5, .l2i, 1, 0, 0, 0) :: (6, .ireturn, 1, 0, 0, 0) :: []
def px_c41_19 : List px_I := (19, .return_, 1, 0, 0, 0) :: []
def px_c41_0 : List px_I := (0, .aload_n 0, 1, 0, 0, 0) :: (1, .iload_n 1, 1, 1, 0, 0) :: (2, .invokevirtual 47, 3, 37, 2, 0) :: (5, .ifCond .eq 14, 3, 19, 0, 0) :: (8, .aload_n 0, 1, 0, 0, 0) :: (9, .getfield 9, 3, 3, 0, 0) :: (12, .iload_n 1, 1, 1, 0, 0) :: (13, .aload_n 0, 1, 0, 0, 0) :: (14, .lload_n 2, 1, 2, 0, 0) :: (15, .invokevirtual 51, 3, 42, 2, 0) :: (18, .lastore, 1, 0, 0, 0) :: px_c41_19
def px_c42_46 : List px_I := (46, .lload_n 1, 1, 1, 0, 0) :: (47, .lreturn, 1, 0, 0, 0) :: []
def px_c42_42 : List px_I := (42, .lload_n 1, 1, 1, 0, 0) :: (43, .l2i, 1, 0, 0, 0) :: (44, .i2l, 1, 0, 0, 0) :: (45, .lreturn, 1, 0, 0, 0) :: px_c42_46
def px_c42_37 : List px_I := (37, .lload_n 1, 1, 1, 0, 0) :: (38, .l2i, 1, 0, 0, 0) :: (39, .i2s, 1, 0, 0, 0) :: (40, .i2l, 1, 0, 0, 0) :: (41, .lreturn, 1, 0, 0, 0) :: px_c42_42
def px_c42_32 : List px_I := (32, .lload_n 1, 1, 1, 0, 0) :: (33, .l2i, 1, 0, 0, 0) :: (34, .i2b, 1, 0, 0, 0) :: (35, .i2l, 1, 0, 0, 0) :: (36, .lreturn, 1, 0, 0, 0) :: px_c42_37
def px_c42_0 : List px_I := (0, .aload_n 0, 1, 0, 0, 0) :: (1, .getfield 15, 3, 3, 1, 0) :: (4, .bipush 100, 2, 0, 0, 100) :: (6, .isub, 1, 0, 0, 0) :: (7, .tableswitch 39 0 2 #[25, 30, 35], 25, 0, 0, 0) :: px_c42_32
def px_c43_43 : List px_I := (43, .ireturn, 1, 0, 0, 0) :: []
def px_c43_42 : List px_I := (42, .iconst 0, 1, 0, 0, 0) :: px_c43_43
def px_c43_38 : List px_I := (38, .iconst 1, 1, 0, 0, 1) :: (39, .goto 4, 3, 43, 0, 0) :: px_c43_42
def px_c43_17 : List px_I := (17, .iload_n 1, 1, 1, 0, 0) :: (18, .iconst 2, 1, 0, 0, 2) :: (19, .if_icmp .ne 23, 3, 42, 0, 0) :: (22, .aload_n 0, 1, 0, 0, 0) :: (23, .getfield 15, 3, 3, 1, 0) :: (26, .iconst 3, 1, 0, 0, 3) :: (27, .if_icmp .eq 11, 3, 38, 0, 0) :: (30, .aload_n 0, 1, 0, 0, 0) :: (31, .getfield 15, 3, 3, 1, 0) :: (34, .iconst 5, 1, 0, 0, 5) :: (35, .if_icmp .ne 7, 3, 42, 0, 0) :: px_c43_38
def px_c43_12 : List px_I := (12, .aload_n 0, 1, 0, 0, 0) :: (13, .invokevirtual 55, 3, 33, 1, 0) :: (16, .ireturn, 1, 0, 0, 0) :: px_c43_17
def px_c43_0 : List px_I := (0, .iload_n 1, 1, 1, 0, 0) :: (1, .ifCond .eq 11, 3, 12, 0, 0) :: (4, .iload_n 1, 1, 1, 0, 0) :: (5, .aload_n 0, 1, 0, 0, 0) :: (6, .getfield 15, 3, 3, 1, 0) :: (9, .if_icmp .ne 8, 3, 17, 0, 0) :: px_c43_12
def px_c44_21 : List px_I := (21, .ireturn, 1, 0, 0, 0) :: []
def px_c44_20 : List px_I := (20, .iconst 0, 1, 0, 0, 0) :: px_c44_21
def px_c44_0 : List px_I := (0, .aload_n 0, 1, 0, 0, 0) :: (1, .getfield 15, 3, 3, 1, 0) :: (4, .iconst 4, 1, 0, 0, 4) :: (5, .if_icmp .ne 15, 3, 20, 0, 0) :: (8, .iload_n 1, 1, 1, 0, 0) :: (9, .aload_n 0, 1, 0, 0, 0) :: (10, .getfield 22, 3, 3, 3, 0) :: (13, .if_icmp .lt 7, 3, 20, 0, 0) :: (16, .iconst 1, 1, 0, 0, 1) :: (17, .goto 4, 3, 21, 0, 0) :: px_c44_20
def px_c45_90 : List px_I := (90, .invokespecial 17, 3, 79, 2, 0) :: (93, .putfield 33, 3, 4, 5, 0) :: (96, .aload_n 0, 1, 0, 0, 0) :: (97, .new 15, 3, 6, 0, 0) :: (100, .dup, 1, 0, 0, 0) :: (101, .bipush 8, 2, 0, 0, 8) :: (103, .invokespecial 17, 3, 79, 2, 0) :: (106, .putfield 36, 3, 4, 6, 0) :: (109, .aload_n 0, 1, 0, 0, 0) :: (110, .new 15, 3, 6, 0, 0) :: (113, .dup, 1, 0, 0, 0) :: (114, .bipush 6, 2, 0, 0, 6) :: (116, .invokespecial 17, 3, 79, 2, 0) :: (119, .putfield 39, 3, 4, 7, 0) :: (122, .return_, 1, 0, 0, 0) :: []
def px_c45_0 : List px_I := (0, .aload_n 0, 1, 0, 0, 0) :: (1, .invokespecial 3, 3, 9000, 0, 0) :: (4, .aload_n 0, 1, 0, 0, 0) :: (5, .iconst 4, 1, 0, 0, 4) :: (6, .newarray .int, 2, 100, 0, 0) :: (8, .dup, 1, 0, 0, 0) :: (9, .iconst 0, 1, 0, 0, 0) :: (10, .bipush 20, 2, 0, 0, 20) :: (12, .iastore, 1, 0, 0, 0) :: (13, .dup, 1, 0, 0, 0) :: (14, .iconst 1, 1, 0, 0, 1) :: (15, .bipush 8, 2, 0, 0, 8) :: (17, .iastore, 1, 0, 0, 0) :: (18, .dup, 1, 0, 0, 0) :: (19, .iconst 2, 1, 0, 0, 2) :: (20, .bipush 6, 2, 0, 0, 6) :: (22, .iastore, 1, 0, 0, 0) :: (23, .dup, 1, 0, 0, 0) :: (24, .iconst 3, 1, 0, 0, 3) :: (25, .bipush 40, 2, 0, 0, 40) :: (27, .iastore, 1, 0, 0, 0) :: (28, .putfield 9, 3, 4, 0, 0) :: (31, .aload_n 0, 1, 0, 0, 0) :: (32, .new 15, 3, 6, 0, 0) :: (35, .dup, 1, 0, 0, 0) :: (36, .bipush 6, 2, 0, 0, 6) :: (38, .invokespecial 17, 3, 79, 2, 0) :: (41, .putfield 20, 3, 4, 1, 0) :: (44, .aload_n 0, 1, 0, 0, 0) :: (45, .new 15, 3, 6, 0, 0) :: (48, .dup, 1, 0, 0, 0) :: (49, .bipush 9, 2, 0, 0, 9) :: (51, .invokespecial 17, 3, 79, 2, 0) :: (54, .putfield 24, 3, 4, 2, 0) :: (57, .aload_n 0, 1, 0, 0, 0) :: (58, .new 15, 3, 6, 0, 0) :: (61, .dup, 1, 0, 0, 0) :: (62, .bipush 12, 2, 0, 0, 12) :: (64, .invokespecial 17, 3, 79, 2, 0) :: (67, .putfield 27, 3, 4, 3, 0) :: (70, .aload_n 0, 1, 0, 0, 0) :: (71, .new 15, 3, 6, 0, 0) :: (74, .dup, 1, 0, 0, 0) :: (75, .bipush 12, 2, 0, 0, 12) :: (77, .invokespecial 17, 3, 79, 2, 0) :: (80, .putfield 30, 3, 4, 4, 0) :: (83, .aload_n 0, 1, 0, 0, 0) :: (84, .new 15, 3, 6, 0, 0) :: (87, .dup, 1, 0, 0, 0) :: (88, .bipush 12, 2, 0, 0, 12) :: px_c45_90
def px_c46_0 : List px_I := (0, .aload_n 1, 1, 1, 0, 0) :: (1, .getfield 9, 3, 4, 0, 0) :: (4, .iconst 0, 1, 0, 0, 0) :: (5, .aload_n 0, 1, 0, 0, 0) :: (6, .getfield 9, 3, 4, 0, 0) :: (9, .iconst 0, 1, 0, 0, 0) :: (10, .aload_n 0, 1, 0, 0, 0) :: (11, .getfield 9, 3, 4, 0, 0) :: (14, .arraylength, 1, 0, 0, 0) :: (15, .invokestatic 42, 3, 9001, 0, 0) :: (18, .aload_n 0, 1, 0, 0, 0) :: (19, .getfield 20, 3, 4, 1, 0) :: (22, .aload_n 1, 1, 1, 0, 0) :: (23, .getfield 20, 3, 4, 1, 0) :: (26, .invokevirtual 48, 3, 85, 2, 0) :: (29, .aload_n 0, 1, 0, 0, 0) :: (30, .getfield 24, 3, 4, 2, 0) :: (33, .aload_n 1, 1, 1, 0, 0) :: (34, .getfield 24, 3, 4, 2, 0) :: (37, .invokevirtual 48, 3, 85, 2, 0) :: (40, .aload_n 0, 1, 0, 0, 0) :: (41, .getfield 27, 3, 4, 3, 0) :: (44, .aload_n 1, 1, 1, 0, 0) :: (45, .getfield 27, 3, 4, 3, 0) :: (48, .invokevirtual 48, 3, 85, 2, 0) :: (51, .aload_n 0, 1, 0, 0, 0) :: (52, .getfield 30, 3, 4, 4, 0) :: (55, .aload_n 1, 1, 1, 0, 0) :: (56, .getfield 30, 3, 4, 4, 0) :: (59, .invokevirtual 48, 3, 85, 2, 0) :: (62, .aload_n 0, 1, 0, 0, 0) :: (63, .getfield 33, 3, 4, 5, 0) :: (66, .aload_n 1, 1, 1, 0, 0) :: (67, .getfield 33, 3, 4, 5, 0) :: (70, .invokevirtual 48, 3, 85, 2, 0) :: (73, .aload_n 0, 1, 0, 0, 0) :: (74, .getfield 36, 3, 4, 6, 0) :: (77, .aload_n 1, 1, 1, 0, 0) :: (78, .getfield 36, 3, 4, 6, 0) :: (81, .invokevirtual 48, 3, 85, 2, 0) :: (84, .aload_n 0, 1, 0, 0, 0) :: (85, .getfield 39, 3, 4, 7, 0) :: (88, .aload_n 1, 1, 1, 0, 0) :: (89, .getfield 39, 3, 4, 7, 0) :: (92, .invokevirtual 48, 3, 85, 2, 0) :: (95, .return_, 1, 0, 0, 0) :: []
def px_c47_21 : List px_I := (21, .ireturn, 1, 0, 0, 0) :: []
def px_c47_20 : List px_I := (20, .iconst 0, 1, 0, 0, 0) :: px_c47_21
def px_c47_16 : List px_I := (16, .iconst 1, 1, 0, 0, 1) :: (17, .goto 4, 3, 21, 0, 0) :: px_c47_20
def px_c47_0 : List px_I := (0, .iload_n 1, 1, 1, 0, 0) :: (1, .iconst 3, 1, 0, 0, 3) :: (2, .if_icmp .le 14, 3, 16, 0, 0) :: (5, .aload_n 0, 1, 0, 0, 0) :: (6, .iload_n 1, 1, 1, 0, 0) :: (7, .invokevirtual 52, 3, 49, 2, 0) :: (10, .invokevirtual 56, 3, 80, 1, 0) :: (13, .ifCond .ne 7, 3, 20, 0, 0) :: px_c47_16
def px_c48_79 : List px_I := (79, .return_, 1, 0, 0, 0) :: []
def px_c48_58 : List px_I := (58, .aload_n 0, 1, 0, 0, 0) :: (59, .iload_n 1, 1, 1, 0, 0) :: (60, .invokevirtual 52, 3, 49, 2, 0) :: (63, .aload_n 2, 1, 2, 0, 0) :: (64, .iconst 0, 1, 0, 0, 0) :: (65, .iaload, 1, 0, 0, 0) :: (66, .aload_n 2, 1, 2, 0, 0) :: (67, .iconst 1, 1, 0, 0, 1) :: (68, .iaload, 1, 0, 0, 0) :: (69, .aload_n 2, 1, 2, 0, 0) :: (70, .iconst 2, 1, 0, 0, 2) :: (71, .iaload, 1, 0, 0, 0) :: (72, .aload_n 2, 1, 2, 0, 0) :: (73, .iconst 3, 1, 0, 0, 3) :: (74, .iaload, 1, 0, 0, 0) :: (75, .invokevirtual 60, 3, 84, 5, 0) :: (78, .pop, 1, 0, 0, 0) :: px_c48_79
def px_c48_34 : List px_I := (34, .iload_n 1, 1, 1, 0, 0) :: (35, .iconst 5, 1, 0, 0, 5) :: (36, .if_icmp .ne 22, 3, 58, 0, 0) :: (39, .aload_n 0, 1, 0, 0, 0) :: (40, .getfield 24, 3, 4, 2, 0) :: (43, .aload_n 2, 1, 2, 0, 0) :: (44, .iconst 0, 1, 0, 0, 0) :: (45, .iaload, 1, 0, 0, 0) :: (46, .aload_n 2, 1, 2, 0, 0) :: (47, .iconst 1, 1, 0, 0, 1) :: (48, .iaload, 1, 0, 0, 0) :: (49, .iconst (-1), 1, 0, 0, (-1)) :: (50, .iconst 0, 1, 0, 0, 0) :: (51, .invokevirtual 60, 3, 84, 5, 0) :: (54, .pop, 1, 0, 0, 0) :: (55, .goto 24, 3, 79, 0, 0) :: px_c48_58
def px_c48_17 : List px_I := (17, .iload_n 1, 1, 1, 0, 0) :: (18, .iconst 3, 1, 0, 0, 3) :: (19, .if_icmp .gt 15, 3, 34, 0, 0) :: (22, .aload_n 0, 1, 0, 0, 0) :: (23, .getfield 9, 3, 4, 0, 0) :: (26, .iload_n 1, 1, 1, 0, 0) :: (27, .aload_n 2, 1, 2, 0, 0) :: (28, .iconst 0, 1, 0, 0, 0) :: (29, .iaload, 1, 0, 0, 0) :: (30, .iastore, 1, 0, 0, 0) :: (31, .goto 48, 3, 79, 0, 0) :: px_c48_34
def px_c48_16 : List px_I := (16, .return_, 1, 0, 0, 0) :: px_c48_17
def px_c48_0 : List px_I := (0, .iload_n 1, 1, 1, 0, 0) :: (1, .ifCond .lt 15, 3, 16, 0, 0) :: (4, .iload_n 1, 1, 1, 0, 0) :: (5, .bipush 11, 2, 0, 0, 11) :: (7, .if_icmp .ge 9, 3, 16, 0, 0) :: (10, .aload_n 2, 1, 2, 0, 0) :: (11, .arraylength, 1, 0, 0, 0) :: (12, .iconst 4, 1, 0, 0, 4) :: (13, .if_icmp .ge 4, 3, 17, 0, 0) :: px_c48_16
def px_c49_70 : List px_I := (70, .aload_n 0, 1, 0, 0, 0) :: (71, .getfield 39, 3, 4, 7, 0) :: (74, .areturn, 1, 0, 0, 0) :: []
def px_c49_65 : List px_I := (65, .aload_n 0, 1, 0, 0, 0) :: (66, .getfield 36, 3, 4, 6, 0) :: (69, .areturn, 1, 0, 0, 0) :: px_c49_70
def px_c49_60 : List px_I := (60, .aload_n 0, 1, 0, 0, 0) :: (61, .getfield 33, 3, 4, 5, 0) :: (64, .areturn, 1, 0, 0, 0) :: px_c49_65
def px_c49_55 : List px_I := (55, .aload_n 0, 1, 0, 0, 0) :: (56, .getfield 30, 3, 4, 4, 0) :: (59, .areturn, 1, 0, 0, 0) :: px_c49_60
def px_c49_50 : List px_I := (50, .aload_n 0, 1, 0, 0, 0) :: (51, .getfield 27, 3, 4, 3, 0) :: (54, .areturn, 1, 0, 0, 0) :: px_c49_55
def px_c49_45 : List px_I := (45, .aload_n 0, 1, 0, 0, 0) :: (46, .getfield 24, 3, 4, 2, 0) :: (49, .areturn, 1, 0, 0, 0) :: px_c49_50
def px_c49_40 : List px_I := (40, .aload_n 0, 1, 0, 0, 0) :: (41, .getfield 20, 3, 4, 1, 0) :: (44, .areturn, 1, 0, 0, 0) :: px_c49_45
def px_c49_0 : List px_I := (0, .iload_n 1, 1, 1, 0, 0) :: (1, .tableswitch 69 4 9 #[39, 44, 49, 54, 59, 64], 39, 0, 0, 0) :: px_c49_40
def px_c50_34 : List px_I := (34, .iconst 0, 1, 0, 0, 0) :: (35, .ireturn, 1, 0, 0, 0) :: []
def px_c50_28 : List px_I := (28, .iinc 2 1, 3, 2, 0, 1) :: (31, .goto (-29), 3, 2, 0, 0) :: px_c50_34
def px_c50_2 : List px_I := (2, .iload_n 2, 1, 2, 0, 0) :: (3, .aload_n 0, 1, 0, 0, 0) :: (4, .getfield 39, 3, 4, 7, 0) :: (7, .getfield 64, 3, 6, 2, 0) :: (10, .if_icmp .ge 24, 3, 34, 0, 0) :: (13, .aload_n 0, 1, 0, 0, 0) :: (14, .getfield 39, 3, 4, 7, 0) :: (17, .iload_n 2, 1, 2, 0, 0) :: (18, .iconst 0, 1, 0, 0, 0) :: (19, .invokevirtual 68, 3, 82, 3, 0) :: (22, .iload_n 1, 1, 1, 0, 0) :: (23, .if_icmp .ne 5, 3, 28, 0, 0) :: (26, .iconst 1, 1, 0, 0, 1) :: (27, .ireturn, 1, 0, 0, 0) :: px_c50_28
def px_c50_0 : List px_I := (0, .iconst 0, 1, 0, 0, 0) :: (1, .istore_n 2, 1, 2, 0, 0) :: px_c50_2
def px_c51_22 : List px_I := (22, .ireturn, 1, 0, 0, 0) :: []
def px_c51_21 : List px_I := (21, .iconst 0, 1, 0, 0, 0) :: px_c51_22
def px_c51_0 : List px_I := (0, .iload_n 1, 1, 1, 0, 0) :: (1, .ifCond .lt 20, 3, 21, 0, 0) :: (4, .iload_n 1, 1, 1, 0, 0) :: (5, .iconst 1, 1, 0, 0, 1) :: (6, .aload_n 0, 1, 0, 0, 0) :: (7, .getfield 24, 3, 4, 2, 0) :: (10, .getfield 64, 3, 6, 2, 0) :: (13, .ishl, 1, 0, 0, 0) :: (14, .if_icmp .ge 7, 3, 21, 0, 0) :: (17, .iconst 1, 1, 0, 0, 1) :: (18, .goto 4, 3, 22, 0, 0) :: px_c51_21
def px_c52_18 : List px_I := (18, .ireturn, 1, 0, 0, 0) :: []
def px_c52_17 : List px_I := (17, .iconst 0, 1, 0, 0, 0) :: px_c52_18
def px_c52_0 : List px_I := (0, .aload_n 0, 1, 0, 0, 0) :: (1, .getfield 24, 3, 4, 2, 0) :: (4, .iload_n 1, 1, 1, 0, 0) :: (5, .iconst 2, 1, 0, 0, 2) :: (6, .invokevirtual 68, 3, 82, 3, 0) :: (9, .iconst (-1), 1, 0, 0, (-1)) :: (10, .if_icmp .eq 7, 3, 17, 0, 0) :: (13, .iconst 1, 1, 0, 0, 1) :: (14, .goto 4, 3, 18, 0, 0) :: px_c52_17
def px_c53_18 : List px_I := (18, .ireturn, 1, 0, 0, 0) :: []
def px_c53_17 : List px_I := (17, .iconst 0, 1, 0, 0, 0) :: px_c53_18
def px_c53_0 : List px_I := (0, .aload_n 0, 1, 0, 0, 0) :: (1, .getfield 24, 3, 4, 2, 0) :: (4, .iload_n 1, 1, 1, 0, 0) :: (5, .iconst 3, 1, 0, 0, 3) :: (6, .invokevirtual 68, 3, 82, 3, 0) :: (9, .iconst 1, 1, 0, 0, 1) :: (10, .if_icmp .ne 7, 3, 17, 0, 0) :: (13, .iconst 1, 1, 0, 0, 1) :: (14, .goto 4, 3, 18, 0, 0) :: px_c53_17
def px_c54_0 : List px_I := (0, .aload_n 0, 1, 0, 0, 0) :: (1, .getfield 24, 3, 4, 2, 0) :: (4, .iload_n 1, 1, 1, 0, 0) :: (5, .iconst 2, 1, 0, 0, 2) :: (6, .iload_n 2, 1, 2, 0, 0) :: (7, .invokevirtual 72, 3, 83, 4, 0) :: (10, .aload_n 0, 1, 0, 0, 0) :: (11, .getfield 24, 3, 4, 2, 0) :: (14, .iload_n 1, 1, 1, 0, 0) :: (15, .iconst 3, 1, 0, 0, 3) :: (16, .iconst 0, 1, 0, 0, 0) :: (17, .invokevirtual 72, 3, 83, 4, 0) :: (20, .return_, 1, 0, 0, 0) :: []
def px_c55_35 : List px_I := (35, .iload_n 1, 1, 1, 0, 0) :: (36, .ireturn, 1, 0, 0, 0) :: []
def px_c55_29 : List px_I := (29, .iinc 2 1, 3, 2, 0, 1) :: (32, .goto (-28), 3, 4, 0, 0) :: px_c55_35
def px_c55_4 : List px_I := (4, .iload_n 2, 1, 2, 0, 0) :: (5, .aload_n 0, 1, 0, 0, 0) :: (6, .getfield 24, 3, 4, 2, 0) :: (9, .getfield 64, 3, 6, 2, 0) :: (12, .if_icmp .ge 23, 3, 35, 0, 0) :: (15, .aload_n 0, 1, 0, 0, 0) :: (16, .iload_n 2, 1, 2, 0, 0) :: (17, .invokevirtual 76, 3, 52, 2, 0) :: (20, .ifCond .eq 9, 3, 29, 0, 0) :: (23, .iload_n 1, 1, 1, 0, 0) :: (24, .iconst 1, 1, 0, 0, 1) :: (25, .iload_n 2, 1, 2, 0, 0) :: (26, .ishl, 1, 0, 0, 0) :: (27, .ior, 1, 0, 0, 0) :: (28, .istore_n 1, 1, 1, 0, 0) :: px_c55_29
def px_c55_0 : List px_I := (0, .iconst 0, 1, 0, 0, 0) :: (1, .istore_n 1, 1, 1, 0, 0) :: (2, .iconst 0, 1, 0, 0, 0) :: (3, .istore_n 2, 1, 2, 0, 0) :: px_c55_4
def px_c56_43 : List px_I := (43, .iload_n 1, 1, 1, 0, 0) :: (44, .ireturn, 1, 0, 0, 0) :: []
def px_c56_37 : List px_I := (37, .iinc 2 1, 3, 2, 0, 1) :: (40, .goto (-36), 3, 4, 0, 0) :: px_c56_43
def px_c56_4 : List px_I := (4, .iload_n 2, 1, 2, 0, 0) :: (5, .aload_n 0, 1, 0, 0, 0) :: (6, .getfield 24, 3, 4, 2, 0) :: (9, .getfield 64, 3, 6, 2, 0) :: (12, .if_icmp .ge 31, 3, 43, 0, 0) :: (15, .aload_n 0, 1, 0, 0, 0) :: (16, .iload_n 2, 1, 2, 0, 0) :: (17, .invokevirtual 76, 3, 52, 2, 0) :: (20, .ifCond .eq 17, 3, 37, 0, 0) :: (23, .aload_n 0, 1, 0, 0, 0) :: (24, .iload_n 2, 1, 2, 0, 0) :: (25, .invokevirtual 80, 3, 53, 2, 0) :: (28, .ifCond .ne 9, 3, 37, 0, 0) :: (31, .iload_n 1, 1, 1, 0, 0) :: (32, .iconst 1, 1, 0, 0, 1) :: (33, .iload_n 2, 1, 2, 0, 0) :: (34, .ishl, 1, 0, 0, 0) :: (35, .ior, 1, 0, 0, 0) :: (36, .istore_n 1, 1, 1, 0, 0) :: px_c56_37
def px_c56_0 : List px_I := (0, .iconst 0, 1, 0, 0, 0) :: (1, .istore_n 1, 1, 1, 0, 0) :: (2, .iconst 0, 1, 0, 0, 0) :: (3, .istore_n 2, 1, 2, 0, 0) :: px_c56_4
def px_c57_83 : List px_I := (83, .iload_n 2, 1, 2, 0, 0) :: (84, .ireturn, 1, 0, 0, 0) :: []
def px_c57_76 : List px_I := (76, .iload_n 2, 1, 2, 0, 0) :: (77, .aload_n 1, 1, 1, 0, 0) :: (78, .getfield 92, 3, 3, 3, 0) :: (81, .iand, 1, 0, 0, 0) :: (82, .ireturn, 1, 0, 0, 0) :: px_c57_83
def px_c57_69 : List px_I := (69, .iload_n 2, 1, 2, 0, 0) :: (70, .aload_n 1, 1, 1, 0, 0) :: (71, .getfield 102, 3, 3, 4, 0) :: (74, .iand, 1, 0, 0, 0) :: (75, .ireturn, 1, 0, 0, 0) :: px_c57_76
def px_c57_59 : List px_I := (59, .aload_n 0, 1, 0, 0, 0) :: (60, .iload_n 2, 1, 2, 0, 0) :: (61, .aload_n 1, 1, 1, 0, 0) :: (62, .getfield 92, 3, 3, 3, 0) :: (65, .invokevirtual 99, 3, 59, 3, 0) :: (68, .ireturn, 1, 0, 0, 0) :: px_c57_69
def px_c57_48 : List px_I := (48, .iload_n 2, 1, 2, 0, 0) :: (49, .aload_n 0, 1, 0, 0, 0) :: (50, .aload_n 1, 1, 1, 0, 0) :: (51, .getfield 92, 3, 3, 3, 0) :: (54, .invokevirtual 95, 3, 58, 2, 0) :: (57, .iand, 1, 0, 0, 0) :: (58, .ireturn, 1, 0, 0, 0) :: px_c57_59
def px_c57_0 : List px_I := (0, .aload_n 0, 1, 0, 0, 0) :: (1, .invokevirtual 83, 3, 56, 1, 0) :: (4, .istore_n 2, 1, 2, 0, 0) :: (5, .aload_n 1, 1, 1, 0, 0) :: (6, .getfield 87, 3, 3, 1, 0) :: (9, .tableswitch 74 1 6 #[39, 74, 50, 74, 60, 67], 39, 0, 0, 0) :: px_c57_48
def px_c58_43 : List px_I := (43, .iload_n 2, 1, 2, 0, 0) :: (44, .ireturn, 1, 0, 0, 0) :: []
def px_c58_37 : List px_I := (37, .iinc 3 1, 3, 3, 0, 1) :: (40, .goto (-36), 3, 4, 0, 0) :: px_c58_43
def px_c58_4 : List px_I := (4, .iload_n 3, 1, 3, 0, 0) :: (5, .aload_n 0, 1, 0, 0, 0) :: (6, .getfield 24, 3, 4, 2, 0) :: (9, .getfield 64, 3, 6, 2, 0) :: (12, .if_icmp .ge 31, 3, 43, 0, 0) :: (15, .aload_n 0, 1, 0, 0, 0) :: (16, .getfield 24, 3, 4, 2, 0) :: (19, .iload_n 3, 1, 3, 0, 0) :: (20, .iconst 0, 1, 0, 0, 0) :: (21, .invokevirtual 68, 3, 82, 3, 0) :: (24, .invokestatic 105, 3, 144, 1, 0) :: (27, .iload_n 1, 1, 1, 0, 0) :: (28, .if_icmp .ne 9, 3, 37, 0, 0) :: (31, .iload_n 2, 1, 2, 0, 0) :: (32, .iconst 1, 1, 0, 0, 1) :: (33, .iload_n 3, 1, 3, 0, 0) :: (34, .ishl, 1, 0, 0, 0) :: (35, .ior, 1, 0, 0, 0) :: (36, .istore_n 2, 1, 2, 0, 0) :: px_c58_37
def px_c58_0 : List px_I := (0, .iconst 0, 1, 0, 0, 0) :: (1, .istore_n 2, 1, 2, 0, 0) :: (2, .iconst 0, 1, 0, 0, 0) :: (3, .istore_n 3, 1, 3, 0, 0) :: px_c58_4
def px_c59_96 : List px_I := (96, .iload_n 3, 1, 3, 0, 0) :: (97, .ireturn, 1, 0, 0, 0) :: []
def px_c59_90 : List px_I := (90, .iinc 5 1, 3, 5, 0, 1) :: (93, .goto (-85), 3, 8, 0, 0) :: px_c59_96
def px_c59_84 : List px_I := (84, .iinc 6 1, 3, 6, 0, 1) :: (87, .goto (-69), 3, 18, 0, 0) :: px_c59_90
def px_c59_18 : List px_I := (18, .iload 6, 2, 6, 0, 0) :: (20, .aload_n 0, 1, 0, 0, 0) :: (21, .getfield 24, 3, 4, 2, 0) :: (24, .getfield 64, 3, 6, 2, 0) :: (27, .if_icmp .ge 63, 3, 90, 0, 0) :: (30, .aload_n 0, 1, 0, 0, 0) :: (31, .getfield 24, 3, 4, 2, 0) :: (34, .iload 6, 2, 6, 0, 0) :: (36, .iconst 0, 1, 0, 0, 0) :: (37, .invokevirtual 68, 3, 82, 3, 0) :: (40, .istore 7, 2, 7, 0, 0) :: (42, .iload_n 1, 1, 1, 0, 0) :: (43, .iload 6, 2, 6, 0, 0) :: (45, .invokestatic 108, 3, 142, 2, 0) :: (48, .ifCond .eq 36, 3, 84, 0, 0) :: (51, .iload 7, 2, 7, 0, 0) :: (53, .invokestatic 112, 3, 143, 1, 0) :: (56, .iload 5, 2, 5, 0, 0) :: (58, .if_icmp .ne 26, 3, 84, 0, 0) :: (61, .iload 7, 2, 7, 0, 0) :: (63, .invokestatic 105, 3, 144, 1, 0) :: (66, .iload 4, 2, 4, 0, 0) :: (68, .if_icmp .ne 16, 3, 84, 0, 0) :: (71, .iload_n 3, 1, 3, 0, 0) :: (72, .iconst 1, 1, 0, 0, 1) :: (73, .iload 6, 2, 6, 0, 0) :: (75, .ishl, 1, 0, 0, 0) :: (76, .ior, 1, 0, 0, 0) :: (77, .istore_n 3, 1, 3, 0, 0) :: (78, .iconst 1, 1, 0, 0, 1) :: (79, .iload 4, 2, 4, 0, 0) :: (81, .isub, 1, 0, 0, 0) :: (82, .istore 4, 2, 4, 0, 0) :: px_c59_84
def px_c59_8 : List px_I := (8, .iload 5, 2, 5, 0, 0) :: (10, .bipush 60, 2, 0, 0, 60) :: (12, .if_icmp .ge 84, 3, 96, 0, 0) :: (15, .iconst 0, 1, 0, 0, 0) :: (16, .istore 6, 2, 6, 0, 0) :: px_c59_18
def px_c59_0 : List px_I := (0, .iconst 0, 1, 0, 0, 0) :: (1, .istore_n 3, 1, 3, 0, 0) :: (2, .iload_n 2, 1, 2, 0, 0) :: (3, .istore 4, 2, 4, 0, 0) :: (5, .iconst 0, 1, 0, 0, 0) :: (6, .istore 5, 2, 5, 0, 0) :: px_c59_8
def px_c60_43 : List px_I := (43, .ireturn, 1, 0, 0, 0) :: []
def px_c60_27 : List px_I := (27, .sipush 1000, 3, 0, 0, 1000) :: (30, .aload_n 0, 1, 0, 0, 0) :: (31, .getfield 20, 3, 4, 1, 0) :: (34, .iload_n 1, 1, 1, 0, 0) :: (35, .iconst 1, 1, 0, 0, 1) :: (36, .invokevirtual 68, 3, 82, 3, 0) :: (39, .imul, 1, 0, 0, 0) :: (40, .iload 4, 2, 4, 0, 0) :: (42, .idiv, 1, 0, 0, 0) :: px_c60_43
def px_c60_0 : List px_I := (0, .aload_n 0, 1, 0, 0, 0) :: (1, .getfield 20, 3, 4, 1, 0) :: (4, .iload_n 1, 1, 1, 0, 0) :: (5, .iconst 0, 1, 0, 0, 0) :: (6, .invokevirtual 68, 3, 82, 3, 0) :: (9, .istore_n 3, 1, 3, 0, 0) :: (10, .iload_n 3, 1, 3, 0, 0) :: (11, .iload_n 3, 1, 3, 0, 0) :: (12, .imul, 1, 0, 0, 0) :: (13, .iload_n 2, 1, 2, 0, 0) :: (14, .iadd, 1, 0, 0, 0) :: (15, .istore 4, 2, 4, 0, 0) :: (17, .iload 4, 2, 4, 0, 0) :: (19, .iconst 1, 1, 0, 0, 1) :: (20, .if_icmp .ge 7, 3, 27, 0, 0) :: (23, .iconst 0, 1, 0, 0, 0) :: (24, .goto 19, 3, 43, 0, 0) :: px_c60_27
def px_c61_139 : List px_I := (139, .iload 8, 2, 8, 0, 0) :: (141, .ireturn, 1, 0, 0, 0) :: []
def px_c61_111 : List px_I := (111, .iload 10, 2, 10, 0, 0) :: (113, .iload 9, 2, 9, 0, 0) :: (115, .if_icmp .ge 24, 3, 139, 0, 0) :: (118, .iload 8, 2, 8, 0, 0) :: (120, .iconst 4, 1, 0, 0, 4) :: (121, .getstatic 125, 3, 3, 0, 0) :: (124, .iload 4, 2, 4, 0, 0) :: (126, .iaload, 1, 0, 0, 0) :: (127, .isub, 1, 0, 0, 0) :: (128, .imul, 1, 0, 0, 0) :: (129, .iconst 4, 1, 0, 0, 4) :: (130, .idiv, 1, 0, 0, 0) :: (131, .istore 8, 2, 8, 0, 0) :: (133, .iinc 10 1, 3, 10, 0, 1) :: (136, .goto (-25), 3, 111, 0, 0) :: px_c61_139
def px_c61_86 : List px_I := (86, .aload_n 0, 1, 0, 0, 0) :: (87, .iload_n 2, 1, 2, 0, 0) :: (88, .iload 7, 2, 7, 0, 0) :: (90, .invokevirtual 122, 3, 60, 3, 0) :: (93, .istore 8, 2, 8, 0, 0) :: (95, .aload_n 0, 1, 0, 0, 0) :: (96, .aload_n 0, 1, 0, 0, 0) :: (97, .getfield 27, 3, 4, 3, 0) :: (100, .iload 5, 2, 5, 0, 0) :: (102, .iload_n 3, 1, 3, 0, 0) :: (103, .invokevirtual 118, 3, 62, 4, 0) :: (106, .istore 9, 2, 9, 0, 0) :: (108, .iconst 0, 1, 0, 0, 0) :: (109, .istore 10, 2, 10, 0, 0) :: px_c61_111
def px_c61_37 : List px_I := (37, .iload 5, 2, 5, 0, 0) :: (39, .invokestatic 112, 3, 143, 1, 0) :: (42, .iload_n 3, 1, 3, 0, 0) :: (43, .invokestatic 112, 3, 143, 1, 0) :: (46, .isub, 1, 0, 0, 0) :: (47, .istore 6, 2, 6, 0, 0) :: (49, .iload 6, 2, 6, 0, 0) :: (51, .iload 6, 2, 6, 0, 0) :: (53, .imul, 1, 0, 0, 0) :: (54, .istore 7, 2, 7, 0, 0) :: (56, .iload 5, 2, 5, 0, 0) :: (58, .invokestatic 105, 3, 144, 1, 0) :: (61, .iload_n 3, 1, 3, 0, 0) :: (62, .invokestatic 105, 3, 144, 1, 0) :: (65, .if_icmp .eq 21, 3, 86, 0, 0) :: (68, .iload 7, 2, 7, 0, 0) :: (70, .aload_n 0, 1, 0, 0, 0) :: (71, .getfield 9, 3, 4, 0, 0) :: (74, .iconst 2, 1, 0, 0, 2) :: (75, .iaload, 1, 0, 0, 0) :: (76, .aload_n 0, 1, 0, 0, 0) :: (77, .getfield 9, 3, 4, 0, 0) :: (80, .iconst 2, 1, 0, 0, 2) :: (81, .iaload, 1, 0, 0, 0) :: (82, .imul, 1, 0, 0, 0) :: (83, .iadd, 1, 0, 0, 0) :: (84, .istore 7, 2, 7, 0, 0) :: px_c61_86
def px_c61_10 : List px_I := (10, .aload_n 0, 1, 0, 0, 0) :: (11, .getfield 24, 3, 4, 2, 0) :: (14, .iload_n 1, 1, 1, 0, 0) :: (15, .iconst 0, 1, 0, 0, 0) :: (16, .invokevirtual 68, 3, 82, 3, 0) :: (19, .istore 5, 2, 5, 0, 0) :: (21, .aload_n 0, 1, 0, 0, 0) :: (22, .aload_n 0, 1, 0, 0, 0) :: (23, .getfield 30, 3, 4, 4, 0) :: (26, .iload 5, 2, 5, 0, 0) :: (28, .iload_n 3, 1, 3, 0, 0) :: (29, .invokevirtual 118, 3, 62, 4, 0) :: (32, .ifCond .le 5, 3, 37, 0, 0) :: (35, .iconst 0, 1, 0, 0, 0) :: (36, .ireturn, 1, 0, 0, 0) :: px_c61_37
def px_c61_0 : List px_I := (0, .iload 4, 2, 4, 0, 0) :: (2, .invokestatic 115, 3, 140, 1, 0) :: (5, .ifCond .ne 5, 3, 10, 0, 0) :: (8, .iconst 0, 1, 0, 0, 0) :: (9, .ireturn, 1, 0, 0, 0) :: px_c61_10
def px_c62_92 : List px_I := (92, .iload 6, 2, 6, 0, 0) :: (94, .ireturn, 1, 0, 0, 0) :: []
def px_c62_86 : List px_I := (86, .iinc 7 1, 3, 7, 0, 1) :: (89, .goto (-57), 3, 32, 0, 0) :: px_c62_92
def px_c62_32 : List px_I := (32, .iload 7, 2, 7, 0, 0) :: (34, .aload_n 1, 1, 1, 0, 0) :: (35, .getfield 64, 3, 6, 2, 0) :: (38, .if_icmp .ge 54, 3, 92, 0, 0) :: (41, .aload_n 1, 1, 1, 0, 0) :: (42, .iload 7, 2, 7, 0, 0) :: (44, .iconst 0, 1, 0, 0, 0) :: (45, .invokevirtual 68, 3, 82, 3, 0) :: (48, .istore 8, 2, 8, 0, 0) :: (50, .iload 8, 2, 8, 0, 0) :: (52, .invokestatic 112, 3, 143, 1, 0) :: (55, .istore 9, 2, 9, 0, 0) :: (57, .iload 8, 2, 8, 0, 0) :: (59, .invokestatic 105, 3, 144, 1, 0) :: (62, .iload_n 2, 1, 2, 0, 0) :: (63, .invokestatic 105, 3, 144, 1, 0) :: (66, .if_icmp .ne 20, 3, 86, 0, 0) :: (69, .iload 9, 2, 9, 0, 0) :: (71, .iload 4, 2, 4, 0, 0) :: (73, .if_icmp .le 13, 3, 86, 0, 0) :: (76, .iload 9, 2, 9, 0, 0) :: (78, .iload 5, 2, 5, 0, 0) :: (80, .if_icmp .ge 6, 3, 86, 0, 0) :: (83, .iinc 6 1, 3, 6, 0, 1) :: px_c62_86
def px_c62_0 : List px_I := (0, .iload_n 2, 1, 2, 0, 0) :: (1, .invokestatic 112, 3, 143, 1, 0) :: (4, .iload_n 3, 1, 3, 0, 0) :: (5, .invokestatic 112, 3, 143, 1, 0) :: (8, .invokestatic 128, 3, 9004, 0, 0) :: (11, .istore 4, 2, 4, 0, 0) :: (13, .iload_n 2, 1, 2, 0, 0) :: (14, .invokestatic 112, 3, 143, 1, 0) :: (17, .iload_n 3, 1, 3, 0, 0) :: (18, .invokestatic 112, 3, 143, 1, 0) :: (21, .invokestatic 133, 3, 9003, 0, 0) :: (24, .istore 5, 2, 5, 0, 0) :: (26, .iconst 0, 1, 0, 0, 0) :: (27, .istore 6, 2, 6, 0, 0) :: (29, .iconst 0, 1, 0, 0, 0) :: (30, .istore 7, 2, 7, 0, 0) :: px_c62_32
def px_c63_32 : List px_I := (32, .ireturn, 1, 0, 0, 0) :: []
def px_c63_30 : List px_I := (30, .iload 5, 2, 5, 0, 0) :: px_c63_32
def px_c63_0 : List px_I := (0, .aload_n 0, 1, 0, 0, 0) :: (1, .iload_n 1, 1, 1, 0, 0) :: (2, .aload_n 0, 1, 0, 0, 0) :: (3, .getfield 24, 3, 4, 2, 0) :: (6, .iload_n 1, 1, 1, 0, 0) :: (7, .iconst 2, 1, 0, 0, 2) :: (8, .invokevirtual 68, 3, 82, 3, 0) :: (11, .iload_n 3, 1, 3, 0, 0) :: (12, .iload 4, 2, 4, 0, 0) :: (14, .invokevirtual 136, 3, 61, 5, 0) :: (17, .istore 5, 2, 5, 0, 0) :: (19, .iload_n 2, 1, 2, 0, 0) :: (20, .ifCond .eq 10, 3, 30, 0, 0) :: (23, .iload 5, 2, 5, 0, 0) :: (25, .iconst 2, 1, 0, 0, 2) :: (26, .idiv, 1, 0, 0, 0) :: (27, .goto 5, 3, 32, 0, 0) :: px_c63_30
def px_c64_48 : List px_I := (48, .iload 5, 2, 5, 0, 0) :: (50, .ireturn, 1, 0, 0, 0) :: []
def px_c64_42 : List px_I := (42, .iinc 6 1, 3, 6, 0, 1) :: (45, .goto (-39), 3, 6, 0, 0) :: px_c64_48
def px_c64_6 : List px_I := (6, .iload 6, 2, 6, 0, 0) :: (8, .aload_n 0, 1, 0, 0, 0) :: (9, .getfield 24, 3, 4, 2, 0) :: (12, .getfield 64, 3, 6, 2, 0) :: (15, .if_icmp .ge 33, 3, 48, 0, 0) :: (18, .iload_n 1, 1, 1, 0, 0) :: (19, .iload 6, 2, 6, 0, 0) :: (21, .invokestatic 108, 3, 142, 2, 0) :: (24, .ifCond .eq 18, 3, 42, 0, 0) :: (27, .iload 5, 2, 5, 0, 0) :: (29, .aload_n 0, 1, 0, 0, 0) :: (30, .iload 6, 2, 6, 0, 0) :: (32, .iload_n 2, 1, 2, 0, 0) :: (33, .iload_n 3, 1, 3, 0, 0) :: (34, .iload 4, 2, 4, 0, 0) :: (36, .invokevirtual 139, 3, 63, 5, 0) :: (39, .iadd, 1, 0, 0, 0) :: (40, .istore 5, 2, 5, 0, 0) :: px_c64_42
def px_c64_0 : List px_I := (0, .iconst 0, 1, 0, 0, 0) :: (1, .istore 5, 2, 5, 0, 0) :: (3, .iconst 0, 1, 0, 0, 0) :: (4, .istore 6, 2, 6, 0, 0) :: px_c64_6
def px_c65_82 : List px_I := (82, .iload 5, 2, 5, 0, 0) :: (84, .ireturn, 1, 0, 0, 0) :: []
def px_c65_76 : List px_I := (76, .iinc 6 1, 3, 6, 0, 1) :: (79, .goto (-73), 3, 6, 0, 0) :: px_c65_82
def px_c65_43 : List px_I := (43, .istore 7, 2, 7, 0, 0) :: (45, .iload 7, 2, 7, 0, 0) :: (47, .ifCond .eq 29, 3, 76, 0, 0) :: (50, .iload_n 1, 1, 1, 0, 0) :: (51, .iload 6, 2, 6, 0, 0) :: (53, .invokestatic 108, 3, 142, 2, 0) :: (56, .ifCond .eq 20, 3, 76, 0, 0) :: (59, .iload 5, 2, 5, 0, 0) :: (61, .aload_n 0, 1, 0, 0, 0) :: (62, .iload 6, 2, 6, 0, 0) :: (64, .iload_n 2, 1, 2, 0, 0) :: (65, .iload_n 3, 1, 3, 0, 0) :: (66, .iload 4, 2, 4, 0, 0) :: (68, .invokevirtual 139, 3, 63, 5, 0) :: (71, .iconst 2, 1, 0, 0, 2) :: (72, .idiv, 1, 0, 0, 0) :: (73, .iadd, 1, 0, 0, 0) :: (74, .istore 5, 2, 5, 0, 0) :: px_c65_76
def px_c65_42 : List px_I := (42, .iconst 0, 1, 0, 0, 0) :: px_c65_43
def px_c65_6 : List px_I := (6, .iload 6, 2, 6, 0, 0) :: (8, .aload_n 0, 1, 0, 0, 0) :: (9, .getfield 24, 3, 4, 2, 0) :: (12, .getfield 64, 3, 6, 2, 0) :: (15, .if_icmp .ge 67, 3, 82, 0, 0) :: (18, .aload_n 0, 1, 0, 0, 0) :: (19, .getfield 24, 3, 4, 2, 0) :: (22, .iload 6, 2, 6, 0, 0) :: (24, .iconst 0, 1, 0, 0, 0) :: (25, .invokevirtual 68, 3, 82, 3, 0) :: (28, .invokestatic 112, 3, 143, 1, 0) :: (31, .iload_n 3, 1, 3, 0, 0) :: (32, .invokestatic 112, 3, 143, 1, 0) :: (35, .if_icmp .le 7, 3, 42, 0, 0) :: (38, .iconst 1, 1, 0, 0, 1) :: (39, .goto 4, 3, 43, 0, 0) :: px_c65_42
def px_c65_0 : List px_I := (0, .iconst 0, 1, 0, 0, 0) :: (1, .istore 5, 2, 5, 0, 0) :: (3, .iconst 0, 1, 0, 0, 0) :: (4, .istore 6, 2, 6, 0, 0) :: px_c65_6
def px_c66_67 : List px_I := (67, .iload 5, 2, 5, 0, 0) :: (69, .ireturn, 1, 0, 0, 0) :: []
def px_c66_61 : List px_I := (61, .iinc 7 1, 3, 7, 0, 1) :: (64, .goto (-55), 3, 9, 0, 0) :: px_c66_67
def px_c66_44 : List px_I := (44, .istore 8, 2, 8, 0, 0) :: (46, .iload 8, 2, 8, 0, 0) :: (48, .iload 6, 2, 6, 0, 0) :: (50, .if_icmp .le 11, 3, 61, 0, 0) :: (53, .iload 7, 2, 7, 0, 0) :: (55, .istore 5, 2, 5, 0, 0) :: (57, .iload 8, 2, 8, 0, 0) :: (59, .istore 6, 2, 6, 0, 0) :: px_c66_61
def px_c66_43 : List px_I := (43, .iconst 0, 1, 0, 0, 0) :: px_c66_44
def px_c66_9 : List px_I := (9, .iload 7, 2, 7, 0, 0) :: (11, .aload_n 0, 1, 0, 0, 0) :: (12, .getfield 24, 3, 4, 2, 0) :: (15, .getfield 64, 3, 6, 2, 0) :: (18, .if_icmp .ge 49, 3, 67, 0, 0) :: (21, .iload_n 1, 1, 1, 0, 0) :: (22, .iload 7, 2, 7, 0, 0) :: (24, .invokestatic 108, 3, 142, 2, 0) :: (27, .ifCond .eq 16, 3, 43, 0, 0) :: (30, .aload_n 0, 1, 0, 0, 0) :: (31, .iload 7, 2, 7, 0, 0) :: (33, .iload_n 2, 1, 2, 0, 0) :: (34, .iload_n 3, 1, 3, 0, 0) :: (35, .iload 4, 2, 4, 0, 0) :: (37, .invokevirtual 139, 3, 63, 5, 0) :: (40, .goto 4, 3, 44, 0, 0) :: px_c66_43
def px_c66_0 : List px_I := (0, .iconst (-1), 1, 0, 0, (-1)) :: (1, .istore 5, 2, 5, 0, 0) :: (3, .iconst 0, 1, 0, 0, 0) :: (4, .istore 6, 2, 6, 0, 0) :: (6, .iconst 0, 1, 0, 0, 0) :: (7, .istore 7, 2, 7, 0, 0) :: px_c66_9
def px_c67_101 : List px_I := (101, .iconst 0, 1, 0, 0, 0) :: (102, .ireturn, 1, 0, 0, 0) :: []
def px_c67_96 : List px_I := (96, .iload 5, 2, 5, 0, 0) :: (98, .iconst 4, 1, 0, 0, 4) :: (99, .idiv, 1, 0, 0, 0) :: (100, .ireturn, 1, 0, 0, 0) :: px_c67_101
def px_c67_91 : List px_I := (91, .iload 5, 2, 5, 0, 0) :: (93, .iconst 2, 1, 0, 0, 2) :: (94, .idiv, 1, 0, 0, 0) :: (95, .ireturn, 1, 0, 0, 0) :: px_c67_96
def px_c67_88 : List px_I := (88, .iload 5, 2, 5, 0, 0) :: (90, .ireturn, 1, 0, 0, 0) :: px_c67_91
def px_c67_38 : List px_I := (38, .aload_n 0, 1, 0, 0, 0) :: (39, .getfield 36, 3, 4, 6, 0) :: (42, .iload_n 1, 1, 1, 0, 0) :: (43, .iconst 1, 1, 0, 0, 1) :: (44, .invokevirtual 68, 3, 82, 3, 0) :: (47, .istore 5, 2, 5, 0, 0) :: (49, .iload 4, 2, 4, 0, 0) :: (51, .invokestatic 112, 3, 143, 1, 0) :: (54, .iload_n 2, 1, 2, 0, 0) :: (55, .invokestatic 112, 3, 143, 1, 0) :: (58, .isub, 1, 0, 0, 0) :: (59, .invokestatic 143, 3, 9002, 0, 0) :: (62, .tableswitch 39 0 2 #[26, 29, 34], 26, 0, 0, 0) :: px_c67_88
def px_c67_36 : List px_I := (36, .iconst 0, 1, 0, 0, 0) :: (37, .ireturn, 1, 0, 0, 0) :: px_c67_38
def px_c67_0 : List px_I := (0, .aload_n 0, 1, 0, 0, 0) :: (1, .getfield 36, 3, 4, 6, 0) :: (4, .iload_n 1, 1, 1, 0, 0) :: (5, .iconst 0, 1, 0, 0, 0) :: (6, .invokevirtual 68, 3, 82, 3, 0) :: (9, .istore 4, 2, 4, 0, 0) :: (11, .aload_n 0, 1, 0, 0, 0) :: (12, .getfield 36, 3, 4, 6, 0) :: (15, .iload_n 1, 1, 1, 0, 0) :: (16, .iconst 2, 1, 0, 0, 2) :: (17, .invokevirtual 68, 3, 82, 3, 0) :: (20, .iload_n 3, 1, 3, 0, 0) :: (21, .if_icmp .le 15, 3, 36, 0, 0) :: (24, .iload 4, 2, 4, 0, 0) :: (26, .invokestatic 105, 3, 144, 1, 0) :: (29, .iload_n 2, 1, 2, 0, 0) :: (30, .invokestatic 105, 3, 144, 1, 0) :: (33, .if_icmp .eq 5, 3, 38, 0, 0) :: px_c67_36
def px_c68_34 : List px_I := (34, .iload_n 3, 1, 3, 0, 0) :: (35, .ireturn, 1, 0, 0, 0) :: []
def px_c68_5 : List px_I := (5, .iload 4, 2, 4, 0, 0) :: (7, .aload_n 0, 1, 0, 0, 0) :: (8, .getfield 36, 3, 4, 6, 0) :: (11, .getfield 64, 3, 6, 2, 0) :: (14, .if_icmp .ge 20, 3, 34, 0, 0) :: (17, .iload_n 3, 1, 3, 0, 0) :: (18, .aload_n 0, 1, 0, 0, 0) :: (19, .iload 4, 2, 4, 0, 0) :: (21, .iload_n 1, 1, 1, 0, 0) :: (22, .iload_n 2, 1, 2, 0, 0) :: (23, .invokevirtual 146, 3, 67, 4, 0) :: (26, .iadd, 1, 0, 0, 0) :: (27, .istore_n 3, 1, 3, 0, 0) :: (28, .iinc 4 1, 3, 4, 0, 1) :: (31, .goto (-26), 3, 5, 0, 0) :: px_c68_34
def px_c68_0 : List px_I := (0, .iconst 0, 1, 0, 0, 0) :: (1, .istore_n 3, 1, 3, 0, 0) :: (2, .iconst 0, 1, 0, 0, 0) :: (3, .istore 4, 2, 4, 0, 0) :: px_c68_5
def px_c69_55 : List px_I := (55, .iload_n 3, 1, 3, 0, 0) :: (56, .ireturn, 1, 0, 0, 0) :: []
def px_c69_49 : List px_I := (49, .iinc 4 1, 3, 4, 0, 1) :: (52, .goto (-47), 3, 5, 0, 0) :: px_c69_55
def px_c69_5 : List px_I := (5, .iload 4, 2, 4, 0, 0) :: (7, .aload_n 0, 1, 0, 0, 0) :: (8, .getfield 24, 3, 4, 2, 0) :: (11, .getfield 64, 3, 6, 2, 0) :: (14, .if_icmp .ge 41, 3, 55, 0, 0) :: (17, .iload_n 1, 1, 1, 0, 0) :: (18, .iload 4, 2, 4, 0, 0) :: (20, .invokestatic 108, 3, 142, 2, 0) :: (23, .ifCond .eq 26, 3, 49, 0, 0) :: (26, .iload_n 3, 1, 3, 0, 0) :: (27, .aload_n 0, 1, 0, 0, 0) :: (28, .getfield 20, 3, 4, 1, 0) :: (31, .iload_n 2, 1, 2, 0, 0) :: (32, .iconst 2, 1, 0, 0, 2) :: (33, .invokevirtual 68, 3, 82, 3, 0) :: (36, .aload_n 0, 1, 0, 0, 0) :: (37, .getfield 24, 3, 4, 2, 0) :: (40, .iload 4, 2, 4, 0, 0) :: (42, .iconst 1, 1, 0, 0, 1) :: (43, .invokevirtual 68, 3, 82, 3, 0) :: (46, .iadd, 1, 0, 0, 0) :: (47, .iadd, 1, 0, 0, 0) :: (48, .istore_n 3, 1, 3, 0, 0) :: px_c69_49
def px_c69_0 : List px_I := (0, .iconst 0, 1, 0, 0, 0) :: (1, .istore_n 3, 1, 3, 0, 0) :: (2, .iconst 0, 1, 0, 0, 0) :: (3, .istore 4, 2, 4, 0, 0) :: px_c69_5
def px_c70_90 : List px_I := (90, .iload_n 2, 1, 2, 0, 0) :: (91, .ireturn, 1, 0, 0, 0) :: []
def px_c70_84 : List px_I := (84, .iinc 3 1, 3, 3, 0, 1) :: (87, .goto (-83), 3, 4, 0, 0) :: px_c70_90
def px_c70_63 : List px_I := (63, .istore 6, 2, 6, 0, 0) :: (65, .iload_n 2, 1, 2, 0, 0) :: (66, .iload 6, 2, 6, 0, 0) :: (68, .aload_n 0, 1, 0, 0, 0) :: (69, .getfield 20, 3, 4, 1, 0) :: (72, .iload 4, 2, 4, 0, 0) :: (74, .iconst 2, 1, 0, 0, 2) :: (75, .invokevirtual 68, 3, 82, 3, 0) :: (78, .bipush 30, 2, 0, 0, 30) :: (80, .iadd, 1, 0, 0, 0) :: (81, .imul, 1, 0, 0, 0) :: (82, .iadd, 1, 0, 0, 0) :: (83, .istore_n 2, 1, 2, 0, 0) :: px_c70_84
def px_c70_59 : List px_I := (59, .iload_n 1, 1, 1, 0, 0) :: (60, .iload 5, 2, 5, 0, 0) :: (62, .idiv, 1, 0, 0, 0) :: px_c70_63
def px_c70_26 : List px_I := (26, .aload_n 0, 1, 0, 0, 0) :: (27, .getfield 24, 3, 4, 2, 0) :: (30, .iload_n 3, 1, 3, 0, 0) :: (31, .iconst 2, 1, 0, 0, 2) :: (32, .invokevirtual 68, 3, 82, 3, 0) :: (35, .istore 4, 2, 4, 0, 0) :: (37, .aload_n 0, 1, 0, 0, 0) :: (38, .getfield 20, 3, 4, 1, 0) :: (41, .iload 4, 2, 4, 0, 0) :: (43, .iconst 3, 1, 0, 0, 3) :: (44, .invokevirtual 68, 3, 82, 3, 0) :: (47, .istore 5, 2, 5, 0, 0) :: (49, .iload 5, 2, 5, 0, 0) :: (51, .iconst 1, 1, 0, 0, 1) :: (52, .if_icmp .ge 7, 3, 59, 0, 0) :: (55, .iconst 0, 1, 0, 0, 0) :: (56, .goto 7, 3, 63, 0, 0) :: px_c70_59
def px_c70_4 : List px_I := (4, .iload_n 3, 1, 3, 0, 0) :: (5, .aload_n 0, 1, 0, 0, 0) :: (6, .getfield 24, 3, 4, 2, 0) :: (9, .getfield 64, 3, 6, 2, 0) :: (12, .if_icmp .ge 78, 3, 90, 0, 0) :: (15, .aload_n 0, 1, 0, 0, 0) :: (16, .iload_n 3, 1, 3, 0, 0) :: (17, .invokevirtual 76, 3, 52, 2, 0) :: (20, .ifCond .ne 6, 3, 26, 0, 0) :: (23, .goto 61, 3, 84, 0, 0) :: px_c70_26
def px_c70_0 : List px_I := (0, .iconst 0, 1, 0, 0, 0) :: (1, .istore_n 2, 1, 2, 0, 0) :: (2, .iconst 0, 1, 0, 0, 0) :: (3, .istore_n 3, 1, 3, 0, 0) :: px_c70_4
def px_c71_96 : List px_I := (96, .ireturn, 1, 0, 0, 0) :: []
def px_c71_88 : List px_I := (88, .iload_n 1, 1, 1, 0, 0) :: (89, .iload_n 3, 1, 3, 0, 0) :: (90, .idiv, 1, 0, 0, 0) :: (91, .iload_n 2, 1, 2, 0, 0) :: (92, .bipush 50, 2, 0, 0, 50) :: (94, .iadd, 1, 0, 0, 0) :: (95, .imul, 1, 0, 0, 0) :: px_c71_96
def px_c71_79 : List px_I := (79, .iload_n 3, 1, 3, 0, 0) :: (80, .iconst 1, 1, 0, 0, 1) :: (81, .if_icmp .ge 7, 3, 88, 0, 0) :: (84, .iconst 0, 1, 0, 0, 0) :: (85, .goto 11, 3, 96, 0, 0) :: px_c71_88
def px_c71_73 : List px_I := (73, .iinc 4 1, 3, 4, 0, 1) :: (76, .goto (-67), 3, 9, 0, 0) :: px_c71_79
def px_c71_33 : List px_I := (33, .aload_n 0, 1, 0, 0, 0) :: (34, .getfield 24, 3, 4, 2, 0) :: (37, .iload 4, 2, 4, 0, 0) :: (39, .iconst 2, 1, 0, 0, 2) :: (40, .invokevirtual 68, 3, 82, 3, 0) :: (43, .istore 5, 2, 5, 0, 0) :: (45, .iload_n 2, 1, 2, 0, 0) :: (46, .aload_n 0, 1, 0, 0, 0) :: (47, .getfield 20, 3, 4, 1, 0) :: (50, .iload 5, 2, 5, 0, 0) :: (52, .iconst 2, 1, 0, 0, 2) :: (53, .invokevirtual 68, 3, 82, 3, 0) :: (56, .iadd, 1, 0, 0, 0) :: (57, .istore_n 2, 1, 2, 0, 0) :: (58, .iload_n 3, 1, 3, 0, 0) :: (59, .aload_n 0, 1, 0, 0, 0) :: (60, .getfield 20, 3, 4, 1, 0) :: (63, .iload 5, 2, 5, 0, 0) :: (65, .iconst 3, 1, 0, 0, 3) :: (66, .invokevirtual 68, 3, 82, 3, 0) :: (69, .invokestatic 128, 3, 9004, 0, 0) :: (72, .istore_n 3, 1, 3, 0, 0) :: px_c71_73
def px_c71_9 : List px_I := (9, .iload 4, 2, 4, 0, 0) :: (11, .aload_n 0, 1, 0, 0, 0) :: (12, .getfield 24, 3, 4, 2, 0) :: (15, .getfield 64, 3, 6, 2, 0) :: (18, .if_icmp .ge 61, 3, 79, 0, 0) :: (21, .aload_n 0, 1, 0, 0, 0) :: (22, .iload 4, 2, 4, 0, 0) :: (24, .invokevirtual 76, 3, 52, 2, 0) :: (27, .ifCond .ne 6, 3, 33, 0, 0) :: (30, .goto 43, 3, 73, 0, 0) :: px_c71_33
def px_c71_0 : List px_I := (0, .iconst 0, 1, 0, 0, 0) :: (1, .istore_n 2, 1, 2, 0, 0) :: (2, .iload_n 1, 1, 1, 0, 0) :: (3, .iconst 1, 1, 0, 0, 1) :: (4, .iadd, 1, 0, 0, 0) :: (5, .istore_n 3, 1, 3, 0, 0) :: (6, .iconst 0, 1, 0, 0, 0) :: (7, .istore 4, 2, 4, 0, 0) :: px_c71_9
def px_c72_0 : List px_I := (0, .aload_n 0, 1, 0, 0, 0) :: (1, .invokespecial 3, 3, 9000, 0, 0) :: (4, .aload_n 0, 1, 0, 0, 0) :: (5, .iconst 4, 1, 0, 0, 4) :: (6, .newarray .int, 2, 100, 0, 0) :: (8, .putfield 9, 3, 5, 0, 0) :: (11, .aload_n 0, 1, 0, 0, 0) :: (12, .iconst 0, 1, 0, 0, 0) :: (13, .putfield 15, 3, 5, 1, 0) :: (16, .aload_n 0, 1, 0, 0, 0) :: (17, .iconst 0, 1, 0, 0, 0) :: (18, .putfield 19, 3, 5, 2, 0) :: (21, .return_, 1, 0, 0, 0) :: []
def px_c73_94 : List px_I := (94, .aload_n 0, 1, 0, 0, 0) :: (95, .getfield 15, 3, 5, 1, 0) :: (98, .ireturn, 1, 0, 0, 0) :: []
def px_c73_78 : List px_I := (78, .aload_n 0, 1, 0, 0, 0) :: (79, .dup, 1, 0, 0, 0) :: (80, .getfield 15, 3, 5, 1, 0) :: (83, .iconst 1, 1, 0, 0, 1) :: (84, .iadd, 1, 0, 0, 0) :: (85, .putfield 15, 3, 5, 1, 0) :: (88, .iinc 3 1, 3, 3, 0, 1) :: (91, .goto (-79), 3, 12, 0, 0) :: px_c73_94
def px_c73_60 : List px_I := (60, .aload_n 1, 1, 1, 0, 0) :: (61, .aload_n 0, 1, 0, 0, 0) :: (62, .getfield 15, 3, 5, 1, 0) :: (65, .invokevirtual 31, 3, 40, 2, 0) :: (68, .bipush 59, 2, 0, 0, 59) :: (70, .if_icmp .eq 8, 3, 78, 0, 0) :: (73, .aload_n 0, 1, 0, 0, 0) :: (74, .getfield 15, 3, 5, 1, 0) :: (77, .ireturn, 1, 0, 0, 0) :: px_c73_78
def px_c73_37 : List px_I := (37, .aload_n 0, 1, 0, 0, 0) :: (38, .dup, 1, 0, 0, 0) :: (39, .getfield 19, 3, 5, 2, 0) :: (42, .iconst 1, 1, 0, 0, 1) :: (43, .iadd, 1, 0, 0, 0) :: (44, .putfield 19, 3, 5, 2, 0) :: (47, .aload_n 0, 1, 0, 0, 0) :: (48, .getfield 15, 3, 5, 1, 0) :: (51, .aload_n 1, 1, 1, 0, 0) :: (52, .getfield 22, 3, 3, 2, 0) :: (55, .if_icmp .lt 5, 3, 60, 0, 0) :: (58, .iconst (-1), 1, 0, 0, (-1)) :: (59, .ireturn, 1, 0, 0, 0) :: px_c73_60
def px_c73_12 : List px_I := (12, .iload_n 3, 1, 3, 0, 0) :: (13, .aload_n 1, 1, 1, 0, 0) :: (14, .getfield 22, 3, 3, 2, 0) :: (17, .if_icmp .gt 77, 3, 94, 0, 0) :: (20, .aload_n 0, 1, 0, 0, 0) :: (21, .aload_n 1, 1, 1, 0, 0) :: (22, .aload_n 2, 1, 2, 0, 0) :: (23, .invokevirtual 27, 3, 74, 3, 0) :: (26, .istore 4, 2, 4, 0, 0) :: (28, .iload 4, 2, 4, 0, 0) :: (30, .iconst (-1), 1, 0, 0, (-1)) :: (31, .if_icmp .eq 6, 3, 37, 0, 0) :: (34, .iload 4, 2, 4, 0, 0) :: (36, .ireturn, 1, 0, 0, 0) :: px_c73_37
def px_c73_0 : List px_I := (0, .aload_n 0, 1, 0, 0, 0) :: (1, .iconst 0, 1, 0, 0, 0) :: (2, .putfield 15, 3, 5, 1, 0) :: (5, .aload_n 0, 1, 0, 0, 0) :: (6, .iconst 0, 1, 0, 0, 0) :: (7, .putfield 19, 3, 5, 2, 0) :: (10, .iconst 0, 1, 0, 0, 0) :: (11, .istore_n 3, 1, 3, 0, 0) :: px_c73_12
def px_c74_115 : List px_I := (115, .aload_n 2, 1, 2, 0, 0) :: (116, .iload 4, 2, 4, 0, 0) :: (118, .aload_n 0, 1, 0, 0, 0) :: (119, .getfield 9, 3, 5, 0, 0) :: (122, .invokevirtual 58, 3, 48, 3, 0) :: (125, .iconst (-1), 1, 0, 0, (-1)) :: (126, .ireturn, 1, 0, 0, 0) :: []
def px_c74_109 : List px_I := (109, .iinc 5 1, 3, 5, 0, 1) :: (112, .goto (-59), 3, 53, 0, 0) :: px_c74_115
def px_c74_82 : List px_I := (82, .aload_n 0, 1, 0, 0, 0) :: (83, .dup, 1, 0, 0, 0) :: (84, .getfield 15, 3, 5, 1, 0) :: (87, .iconst 1, 1, 0, 0, 1) :: (88, .iadd, 1, 0, 0, 0) :: (89, .putfield 15, 3, 5, 1, 0) :: (92, .aload_n 0, 1, 0, 0, 0) :: (93, .aload_n 1, 1, 1, 0, 0) :: (94, .iload 4, 2, 4, 0, 0) :: (96, .iload 5, 2, 5, 0, 0) :: (98, .invokevirtual 54, 3, 77, 4, 0) :: (101, .ifCond .ne 8, 3, 109, 0, 0) :: (104, .aload_n 0, 1, 0, 0, 0) :: (105, .getfield 15, 3, 5, 1, 0) :: (108, .ireturn, 1, 0, 0, 0) :: px_c74_109
def px_c74_53 : List px_I := (53, .iload 5, 2, 5, 0, 0) :: (55, .getstatic 39, 3, 2, 0, 0) :: (58, .iload 4, 2, 4, 0, 0) :: (60, .iaload, 1, 0, 0, 0) :: (61, .if_icmp .ge 54, 3, 115, 0, 0) :: (64, .aload_n 1, 1, 1, 0, 0) :: (65, .aload_n 0, 1, 0, 0, 0) :: (66, .getfield 15, 3, 5, 1, 0) :: (69, .invokevirtual 31, 3, 40, 2, 0) :: (72, .bipush 32, 2, 0, 0, 32) :: (74, .if_icmp .eq 8, 3, 82, 0, 0) :: (77, .aload_n 0, 1, 0, 0, 0) :: (78, .getfield 15, 3, 5, 1, 0) :: (81, .ireturn, 1, 0, 0, 0) :: px_c74_82
def px_c74_42 : List px_I := (42, .aload_n 0, 1, 0, 0, 0) :: (43, .getfield 9, 3, 5, 0, 0) :: (46, .iconst 0, 1, 0, 0, 0) :: (47, .invokestatic 48, 3, 258, 2, 0) :: (50, .iconst 0, 1, 0, 0, 0) :: (51, .istore 5, 2, 5, 0, 0) :: px_c74_53
def px_c74_31 : List px_I := (31, .aload_n 2, 1, 2, 0, 0) :: (32, .iload 4, 2, 4, 0, 0) :: (34, .invokevirtual 42, 3, 47, 2, 0) :: (37, .ifCond .ne 5, 3, 42, 0, 0) :: (40, .iload_n 3, 1, 3, 0, 0) :: (41, .ireturn, 1, 0, 0, 0) :: px_c74_42
def px_c74_26 : List px_I := (26, .aload_n 0, 1, 0, 0, 0) :: (27, .getfield 15, 3, 5, 1, 0) :: (30, .ireturn, 1, 0, 0, 0) :: px_c74_31
def px_c74_0 : List px_I := (0, .aload_n 0, 1, 0, 0, 0) :: (1, .getfield 15, 3, 5, 1, 0) :: (4, .istore_n 3, 1, 3, 0, 0) :: (5, .aload_n 0, 1, 0, 0, 0) :: (6, .aload_n 1, 1, 1, 0, 0) :: (7, .invokevirtual 35, 3, 75, 2, 0) :: (10, .istore 4, 2, 4, 0, 0) :: (12, .iload 4, 2, 4, 0, 0) :: (14, .ifCond .lt 12, 3, 26, 0, 0) :: (17, .iload 4, 2, 4, 0, 0) :: (19, .getstatic 39, 3, 2, 0, 0) :: (22, .arraylength, 1, 0, 0, 0) :: (23, .if_icmp .lt 8, 3, 31, 0, 0) :: px_c74_26
def px_c75_61 : List px_I := (61, .iconst (-1), 1, 0, 0, (-1)) :: (62, .ireturn, 1, 0, 0, 0) :: []
def px_c75_55 : List px_I := (55, .iinc 3 1, 3, 3, 0, 1) :: (58, .goto (-51), 3, 7, 0, 0) :: px_c75_61
def px_c75_7 : List px_I := (7, .iload_n 3, 1, 3, 0, 0) :: (8, .bipush 11, 2, 0, 0, 11) :: (10, .if_icmp .ge 51, 3, 61, 0, 0) :: (13, .iload_n 3, 1, 3, 0, 0) :: (14, .invokestatic 62, 3, 147, 1, 0) :: (17, .astore 4, 2, 4, 0, 0) :: (19, .aload_n 1, 1, 1, 0, 0) :: (20, .iload_n 2, 1, 2, 0, 0) :: (21, .aload 4, 2, 4, 0, 0) :: (23, .invokestatic 66, 3, 76, 3, 0) :: (26, .istore 5, 2, 5, 0, 0) :: (28, .aload_n 0, 1, 0, 0, 0) :: (29, .aload_n 0, 1, 0, 0, 0) :: (30, .getfield 15, 3, 5, 1, 0) :: (33, .iload_n 2, 1, 2, 0, 0) :: (34, .iload 5, 2, 5, 0, 0) :: (36, .iadd, 1, 0, 0, 0) :: (37, .invokestatic 70, 3, 9003, 0, 0) :: (40, .putfield 15, 3, 5, 1, 0) :: (43, .iload 5, 2, 5, 0, 0) :: (45, .aload 4, 2, 4, 0, 0) :: (47, .invokevirtual 76, 3, 251, 1, 0) :: (50, .if_icmp .ne 5, 3, 55, 0, 0) :: (53, .iload_n 3, 1, 3, 0, 0) :: (54, .ireturn, 1, 0, 0, 0) :: px_c75_55
def px_c75_0 : List px_I := (0, .aload_n 0, 1, 0, 0, 0) :: (1, .getfield 15, 3, 5, 1, 0) :: (4, .istore_n 2, 1, 2, 0, 0) :: (5, .iconst 0, 1, 0, 0, 0) :: (6, .istore_n 3, 1, 3, 0, 0) :: px_c75_7
def px_c76_31 : List px_I := (31, .iload_n 3, 1, 3, 0, 0) :: (32, .ireturn, 1, 0, 0, 0) :: []
def px_c76_2 : List px_I := (2, .iload_n 3, 1, 3, 0, 0) :: (3, .aload_n 2, 1, 2, 0, 0) :: (4, .invokevirtual 76, 3, 251, 1, 0) :: (7, .if_icmp .ge 24, 3, 31, 0, 0) :: (10, .aload_n 0, 1, 0, 0, 0) :: (11, .iload_n 1, 1, 1, 0, 0) :: (12, .iload_n 3, 1, 3, 0, 0) :: (13, .iadd, 1, 0, 0, 0) :: (14, .invokevirtual 31, 3, 40, 2, 0) :: (17, .aload_n 2, 1, 2, 0, 0) :: (18, .iload_n 3, 1, 3, 0, 0) :: (19, .invokevirtual 82, 3, 252, 2, 0) :: (22, .if_icmp .ne 9, 3, 31, 0, 0) :: (25, .iinc 3 1, 3, 3, 0, 1) :: (28, .goto (-26), 3, 2, 0, 0) :: px_c76_31
def px_c76_0 : List px_I := (0, .iconst 0, 1, 0, 0, 0) :: (1, .istore_n 3, 1, 3, 0, 0) :: px_c76_2
def px_c77_83 : List px_I := (83, .aload_n 0, 1, 0, 0, 0) :: (84, .getfield 9, 3, 5, 0, 0) :: (87, .iload_n 3, 1, 3, 0, 0) :: (88, .iload 4, 2, 4, 0, 0) :: (90, .iastore, 1, 0, 0, 0) :: (91, .aload_n 0, 1, 0, 0, 0) :: (92, .dup, 1, 0, 0, 0) :: (93, .getfield 15, 3, 5, 1, 0) :: (96, .iload 5, 2, 5, 0, 0) :: (98, .iadd, 1, 0, 0, 0) :: (99, .putfield 15, 3, 5, 1, 0) :: (102, .iconst 1, 1, 0, 0, 1) :: (103, .ireturn, 1, 0, 0, 0) :: []
def px_c77_81 : List px_I := (81, .iconst 0, 1, 0, 0, 0) :: (82, .ireturn, 1, 0, 0, 0) :: px_c77_83
def px_c77_57 : List px_I := (57, .iload 5, 2, 5, 0, 0) :: (59, .ifCond .eq 22, 3, 81, 0, 0) :: (62, .iload_n 3, 1, 3, 0, 0) :: (63, .aload_n 0, 1, 0, 0, 0) :: (64, .getfield 9, 3, 5, 0, 0) :: (67, .arraylength, 1, 0, 0, 0) :: (68, .if_icmp .ge 13, 3, 81, 0, 0) :: (71, .iload_n 2, 1, 2, 0, 0) :: (72, .iload_n 3, 1, 3, 0, 0) :: (73, .iload 4, 2, 4, 0, 0) :: (75, .invokestatic 89, 3, 145, 3, 0) :: (78, .ifCond .ne 5, 3, 83, 0, 0) :: px_c77_81
def px_c77_6 : List px_I := (6, .iload 5, 2, 5, 0, 0) :: (8, .iconst 3, 1, 0, 0, 3) :: (9, .if_icmp .ge 48, 3, 57, 0, 0) :: (12, .aload_n 1, 1, 1, 0, 0) :: (13, .aload_n 0, 1, 0, 0, 0) :: (14, .getfield 15, 3, 5, 1, 0) :: (17, .iload 5, 2, 5, 0, 0) :: (19, .iadd, 1, 0, 0, 0) :: (20, .invokevirtual 31, 3, 40, 2, 0) :: (23, .invokestatic 86, 3, 78, 1, 0) :: (26, .ifCond .eq 31, 3, 57, 0, 0) :: (29, .iload 4, 2, 4, 0, 0) :: (31, .bipush 10, 2, 0, 0, 10) :: (33, .imul, 1, 0, 0, 0) :: (34, .aload_n 1, 1, 1, 0, 0) :: (35, .aload_n 0, 1, 0, 0, 0) :: (36, .getfield 15, 3, 5, 1, 0) :: (39, .iload 5, 2, 5, 0, 0) :: (41, .iadd, 1, 0, 0, 0) :: (42, .invokevirtual 31, 3, 40, 2, 0) :: (45, .iadd, 1, 0, 0, 0) :: (46, .bipush 48, 2, 0, 0, 48) :: (48, .isub, 1, 0, 0, 0) :: (49, .istore 4, 2, 4, 0, 0) :: (51, .iinc 5 1, 3, 5, 0, 1) :: (54, .goto (-48), 3, 6, 0, 0) :: px_c77_57
def px_c77_0 : List px_I := (0, .iconst 0, 1, 0, 0, 0) :: (1, .istore 4, 2, 4, 0, 0) :: (3, .iconst 0, 1, 0, 0, 0) :: (4, .istore 5, 2, 5, 0, 0) :: px_c77_6
def px_c78_17 : List px_I := (17, .ireturn, 1, 0, 0, 0) :: []
def px_c78_16 : List px_I := (16, .iconst 0, 1, 0, 0, 0) :: px_c78_17
def px_c78_0 : List px_I := (0, .iload_n 0, 1, 0, 0, 0) :: (1, .bipush 48, 2, 0, 0, 48) :: (3, .if_icmp .lt 13, 3, 16, 0, 0) :: (6, .iload_n 0, 1, 0, 0, 0) :: (7, .bipush 57, 2, 0, 0, 57) :: (9, .if_icmp .gt 7, 3, 16, 0, 0) :: (12, .iconst 1, 1, 0, 0, 1) :: (13, .goto 4, 3, 17, 0, 0) :: px_c78_16
def px_c79_0 : List px_I := (0, .aload_n 0, 1, 0, 0, 0) :: (1, .invokespecial 3, 3, 9000, 0, 0) :: (4, .aload_n 0, 1, 0, 0, 0) :: (5, .iconst 0, 1, 0, 0, 0) :: (6, .putfield 9, 3, 6, 2, 0) :: (9, .aload_n 0, 1, 0, 0, 0) :: (10, .iload_n 1, 1, 1, 0, 0) :: (11, .putfield 15, 3, 6, 0, 0) :: (14, .aload_n 0, 1, 0, 0, 0) :: (15, .iload_n 1, 1, 1, 0, 0) :: (16, .iconst 4, 1, 0, 0, 4) :: (17, .imul, 1, 0, 0, 0) :: (18, .newarray .int, 2, 100, 0, 0) :: (20, .putfield 18, 3, 6, 1, 0) :: (23, .return_, 1, 0, 0, 0) :: []
def px_c80_16 : List px_I := (16, .ireturn, 1, 0, 0, 0) :: []
def px_c80_15 : List px_I := (15, .iconst 0, 1, 0, 0, 0) :: px_c80_16
def px_c80_0 : List px_I := (0, .aload_n 0, 1, 0, 0, 0) :: (1, .getfield 9, 3, 6, 2, 0) :: (4, .aload_n 0, 1, 0, 0, 0) :: (5, .getfield 15, 3, 6, 0, 0) :: (8, .if_icmp .lt 7, 3, 15, 0, 0) :: (11, .iconst 1, 1, 0, 0, 1) :: (12, .goto 4, 3, 16, 0, 0) :: px_c80_15
def px_c81_17 : List px_I := (17, .ireturn, 1, 0, 0, 0) :: []
def px_c81_16 : List px_I := (16, .iconst 0, 1, 0, 0, 0) :: px_c81_17
def px_c81_0 : List px_I := (0, .iload_n 1, 1, 1, 0, 0) :: (1, .ifCond .lt 15, 3, 16, 0, 0) :: (4, .iload_n 1, 1, 1, 0, 0) :: (5, .aload_n 0, 1, 0, 0, 0) :: (6, .getfield 9, 3, 6, 2, 0) :: (9, .if_icmp .ge 7, 3, 16, 0, 0) :: (12, .iconst 1, 1, 0, 0, 1) :: (13, .goto 4, 3, 17, 0, 0) :: px_c81_16
def px_c82_45 : List px_I := (45, .ireturn, 1, 0, 0, 0) :: []
def px_c82_44 : List px_I := (44, .iconst (-1), 1, 0, 0, (-1)) :: px_c82_45
def px_c82_26 : List px_I := (26, .istore_n 3, 1, 3, 0, 0) :: (27, .iload_n 3, 1, 3, 0, 0) :: (28, .ifCond .eq 16, 3, 44, 0, 0) :: (31, .aload_n 0, 1, 0, 0, 0) :: (32, .getfield 18, 3, 6, 1, 0) :: (35, .iload_n 1, 1, 1, 0, 0) :: (36, .iconst 4, 1, 0, 0, 4) :: (37, .imul, 1, 0, 0, 0) :: (38, .iload_n 2, 1, 2, 0, 0) :: (39, .iadd, 1, 0, 0, 0) :: (40, .iaload, 1, 0, 0, 0) :: (41, .goto 4, 3, 45, 0, 0) :: px_c82_44
def px_c82_25 : List px_I := (25, .iconst 0, 1, 0, 0, 0) :: px_c82_26
def px_c82_0 : List px_I := (0, .iload_n 1, 1, 1, 0, 0) :: (1, .ifCond .lt 24, 3, 25, 0, 0) :: (4, .iload_n 1, 1, 1, 0, 0) :: (5, .aload_n 0, 1, 0, 0, 0) :: (6, .getfield 9, 3, 6, 2, 0) :: (9, .if_icmp .ge 16, 3, 25, 0, 0) :: (12, .iload_n 2, 1, 2, 0, 0) :: (13, .ifCond .lt 12, 3, 25, 0, 0) :: (16, .iload_n 2, 1, 2, 0, 0) :: (17, .iconst 4, 1, 0, 0, 4) :: (18, .if_icmp .ge 7, 3, 25, 0, 0) :: (21, .iconst 1, 1, 0, 0, 1) :: (22, .goto 4, 3, 26, 0, 0) :: px_c82_25
def px_c83_28 : List px_I := (28, .return_, 1, 0, 0, 0) :: []
def px_c83_0 : List px_I := (0, .aload_n 0, 1, 0, 0, 0) :: (1, .iload_n 1, 1, 1, 0, 0) :: (2, .invokevirtual 22, 3, 81, 2, 0) :: (5, .ifCond .eq 23, 3, 28, 0, 0) :: (8, .iload_n 2, 1, 2, 0, 0) :: (9, .ifCond .lt 19, 3, 28, 0, 0) :: (12, .iload_n 2, 1, 2, 0, 0) :: (13, .iconst 4, 1, 0, 0, 4) :: (14, .if_icmp .ge 14, 3, 28, 0, 0) :: (17, .aload_n 0, 1, 0, 0, 0) :: (18, .getfield 18, 3, 6, 1, 0) :: (21, .iload_n 1, 1, 1, 0, 0) :: (22, .iconst 4, 1, 0, 0, 4) :: (23, .imul, 1, 0, 0, 0) :: (24, .iload_n 2, 1, 2, 0, 0) :: (25, .iadd, 1, 0, 0, 0) :: (26, .iload_n 3, 1, 3, 0, 0) :: (27, .iastore, 1, 0, 0, 0) :: px_c83_28
def px_c84_9 : List px_I := (9, .aload_n 0, 1, 0, 0, 0) :: (10, .getfield 9, 3, 6, 2, 0) :: (13, .istore 5, 2, 5, 0, 0) :: (15, .aload_n 0, 1, 0, 0, 0) :: (16, .dup, 1, 0, 0, 0) :: (17, .getfield 9, 3, 6, 2, 0) :: (20, .iconst 1, 1, 0, 0, 1) :: (21, .iadd, 1, 0, 0, 0) :: (22, .putfield 9, 3, 6, 2, 0) :: (25, .aload_n 0, 1, 0, 0, 0) :: (26, .iload 5, 2, 5, 0, 0) :: (28, .iconst 0, 1, 0, 0, 0) :: (29, .iload_n 1, 1, 1, 0, 0) :: (30, .invokevirtual 30, 3, 83, 4, 0) :: (33, .aload_n 0, 1, 0, 0, 0) :: (34, .iload 5, 2, 5, 0, 0) :: (36, .iconst 1, 1, 0, 0, 1) :: (37, .iload_n 2, 1, 2, 0, 0) :: (38, .invokevirtual 30, 3, 83, 4, 0) :: (41, .aload_n 0, 1, 0, 0, 0) :: (42, .iload 5, 2, 5, 0, 0) :: (44, .iconst 2, 1, 0, 0, 2) :: (45, .iload_n 3, 1, 3, 0, 0) :: (46, .invokevirtual 30, 3, 83, 4, 0) :: (49, .aload_n 0, 1, 0, 0, 0) :: (50, .iload 5, 2, 5, 0, 0) :: (52, .iconst 3, 1, 0, 0, 3) :: (53, .iload 4, 2, 4, 0, 0) :: (55, .invokevirtual 30, 3, 83, 4, 0) :: (58, .iload 5, 2, 5, 0, 0) :: (60, .ireturn, 1, 0, 0, 0) :: []
def px_c84_0 : List px_I := (0, .aload_n 0, 1, 0, 0, 0) :: (1, .invokevirtual 26, 3, 80, 1, 0) :: (4, .ifCond .eq 5, 3, 9, 0, 0) :: (7, .iconst (-1), 1, 0, 0, (-1)) :: (8, .ireturn, 1, 0, 0, 0) :: px_c84_9
def px_c85_0 : List px_I := (0, .aload_n 0, 1, 0, 0, 0) :: (1, .getfield 18, 3, 6, 1, 0) :: (4, .arraylength, 1, 0, 0, 0) :: (5, .aload_n 1, 1, 1, 0, 0) :: (6, .getfield 18, 3, 6, 1, 0) :: (9, .arraylength, 1, 0, 0, 0) :: (10, .invokestatic 34, 3, 9004, 0, 0) :: (13, .istore_n 2, 1, 2, 0, 0) :: (14, .aload_n 1, 1, 1, 0, 0) :: (15, .getfield 18, 3, 6, 1, 0) :: (18, .iconst 0, 1, 0, 0, 0) :: (19, .aload_n 0, 1, 0, 0, 0) :: (20, .getfield 18, 3, 6, 1, 0) :: (23, .iconst 0, 1, 0, 0, 0) :: (24, .iload_n 2, 1, 2, 0, 0) :: (25, .invokestatic 40, 3, 9001, 0, 0) :: (28, .aload_n 0, 1, 0, 0, 0) :: (29, .aload_n 1, 1, 1, 0, 0) :: (30, .getfield 9, 3, 6, 2, 0) :: (33, .putfield 9, 3, 6, 2, 0) :: (36, .return_, 1, 0, 0, 0) :: []
def px_c86_135 : List px_I := (135, .return_, 1, 0, 0, 0) :: []
def px_c86_110 : List px_I := (110, .iload_n 1, 1, 1, 0, 0) :: (111, .bipush 8, 2, 0, 0, 8) :: (113, .if_icmp .ge 22, 3, 135, 0, 0) :: (116, .aload_n 0, 1, 0, 0, 0) :: (117, .getfield 28, 3, 7, 4, 0) :: (120, .iload_n 1, 1, 1, 0, 0) :: (121, .new 26, 3, 3, 0, 0) :: (124, .dup, 1, 0, 0, 0) :: (125, .invokespecial 68, 3, 31, 1, 0) :: (128, .aastore, 1, 0, 0, 0) :: (129, .iinc 1 1, 3, 1, 0, 1) :: (132, .goto (-22), 3, 110, 0, 0) :: px_c86_135
def px_c86_0 : List px_I := (0, .aload_n 0, 1, 0, 0, 0) :: (1, .invokespecial 1, 3, 9000, 0, 0) :: (4, .aload_n 0, 1, 0, 0, 0) :: (5, .new 7, 3, 4, 0, 0) :: (8, .dup, 1, 0, 0, 0) :: (9, .invokespecial 9, 3, 45, 1, 0) :: (12, .putfield 10, 3, 7, 0, 0) :: (15, .aload_n 0, 1, 0, 0, 0) :: (16, .new 7, 3, 4, 0, 0) :: (19, .dup, 1, 0, 0, 0) :: (20, .invokespecial 9, 3, 45, 1, 0) :: (23, .putfield 16, 3, 7, 1, 0) :: (26, .aload_n 0, 1, 0, 0, 0) :: (27, .new 7, 3, 4, 0, 0) :: (30, .dup, 1, 0, 0, 0) :: (31, .invokespecial 9, 3, 45, 1, 0) :: (34, .putfield 19, 3, 7, 2, 0) :: (37, .aload_n 0, 1, 0, 0, 0) :: (38, .iconst 0, 1, 0, 0, 0) :: (39, .putfield 22, 3, 7, 3, 0) :: (42, .aload_n 0, 1, 0, 0, 0) :: (43, .bipush 8, 2, 0, 0, 8) :: (45, .anewarray 26, 3, 103, 0, 0) :: (48, .putfield 28, 3, 7, 4, 0) :: (51, .aload_n 0, 1, 0, 0, 0) :: (52, .new 32, 3, 5, 0, 0) :: (55, .dup, 1, 0, 0, 0) :: (56, .invokespecial 34, 3, 72, 1, 0) :: (59, .putfield 35, 3, 7, 5, 0) :: (62, .aload_n 0, 1, 0, 0, 0) :: (63, .new 39, 3, 2, 0, 0) :: (66, .dup, 1, 0, 0, 0) :: (67, .invokespecial 41, 3, 19, 1, 0) :: (70, .putfield 42, 3, 7, 6, 0) :: (73, .aload_n 0, 1, 0, 0, 0) :: (74, .new 46, 3, 1, 0, 0) :: (77, .dup, 1, 0, 0, 0) :: (78, .invokespecial 48, 3, 8, 1, 0) :: (81, .putfield 49, 3, 7, 7, 0) :: (84, .aload_n 0, 1, 0, 0, 0) :: (85, .new 53, 3, 0, 0, 0) :: (88, .dup, 1, 0, 0, 0) :: (89, .invokespecial 55, 3, 0, 1, 0) :: (92, .putfield 56, 3, 7, 8, 0) :: (95, .aload_n 0, 1, 0, 0, 0) :: (96, .bipush 8, 2, 0, 0, 8) :: (98, .newarray .int, 2, 100, 0, 0) :: (100, .putfield 60, 3, 7, 9, 0) :: (103, .aload_n 0, 1, 0, 0, 0) :: (104, .iconst (-1), 1, 0, 0, (-1)) :: (105, .putfield 64, 3, 7, 10, 0) :: (108, .iconst 0, 1, 0, 0, 0) :: (109, .istore_n 1, 1, 1, 0, 0) :: px_c86_110
def px_c87_53 : List px_I := (53, .aload_n 0, 1, 0, 0, 0) :: (54, .getfield 28, 3, 7, 4, 0) :: (57, .iload_n 1, 1, 1, 0, 0) :: (58, .aaload, 1, 0, 0, 0) :: (59, .iload_n 2, 1, 2, 0, 0) :: (60, .iload_n 3, 1, 3, 0, 0) :: (61, .invokevirtual 77, 3, 35, 3, 0) :: (64, .iconst 1, 1, 0, 0, 1) :: (65, .ireturn, 1, 0, 0, 0) :: []
def px_c87_40 : List px_I := (40, .iload_n 3, 1, 3, 0, 0) :: (41, .bipush 120, 2, 0, 0, 120) :: (43, .if_icmp .le 10, 3, 53, 0, 0) :: (46, .aload_n 0, 1, 0, 0, 0) :: (47, .bipush (-7), 2, 0, 0, (-7)) :: (49, .invokevirtual 73, 3, 130, 2, 0) :: (52, .ireturn, 1, 0, 0, 0) :: px_c87_53
def px_c87_33 : List px_I := (33, .aload_n 0, 1, 0, 0, 0) :: (34, .bipush (-6), 2, 0, 0, (-6)) :: (36, .invokevirtual 73, 3, 130, 2, 0) :: (39, .ireturn, 1, 0, 0, 0) :: px_c87_40
def px_c87_24 : List px_I := (24, .iload_n 2, 1, 2, 0, 0) :: (25, .ifCond .lt 8, 3, 33, 0, 0) :: (28, .iload_n 2, 1, 2, 0, 0) :: (29, .iconst 3, 1, 0, 0, 3) :: (30, .if_icmp .le 10, 3, 40, 0, 0) :: px_c87_33
def px_c87_13 : List px_I := (13, .iload_n 3, 1, 3, 0, 0) :: (14, .ifCond .ge 10, 3, 24, 0, 0) :: (17, .aload_n 0, 1, 0, 0, 0) :: (18, .bipush (-4), 2, 0, 0, (-4)) :: (20, .invokevirtual 73, 3, 130, 2, 0) :: (23, .ireturn, 1, 0, 0, 0) :: px_c87_24
def px_c87_0 : List px_I := (0, .iload_n 1, 1, 1, 0, 0) :: (1, .invokestatic 69, 3, 138, 1, 0) :: (4, .ifCond .ne 9, 3, 13, 0, 0) :: (7, .aload_n 0, 1, 0, 0, 0) :: (8, .iconst (-1), 1, 0, 0, (-1)) :: (9, .invokevirtual 73, 3, 130, 2, 0) :: (12, .ireturn, 1, 0, 0, 0) :: px_c87_13
def px_c88_39 : List px_I := (39, .aload_n 0, 1, 0, 0, 0) :: (40, .getfield 28, 3, 7, 4, 0) :: (43, .iload_n 1, 1, 1, 0, 0) :: (44, .aaload, 1, 0, 0, 0) :: (45, .iload_n 2, 1, 2, 0, 0) :: (46, .lload_n 3, 1, 3, 0, 0) :: (47, .invokevirtual 87, 3, 41, 3, 0) :: (50, .iconst 1, 1, 0, 0, 1) :: (51, .ireturn, 1, 0, 0, 0) :: []
def px_c88_19 : List px_I := (19, .aload_n 0, 1, 0, 0, 0) :: (20, .getfield 28, 3, 7, 4, 0) :: (23, .iload_n 1, 1, 1, 0, 0) :: (24, .aaload, 1, 0, 0, 0) :: (25, .iload_n 2, 1, 2, 0, 0) :: (26, .invokevirtual 84, 3, 37, 2, 0) :: (29, .ifCond .ne 10, 3, 39, 0, 0) :: (32, .aload_n 0, 1, 0, 0, 0) :: (33, .bipush (-5), 2, 0, 0, (-5)) :: (35, .invokevirtual 73, 3, 130, 2, 0) :: (38, .ireturn, 1, 0, 0, 0) :: px_c88_39
def px_c88_0 : List px_I := (0, .aload_n 0, 1, 0, 0, 0) :: (1, .iload_n 1, 1, 1, 0, 0) :: (2, .invokevirtual 81, 3, 132, 2, 0) :: (5, .istore 5, 2, 5, 0, 0) :: (7, .iload 5, 2, 5, 0, 0) :: (9, .ifCond .eq 10, 3, 19, 0, 0) :: (12, .aload_n 0, 1, 0, 0, 0) :: (13, .iload 5, 2, 5, 0, 0) :: (15, .invokevirtual 73, 3, 130, 2, 0) :: (18, .ireturn, 1, 0, 0, 0) :: px_c88_19
def px_c89_160 : List px_I := (160, .aload 6, 2, 6, 0, 0) :: (162, .getfield 105, 3, 3, 0, 0) :: (165, .iload_n 3, 1, 3, 0, 0) :: (166, .aload 7, 2, 7, 0, 0) :: (168, .getfield 105, 3, 3, 0, 0) :: (171, .iload 4, 2, 4, 0, 0) :: (173, .iload 5, 2, 5, 0, 0) :: (175, .invokestatic 109, 3, 9001, 0, 0) :: (178, .iconst 1, 1, 0, 0, 1) :: (179, .ireturn, 1, 0, 0, 0) :: []
def px_c89_153 : List px_I := (153, .aload_n 0, 1, 0, 0, 0) :: (154, .bipush (-5), 2, 0, 0, (-5)) :: (156, .invokevirtual 73, 3, 130, 2, 0) :: (159, .ireturn, 1, 0, 0, 0) :: px_c89_160
def px_c89_130 : List px_I := (130, .aload 6, 2, 6, 0, 0) :: (132, .iload_n 3, 1, 3, 0, 0) :: (133, .iload 5, 2, 5, 0, 0) :: (135, .invokevirtual 101, 3, 38, 3, 0) :: (138, .ifCond .eq 15, 3, 153, 0, 0) :: (141, .aload 7, 2, 7, 0, 0) :: (143, .iload 4, 2, 4, 0, 0) :: (145, .iload 5, 2, 5, 0, 0) :: (147, .invokevirtual 101, 3, 38, 3, 0) :: (150, .ifCond .ne 10, 3, 160, 0, 0) :: px_c89_153
def px_c89_118 : List px_I := (118, .iload 5, 2, 5, 0, 0) :: (120, .ifCond .ge 10, 3, 130, 0, 0) :: (123, .aload_n 0, 1, 0, 0, 0) :: (124, .bipush (-4), 2, 0, 0, (-4)) :: (126, .invokevirtual 73, 3, 130, 2, 0) :: (129, .ireturn, 1, 0, 0, 0) :: px_c89_130
def px_c89_111 : List px_I := (111, .aload_n 0, 1, 0, 0, 0) :: (112, .bipush (-3), 2, 0, 0, (-3)) :: (114, .invokevirtual 73, 3, 130, 2, 0) :: (117, .ireturn, 1, 0, 0, 0) :: px_c89_118
def px_c89_95 : List px_I := (95, .aload 6, 2, 6, 0, 0) :: (97, .invokevirtual 95, 3, 32, 1, 0) :: (100, .ifCond .eq 11, 3, 111, 0, 0) :: (103, .aload 7, 2, 7, 0, 0) :: (105, .invokevirtual 95, 3, 32, 1, 0) :: (108, .ifCond .ne 10, 3, 118, 0, 0) :: px_c89_111
def px_c89_59 : List px_I := (59, .aload 6, 2, 6, 0, 0) :: (61, .invokevirtual 95, 3, 32, 1, 0) :: (64, .ifCond .eq 31, 3, 95, 0, 0) :: (67, .aload 7, 2, 7, 0, 0) :: (69, .invokevirtual 95, 3, 32, 1, 0) :: (72, .ifCond .eq 23, 3, 95, 0, 0) :: (75, .aload 6, 2, 6, 0, 0) :: (77, .getfield 98, 3, 3, 1, 0) :: (80, .aload 7, 2, 7, 0, 0) :: (82, .getfield 98, 3, 3, 1, 0) :: (85, .if_icmp .eq 10, 3, 95, 0, 0) :: (88, .aload_n 0, 1, 0, 0, 0) :: (89, .bipush (-2), 2, 0, 0, (-2)) :: (91, .invokevirtual 73, 3, 130, 2, 0) :: (94, .ireturn, 1, 0, 0, 0) :: px_c89_95
def px_c89_52 : List px_I := (52, .aload_n 0, 1, 0, 0, 0) :: (53, .bipush (-2), 2, 0, 0, (-2)) :: (55, .invokevirtual 73, 3, 130, 2, 0) :: (58, .ireturn, 1, 0, 0, 0) :: px_c89_59
def px_c89_20 : List px_I := (20, .aload_n 0, 1, 0, 0, 0) :: (21, .getfield 28, 3, 7, 4, 0) :: (24, .iload_n 1, 1, 1, 0, 0) :: (25, .aaload, 1, 0, 0, 0) :: (26, .astore 6, 2, 6, 0, 0) :: (28, .aload_n 0, 1, 0, 0, 0) :: (29, .getfield 28, 3, 7, 4, 0) :: (32, .iload_n 2, 1, 2, 0, 0) :: (33, .aaload, 1, 0, 0, 0) :: (34, .astore 7, 2, 7, 0, 0) :: (36, .aload 6, 2, 6, 0, 0) :: (38, .invokevirtual 91, 3, 33, 1, 0) :: (41, .ifCond .ne 11, 3, 52, 0, 0) :: (44, .aload 7, 2, 7, 0, 0) :: (46, .invokevirtual 91, 3, 33, 1, 0) :: (49, .ifCond .eq 10, 3, 59, 0, 0) :: px_c89_52
def px_c89_14 : List px_I := (14, .aload_n 0, 1, 0, 0, 0) :: (15, .iconst (-1), 1, 0, 0, (-1)) :: (16, .invokevirtual 73, 3, 130, 2, 0) :: (19, .ireturn, 1, 0, 0, 0) :: px_c89_20
def px_c89_0 : List px_I := (0, .iload_n 1, 1, 1, 0, 0) :: (1, .invokestatic 69, 3, 138, 1, 0) :: (4, .ifCond .eq 10, 3, 14, 0, 0) :: (7, .iload_n 2, 1, 2, 0, 0) :: (8, .invokestatic 69, 3, 138, 1, 0) :: (11, .ifCond .ne 9, 3, 20, 0, 0) :: px_c89_14
def px_c90_21 : List px_I := (21, .aload_n 0, 1, 0, 0, 0) :: (22, .getfield 28, 3, 7, 4, 0) :: (25, .iload_n 1, 1, 1, 0, 0) :: (26, .aaload, 1, 0, 0, 0) :: (27, .iload_n 2, 1, 2, 0, 0) :: (28, .invokevirtual 115, 3, 39, 2, 0) :: (31, .lreturn, 1, 0, 0, 0) :: []
def px_c90_19 : List px_I := (19, .lconst 0, 1, 0, 0, 0) :: (20, .lreturn, 1, 0, 0, 0) :: px_c90_21
def px_c90_0 : List px_I := (0, .iload_n 1, 1, 1, 0, 0) :: (1, .invokestatic 69, 3, 138, 1, 0) :: (4, .ifCond .eq 15, 3, 19, 0, 0) :: (7, .aload_n 0, 1, 0, 0, 0) :: (8, .getfield 28, 3, 7, 4, 0) :: (11, .iload_n 1, 1, 1, 0, 0) :: (12, .aaload, 1, 0, 0, 0) :: (13, .invokevirtual 95, 3, 32, 1, 0) :: (16, .ifCond .ne 5, 3, 21, 0, 0) :: px_c90_19
def px_c91_55 : List px_I := (55, .aload_n 0, 1, 0, 0, 0) :: (56, .getfield 28, 3, 7, 4, 0) :: (59, .iload_n 1, 1, 1, 0, 0) :: (60, .aaload, 1, 0, 0, 0) :: (61, .iload_n 2, 1, 2, 0, 0) :: (62, .iload_n 3, 1, 3, 0, 0) :: (63, .aload_n 0, 1, 0, 0, 0) :: (64, .getfield 10, 3, 7, 0, 0) :: (67, .invokevirtual 125, 3, 55, 1, 0) :: (70, .invokevirtual 129, 3, 36, 4, 0) :: (73, .iconst 1, 1, 0, 0, 1) :: (74, .ireturn, 1, 0, 0, 0) :: []
def px_c91_40 : List px_I := (40, .iload_n 2, 1, 2, 0, 0) :: (41, .iload_n 3, 1, 3, 0, 0) :: (42, .invokestatic 122, 3, 146, 2, 0) :: (45, .ifCond .ne 10, 3, 55, 0, 0) :: (48, .aload_n 0, 1, 0, 0, 0) :: (49, .bipush (-6), 2, 0, 0, (-6)) :: (51, .invokevirtual 73, 3, 130, 2, 0) :: (54, .ireturn, 1, 0, 0, 0) :: px_c91_55
def px_c91_24 : List px_I := (24, .iload_n 2, 1, 2, 0, 0) :: (25, .iconst (-1), 1, 0, 0, (-1)) :: (26, .if_icmp .ne 14, 3, 40, 0, 0) :: (29, .aload_n 0, 1, 0, 0, 0) :: (30, .getfield 28, 3, 7, 4, 0) :: (33, .iload_n 1, 1, 1, 0, 0) :: (34, .aaload, 1, 0, 0, 0) :: (35, .invokevirtual 119, 3, 34, 1, 0) :: (38, .iconst 0, 1, 0, 0, 0) :: (39, .ireturn, 1, 0, 0, 0) :: px_c91_40
def px_c91_18 : List px_I := (18, .aload_n 0, 1, 0, 0, 0) :: (19, .iconst (-1), 1, 0, 0, (-1)) :: (20, .invokevirtual 73, 3, 130, 2, 0) :: (23, .ireturn, 1, 0, 0, 0) :: px_c91_24
def px_c91_0 : List px_I := (0, .iload_n 1, 1, 1, 0, 0) :: (1, .invokestatic 69, 3, 138, 1, 0) :: (4, .ifCond .eq 14, 3, 18, 0, 0) :: (7, .iload_n 2, 1, 2, 0, 0) :: (8, .iconst (-1), 1, 0, 0, (-1)) :: (9, .if_icmp .lt 9, 3, 18, 0, 0) :: (12, .iload_n 2, 1, 2, 0, 0) :: (13, .bipush 6, 2, 0, 0, 6) :: (15, .if_icmp .le 9, 3, 24, 0, 0) :: px_c91_18
def px_c92_20 : List px_I := (20, .ireturn, 1, 0, 0, 0) :: []
def px_c92_19 : List px_I := (19, .iconst (-1), 1, 0, 0, (-1)) :: px_c92_20
def px_c92_0 : List px_I := (0, .iload_n 1, 1, 1, 0, 0) :: (1, .invokestatic 69, 3, 138, 1, 0) :: (4, .ifCond .eq 15, 3, 19, 0, 0) :: (7, .aload_n 0, 1, 0, 0, 0) :: (8, .getfield 28, 3, 7, 4, 0) :: (11, .iload_n 1, 1, 1, 0, 0) :: (12, .aaload, 1, 0, 0, 0) :: (13, .getfield 98, 3, 3, 1, 0) :: (16, .goto 4, 3, 20, 0, 0) :: px_c92_19
def px_c93_121 : List px_I := (121, .aload 4, 2, 4, 0, 0) :: (123, .getfield 151, 3, 3, 3, 0) :: (126, .ireturn, 1, 0, 0, 0) :: []
def px_c93_115 : List px_I := (115, .aload 4, 2, 4, 0, 0) :: (117, .getfield 148, 3, 3, 4, 0) :: (120, .ireturn, 1, 0, 0, 0) :: px_c93_121
def px_c93_105 : List px_I := (105, .aload_n 0, 1, 0, 0, 0) :: (106, .getfield 10, 3, 7, 0, 0) :: (109, .aload 4, 2, 4, 0, 0) :: (111, .invokevirtual 139, 3, 57, 2, 0) :: (114, .ireturn, 1, 0, 0, 0) :: px_c93_115
def px_c93_92 : List px_I := (92, .aload_n 0, 1, 0, 0, 0) :: (93, .getfield 10, 3, 7, 0, 0) :: (96, .aload 4, 2, 4, 0, 0) :: (98, .invokevirtual 139, 3, 57, 2, 0) :: (101, .invokestatic 143, 3, 247, 1, 0) :: (104, .ireturn, 1, 0, 0, 0) :: px_c93_105
def px_c93_56 : List px_I := (56, .iload_n 2, 1, 2, 0, 0) :: (57, .lookupswitch 64 #[(0, 35), (2, 48), (5, 58)], 35, 0, 0, 0) :: px_c93_92
def px_c93_32 : List px_I := (32, .aload_n 0, 1, 0, 0, 0) :: (33, .getfield 28, 3, 7, 4, 0) :: (36, .iload_n 1, 1, 1, 0, 0) :: (37, .aaload, 1, 0, 0, 0) :: (38, .astore 4, 2, 4, 0, 0) :: (40, .aload 4, 2, 4, 0, 0) :: (42, .iload_n 2, 1, 2, 0, 0) :: (43, .invokevirtual 136, 3, 43, 2, 0) :: (46, .ifCond .ne 10, 3, 56, 0, 0) :: (49, .aload_n 0, 1, 0, 0, 0) :: (50, .bipush (-2), 2, 0, 0, (-2)) :: (52, .invokevirtual 73, 3, 130, 2, 0) :: (55, .ireturn, 1, 0, 0, 0) :: px_c93_56
def px_c93_16 : List px_I := (16, .aload_n 0, 1, 0, 0, 0) :: (17, .iload_n 1, 1, 1, 0, 0) :: (18, .invokevirtual 133, 3, 133, 2, 0) :: (21, .istore_n 3, 1, 3, 0, 0) :: (22, .iload_n 3, 1, 3, 0, 0) :: (23, .ifCond .eq 9, 3, 32, 0, 0) :: (26, .aload_n 0, 1, 0, 0, 0) :: (27, .iload_n 3, 1, 3, 0, 0) :: (28, .invokevirtual 73, 3, 130, 2, 0) :: (31, .ireturn, 1, 0, 0, 0) :: px_c93_32
def px_c93_10 : List px_I := (10, .aload_n 0, 1, 0, 0, 0) :: (11, .iconst (-1), 1, 0, 0, (-1)) :: (12, .invokevirtual 73, 3, 130, 2, 0) :: (15, .ireturn, 1, 0, 0, 0) :: px_c93_16
def px_c93_0 : List px_I := (0, .iload_n 2, 1, 2, 0, 0) :: (1, .ifCond .lt 9, 3, 10, 0, 0) :: (4, .iload_n 2, 1, 2, 0, 0) :: (5, .bipush 6, 2, 0, 0, 6) :: (7, .if_icmp .le 9, 3, 16, 0, 0) :: px_c93_10
def px_c94_71 : List px_I := (71, .aload_n 0, 1, 0, 0, 0) :: (72, .getfield 10, 3, 7, 0, 0) :: (75, .getfield 158, 3, 4, 1, 0) :: (78, .iload_n 1, 1, 1, 0, 0) :: (79, .iload_n 2, 1, 2, 0, 0) :: (80, .iload_n 3, 1, 3, 0, 0) :: (81, .iload 4, 2, 4, 0, 0) :: (83, .invokevirtual 167, 3, 84, 5, 0) :: (86, .ireturn, 1, 0, 0, 0) :: []
def px_c94_51 : List px_I := (51, .aload_n 0, 1, 0, 0, 0) :: (52, .getfield 10, 3, 7, 0, 0) :: (55, .getfield 158, 3, 4, 1, 0) :: (58, .invokevirtual 162, 3, 80, 1, 0) :: (61, .ifCond .eq 10, 3, 71, 0, 0) :: (64, .aload_n 0, 1, 0, 0, 0) :: (65, .bipush (-7), 2, 0, 0, (-7)) :: (67, .invokevirtual 73, 3, 130, 2, 0) :: (70, .ireturn, 1, 0, 0, 0) :: px_c94_71
def px_c94_44 : List px_I := (44, .aload_n 0, 1, 0, 0, 0) :: (45, .bipush (-6), 2, 0, 0, (-6)) :: (47, .invokevirtual 73, 3, 130, 2, 0) :: (50, .ireturn, 1, 0, 0, 0) :: px_c94_51
def px_c94_25 : List px_I := (25, .iconst 4, 1, 0, 0, 4) :: (26, .iconst 2, 1, 0, 0, 2) :: (27, .iload_n 3, 1, 3, 0, 0) :: (28, .invokestatic 154, 3, 145, 3, 0) :: (31, .ifCond .eq 13, 3, 44, 0, 0) :: (34, .iconst 4, 1, 0, 0, 4) :: (35, .iconst 3, 1, 0, 0, 3) :: (36, .iload 4, 2, 4, 0, 0) :: (38, .invokestatic 154, 3, 145, 3, 0) :: (41, .ifCond .ne 10, 3, 51, 0, 0) :: px_c94_44
def px_c94_18 : List px_I := (18, .aload_n 0, 1, 0, 0, 0) :: (19, .bipush (-6), 2, 0, 0, (-6)) :: (21, .invokevirtual 73, 3, 130, 2, 0) :: (24, .ireturn, 1, 0, 0, 0) :: px_c94_25
def px_c94_0 : List px_I := (0, .iconst 4, 1, 0, 0, 4) :: (1, .iconst 0, 1, 0, 0, 0) :: (2, .iload_n 1, 1, 1, 0, 0) :: (3, .invokestatic 154, 3, 145, 3, 0) :: (6, .ifCond .eq 12, 3, 18, 0, 0) :: (9, .iconst 4, 1, 0, 0, 4) :: (10, .iconst 1, 1, 0, 0, 1) :: (11, .iload_n 2, 1, 2, 0, 0) :: (12, .invokestatic 154, 3, 145, 3, 0) :: (15, .ifCond .ne 10, 3, 25, 0, 0) :: px_c94_18
def px_c95_49 : List px_I := (49, .aload_n 0, 1, 0, 0, 0) :: (50, .getfield 10, 3, 7, 0, 0) :: (53, .getfield 174, 3, 4, 2, 0) :: (56, .iload_n 1, 1, 1, 0, 0) :: (57, .iload_n 2, 1, 2, 0, 0) :: (58, .iconst (-1), 1, 0, 0, (-1)) :: (59, .iconst 0, 1, 0, 0, 0) :: (60, .invokevirtual 167, 3, 84, 5, 0) :: (63, .ireturn, 1, 0, 0, 0) :: []
def px_c95_29 : List px_I := (29, .aload_n 0, 1, 0, 0, 0) :: (30, .getfield 10, 3, 7, 0, 0) :: (33, .getfield 174, 3, 4, 2, 0) :: (36, .invokevirtual 162, 3, 80, 1, 0) :: (39, .ifCond .eq 10, 3, 49, 0, 0) :: (42, .aload_n 0, 1, 0, 0, 0) :: (43, .bipush (-7), 2, 0, 0, (-7)) :: (45, .invokevirtual 73, 3, 130, 2, 0) :: (48, .ireturn, 1, 0, 0, 0) :: px_c95_49
def px_c95_13 : List px_I := (13, .iconst 5, 1, 0, 0, 5) :: (14, .iconst 1, 1, 0, 0, 1) :: (15, .iload_n 2, 1, 2, 0, 0) :: (16, .invokestatic 154, 3, 145, 3, 0) :: (19, .ifCond .ne 10, 3, 29, 0, 0) :: (22, .aload_n 0, 1, 0, 0, 0) :: (23, .bipush (-6), 2, 0, 0, (-6)) :: (25, .invokevirtual 73, 3, 130, 2, 0) :: (28, .ireturn, 1, 0, 0, 0) :: px_c95_29
def px_c95_0 : List px_I := (0, .iload_n 1, 1, 1, 0, 0) :: (1, .invokestatic 171, 3, 139, 1, 0) :: (4, .ifCond .ne 9, 3, 13, 0, 0) :: (7, .aload_n 0, 1, 0, 0, 0) :: (8, .iconst (-1), 1, 0, 0, (-1)) :: (9, .invokevirtual 73, 3, 130, 2, 0) :: (12, .ireturn, 1, 0, 0, 0) :: px_c95_13
def px_c96_73 : List px_I := (73, .aload_n 3, 1, 3, 0, 0) :: (74, .iload_n 2, 1, 2, 0, 0) :: (75, .iconst 0, 1, 0, 0, 0) :: (76, .iconst 0, 1, 0, 0, 0) :: (77, .iconst 0, 1, 0, 0, 0) :: (78, .invokevirtual 167, 3, 84, 5, 0) :: (81, .iconst 1, 1, 0, 0, 1) :: (82, .iadd, 1, 0, 0, 0) :: (83, .ireturn, 1, 0, 0, 0) :: []
def px_c96_58 : List px_I := (58, .astore_n 3, 1, 3, 0, 0) :: (59, .aload_n 3, 1, 3, 0, 0) :: (60, .invokevirtual 162, 3, 80, 1, 0) :: (63, .ifCond .eq 10, 3, 73, 0, 0) :: (66, .aload_n 0, 1, 0, 0, 0) :: (67, .bipush (-7), 2, 0, 0, (-7)) :: (69, .invokevirtual 73, 3, 130, 2, 0) :: (72, .ireturn, 1, 0, 0, 0) :: px_c96_73
def px_c96_51 : List px_I := (51, .aload_n 0, 1, 0, 0, 0) :: (52, .getfield 10, 3, 7, 0, 0) :: (55, .getfield 183, 3, 4, 7, 0) :: px_c96_58
def px_c96_36 : List px_I := (36, .iload_n 1, 1, 1, 0, 0) :: (37, .iconst 1, 1, 0, 0, 1) :: (38, .if_icmp .ne 13, 3, 51, 0, 0) :: (41, .aload_n 0, 1, 0, 0, 0) :: (42, .getfield 10, 3, 7, 0, 0) :: (45, .getfield 180, 3, 4, 4, 0) :: (48, .goto 10, 3, 58, 0, 0) :: px_c96_51
def px_c96_22 : List px_I := (22, .iload_n 1, 1, 1, 0, 0) :: (23, .ifCond .ne 13, 3, 36, 0, 0) :: (26, .aload_n 0, 1, 0, 0, 0) :: (27, .getfield 10, 3, 7, 0, 0) :: (30, .getfield 177, 3, 4, 3, 0) :: (33, .goto 25, 3, 58, 0, 0) :: px_c96_36
def px_c96_16 : List px_I := (16, .aload_n 0, 1, 0, 0, 0) :: (17, .iconst (-1), 1, 0, 0, (-1)) :: (18, .invokevirtual 73, 3, 130, 2, 0) :: (21, .ireturn, 1, 0, 0, 0) :: px_c96_22
def px_c96_0 : List px_I := (0, .iload_n 1, 1, 1, 0, 0) :: (1, .ifCond .lt 15, 3, 16, 0, 0) :: (4, .iload_n 1, 1, 1, 0, 0) :: (5, .iconst 2, 1, 0, 0, 2) :: (6, .if_icmp .gt 10, 3, 16, 0, 0) :: (9, .iload_n 2, 1, 2, 0, 0) :: (10, .invokestatic 171, 3, 139, 1, 0) :: (13, .ifCond .ne 9, 3, 22, 0, 0) :: px_c96_16
def px_c97_50 : List px_I := (50, .aload_n 0, 1, 0, 0, 0) :: (51, .getfield 10, 3, 7, 0, 0) :: (54, .getfield 186, 3, 4, 5, 0) :: (57, .iload_n 1, 1, 1, 0, 0) :: (58, .iload_n 2, 1, 2, 0, 0) :: (59, .iconst 0, 1, 0, 0, 0) :: (60, .iconst 0, 1, 0, 0, 0) :: (61, .invokevirtual 167, 3, 84, 5, 0) :: (64, .iconst 1, 1, 0, 0, 1) :: (65, .iadd, 1, 0, 0, 0) :: (66, .ireturn, 1, 0, 0, 0) :: []
def px_c97_30 : List px_I := (30, .aload_n 0, 1, 0, 0, 0) :: (31, .getfield 10, 3, 7, 0, 0) :: (34, .getfield 186, 3, 4, 5, 0) :: (37, .invokevirtual 162, 3, 80, 1, 0) :: (40, .ifCond .eq 10, 3, 50, 0, 0) :: (43, .aload_n 0, 1, 0, 0, 0) :: (44, .bipush (-7), 2, 0, 0, (-7)) :: (46, .invokevirtual 73, 3, 130, 2, 0) :: (49, .ireturn, 1, 0, 0, 0) :: px_c97_50
def px_c97_13 : List px_I := (13, .bipush 8, 2, 0, 0, 8) :: (15, .iconst 1, 1, 0, 0, 1) :: (16, .iload_n 2, 1, 2, 0, 0) :: (17, .invokestatic 154, 3, 145, 3, 0) :: (20, .ifCond .ne 10, 3, 30, 0, 0) :: (23, .aload_n 0, 1, 0, 0, 0) :: (24, .bipush (-6), 2, 0, 0, (-6)) :: (26, .invokevirtual 73, 3, 130, 2, 0) :: (29, .ireturn, 1, 0, 0, 0) :: px_c97_30
def px_c97_0 : List px_I := (0, .iload_n 1, 1, 1, 0, 0) :: (1, .invokestatic 171, 3, 139, 1, 0) :: (4, .ifCond .ne 9, 3, 13, 0, 0) :: (7, .aload_n 0, 1, 0, 0, 0) :: (8, .iconst (-1), 1, 0, 0, (-1)) :: (9, .invokevirtual 73, 3, 130, 2, 0) :: (12, .ireturn, 1, 0, 0, 0) :: px_c97_13
def px_c98_60 : List px_I := (60, .aload_n 0, 1, 0, 0, 0) :: (61, .getfield 10, 3, 7, 0, 0) :: (64, .getfield 189, 3, 4, 6, 0) :: (67, .iload_n 1, 1, 1, 0, 0) :: (68, .iload_n 2, 1, 2, 0, 0) :: (69, .iload_n 3, 1, 3, 0, 0) :: (70, .iconst 0, 1, 0, 0, 0) :: (71, .invokevirtual 167, 3, 84, 5, 0) :: (74, .ireturn, 1, 0, 0, 0) :: []
def px_c98_40 : List px_I := (40, .aload_n 0, 1, 0, 0, 0) :: (41, .getfield 10, 3, 7, 0, 0) :: (44, .getfield 189, 3, 4, 6, 0) :: (47, .invokevirtual 162, 3, 80, 1, 0) :: (50, .ifCond .eq 10, 3, 60, 0, 0) :: (53, .aload_n 0, 1, 0, 0, 0) :: (54, .bipush (-7), 2, 0, 0, (-7)) :: (56, .invokevirtual 73, 3, 130, 2, 0) :: (59, .ireturn, 1, 0, 0, 0) :: px_c98_60
def px_c98_33 : List px_I := (33, .aload_n 0, 1, 0, 0, 0) :: (34, .bipush (-6), 2, 0, 0, (-6)) :: (36, .invokevirtual 73, 3, 130, 2, 0) :: (39, .ireturn, 1, 0, 0, 0) :: px_c98_40
def px_c98_13 : List px_I := (13, .bipush 9, 2, 0, 0, 9) :: (15, .iconst 1, 1, 0, 0, 1) :: (16, .iload_n 2, 1, 2, 0, 0) :: (17, .invokestatic 154, 3, 145, 3, 0) :: (20, .ifCond .eq 13, 3, 33, 0, 0) :: (23, .bipush 9, 2, 0, 0, 9) :: (25, .iconst 2, 1, 0, 0, 2) :: (26, .iload_n 3, 1, 3, 0, 0) :: (27, .invokestatic 154, 3, 145, 3, 0) :: (30, .ifCond .ne 10, 3, 40, 0, 0) :: px_c98_33
def px_c98_0 : List px_I := (0, .iload_n 1, 1, 1, 0, 0) :: (1, .invokestatic 171, 3, 139, 1, 0) :: (4, .ifCond .ne 9, 3, 13, 0, 0) :: (7, .aload_n 0, 1, 0, 0, 0) :: (8, .iconst (-1), 1, 0, 0, (-1)) :: (9, .invokevirtual 73, 3, 130, 2, 0) :: (12, .ireturn, 1, 0, 0, 0) :: px_c98_13
def px_c99_25 : List px_I := (25, .aload_n 0, 1, 0, 0, 0) :: (26, .getfield 10, 3, 7, 0, 0) :: (29, .getfield 192, 3, 4, 0, 0) :: (32, .iload_n 1, 1, 1, 0, 0) :: (33, .iaload, 1, 0, 0, 0) :: (34, .istore_n 3, 1, 3, 0, 0) :: (35, .aload_n 0, 1, 0, 0, 0) :: (36, .getfield 10, 3, 7, 0, 0) :: (39, .getfield 192, 3, 4, 0, 0) :: (42, .iload_n 1, 1, 1, 0, 0) :: (43, .iload_n 2, 1, 2, 0, 0) :: (44, .iastore, 1, 0, 0, 0) :: (45, .iload_n 3, 1, 3, 0, 0) :: (46, .ireturn, 1, 0, 0, 0) :: []
def px_c99_18 : List px_I := (18, .aload_n 0, 1, 0, 0, 0) :: (19, .bipush (-6), 2, 0, 0, (-6)) :: (21, .invokevirtual 73, 3, 130, 2, 0) :: (24, .ireturn, 1, 0, 0, 0) :: px_c99_25
def px_c99_0 : List px_I := (0, .iload_n 1, 1, 1, 0, 0) :: (1, .ifCond .lt 17, 3, 18, 0, 0) :: (4, .iload_n 1, 1, 1, 0, 0) :: (5, .iconst 3, 1, 0, 0, 3) :: (6, .if_icmp .gt 12, 3, 18, 0, 0) :: (9, .iload_n 1, 1, 1, 0, 0) :: (10, .iconst 0, 1, 0, 0, 0) :: (11, .iload_n 2, 1, 2, 0, 0) :: (12, .invokestatic 154, 3, 145, 3, 0) :: (15, .ifCond .ne 10, 3, 25, 0, 0) :: px_c99_18
def px_c100_63 : List px_I := (63, .aload_n 0, 1, 0, 0, 0) :: (64, .getfield 10, 3, 7, 0, 0) :: (67, .aload_n 0, 1, 0, 0, 0) :: (68, .getfield 16, 3, 7, 1, 0) :: (71, .invokevirtual 195, 3, 46, 2, 0) :: (74, .aload_n 0, 1, 0, 0, 0) :: (75, .getfield 35, 3, 7, 5, 0) :: (78, .getfield 203, 3, 5, 2, 0) :: (81, .ireturn, 1, 0, 0, 0) :: []
def px_c100_16 : List px_I := (16, .aload_n 0, 1, 0, 0, 0) :: (17, .getfield 16, 3, 7, 1, 0) :: (20, .aload_n 0, 1, 0, 0, 0) :: (21, .getfield 10, 3, 7, 0, 0) :: (24, .invokevirtual 195, 3, 46, 2, 0) :: (27, .aload_n 0, 1, 0, 0, 0) :: (28, .aload_n 0, 1, 0, 0, 0) :: (29, .getfield 35, 3, 7, 5, 0) :: (32, .aload_n 0, 1, 0, 0, 0) :: (33, .getfield 28, 3, 7, 4, 0) :: (36, .iload_n 1, 1, 1, 0, 0) :: (37, .aaload, 1, 0, 0, 0) :: (38, .aload_n 0, 1, 0, 0, 0) :: (39, .getfield 16, 3, 7, 1, 0) :: (42, .invokevirtual 199, 3, 73, 3, 0) :: (45, .putfield 64, 3, 7, 10, 0) :: (48, .aload_n 0, 1, 0, 0, 0) :: (49, .getfield 64, 3, 7, 10, 0) :: (52, .iconst (-1), 1, 0, 0, (-1)) :: (53, .if_icmp .eq 10, 3, 63, 0, 0) :: (56, .aload_n 0, 1, 0, 0, 0) :: (57, .bipush (-6), 2, 0, 0, (-6)) :: (59, .invokevirtual 73, 3, 130, 2, 0) :: (62, .ireturn, 1, 0, 0, 0) :: px_c100_63
def px_c100_0 : List px_I := (0, .aload_n 0, 1, 0, 0, 0) :: (1, .iload_n 1, 1, 1, 0, 0) :: (2, .invokevirtual 81, 3, 132, 2, 0) :: (5, .istore_n 2, 1, 2, 0, 0) :: (6, .iload_n 2, 1, 2, 0, 0) :: (7, .ifCond .eq 9, 3, 16, 0, 0) :: (10, .aload_n 0, 1, 0, 0, 0) :: (11, .iload_n 2, 1, 2, 0, 0) :: (12, .invokevirtual 73, 3, 130, 2, 0) :: (15, .ireturn, 1, 0, 0, 0) :: px_c100_16
def px_c101_0 : List px_I := (0, .aload_n 0, 1, 0, 0, 0) :: (1, .getfield 64, 3, 7, 10, 0) :: (4, .ireturn, 1, 0, 0, 0) :: []
def px_c102_30 : List px_I := (30, .aload_n 0, 1, 0, 0, 0) :: (31, .getfield 10, 3, 7, 0, 0) :: (34, .getfield 158, 3, 4, 1, 0) :: (37, .iload_n 1, 1, 1, 0, 0) :: (38, .iload_n 2, 1, 2, 0, 0) :: (39, .invokevirtual 207, 3, 82, 3, 0) :: (42, .ireturn, 1, 0, 0, 0) :: []
def px_c102_23 : List px_I := (23, .aload_n 0, 1, 0, 0, 0) :: (24, .bipush (-5), 2, 0, 0, (-5)) :: (26, .invokevirtual 73, 3, 130, 2, 0) :: (29, .ireturn, 1, 0, 0, 0) :: px_c102_30
def px_c102_0 : List px_I := (0, .aload_n 0, 1, 0, 0, 0) :: (1, .getfield 10, 3, 7, 0, 0) :: (4, .getfield 158, 3, 4, 1, 0) :: (7, .iload_n 1, 1, 1, 0, 0) :: (8, .invokevirtual 206, 3, 81, 2, 0) :: (11, .ifCond .eq 12, 3, 23, 0, 0) :: (14, .iload_n 2, 1, 2, 0, 0) :: (15, .ifCond .lt 8, 3, 23, 0, 0) :: (18, .iload_n 2, 1, 2, 0, 0) :: (19, .iconst 3, 1, 0, 0, 3) :: (20, .if_icmp .le 10, 3, 30, 0, 0) :: px_c102_23
def px_c103_30 : List px_I := (30, .aload_n 0, 1, 0, 0, 0) :: (31, .getfield 10, 3, 7, 0, 0) :: (34, .getfield 174, 3, 4, 2, 0) :: (37, .iload_n 1, 1, 1, 0, 0) :: (38, .iload_n 2, 1, 2, 0, 0) :: (39, .invokevirtual 207, 3, 82, 3, 0) :: (42, .ireturn, 1, 0, 0, 0) :: []
def px_c103_23 : List px_I := (23, .aload_n 0, 1, 0, 0, 0) :: (24, .bipush (-5), 2, 0, 0, (-5)) :: (26, .invokevirtual 73, 3, 130, 2, 0) :: (29, .ireturn, 1, 0, 0, 0) :: px_c103_30
def px_c103_0 : List px_I := (0, .aload_n 0, 1, 0, 0, 0) :: (1, .getfield 10, 3, 7, 0, 0) :: (4, .getfield 174, 3, 4, 2, 0) :: (7, .iload_n 1, 1, 1, 0, 0) :: (8, .invokevirtual 206, 3, 81, 2, 0) :: (11, .ifCond .eq 12, 3, 23, 0, 0) :: (14, .iload_n 2, 1, 2, 0, 0) :: (15, .ifCond .lt 8, 3, 23, 0, 0) :: (18, .iload_n 2, 1, 2, 0, 0) :: (19, .iconst 3, 1, 0, 0, 3) :: (20, .if_icmp .le 10, 3, 30, 0, 0) :: px_c103_23
def px_c104_49 : List px_I := (49, .aload_n 0, 1, 0, 0, 0) :: (50, .getfield 10, 3, 7, 0, 0) :: (53, .getfield 174, 3, 4, 2, 0) :: (56, .iload_n 1, 1, 1, 0, 0) :: (57, .iconst 2, 1, 0, 0, 2) :: (58, .invokevirtual 207, 3, 82, 3, 0) :: (61, .istore 4, 2, 4, 0, 0) :: (63, .aload_n 0, 1, 0, 0, 0) :: (64, .getfield 10, 3, 7, 0, 0) :: (67, .iload_n 1, 1, 1, 0, 0) :: (68, .iload_n 2, 1, 2, 0, 0) :: (69, .invokevirtual 214, 3, 54, 3, 0) :: (72, .iload 4, 2, 4, 0, 0) :: (74, .ireturn, 1, 0, 0, 0) :: []
def px_c104_38 : List px_I := (38, .istore_n 3, 1, 3, 0, 0) :: (39, .iload_n 3, 1, 3, 0, 0) :: (40, .ifCond .ne 9, 3, 49, 0, 0) :: (43, .aload_n 0, 1, 0, 0, 0) :: (44, .iconst (-1), 1, 0, 0, (-1)) :: (45, .invokevirtual 211, 3, 131, 2, 0) :: (48, .ireturn, 1, 0, 0, 0) :: px_c104_49
def px_c104_37 : List px_I := (37, .iconst 0, 1, 0, 0, 0) :: px_c104_38
def px_c104_33 : List px_I := (33, .iconst 1, 1, 0, 0, 1) :: (34, .goto 4, 3, 38, 0, 0) :: px_c104_37
def px_c104_0 : List px_I := (0, .aload_n 0, 1, 0, 0, 0) :: (1, .getfield 10, 3, 7, 0, 0) :: (4, .getfield 174, 3, 4, 2, 0) :: (7, .iload_n 1, 1, 1, 0, 0) :: (8, .invokevirtual 206, 3, 81, 2, 0) :: (11, .ifCond .eq 26, 3, 37, 0, 0) :: (14, .iload_n 2, 1, 2, 0, 0) :: (15, .iconst (-1), 1, 0, 0, (-1)) :: (16, .if_icmp .eq 17, 3, 33, 0, 0) :: (19, .aload_n 0, 1, 0, 0, 0) :: (20, .getfield 10, 3, 7, 0, 0) :: (23, .getfield 158, 3, 4, 1, 0) :: (26, .iload_n 2, 1, 2, 0, 0) :: (27, .invokevirtual 206, 3, 81, 2, 0) :: (30, .ifCond .eq 7, 3, 37, 0, 0) :: px_c104_33
def px_c105_78 : List px_I := (78, .ireturn, 1, 0, 0, 0) :: []
def px_c105_77 : List px_I := (77, .iconst 1, 1, 0, 0, 1) :: px_c105_78
def px_c105_65 : List px_I := (65, .invokevirtual 223, 3, 83, 4, 0) :: (68, .iload_n 3, 1, 3, 0, 0) :: (69, .iload_n 2, 1, 2, 0, 0) :: (70, .if_icmp .ne 7, 3, 77, 0, 0) :: (73, .iconst 0, 1, 0, 0, 0) :: (74, .goto 4, 3, 78, 0, 0) :: px_c105_77
def px_c105_64 : List px_I := (64, .iconst 0, 1, 0, 0, 0) :: px_c105_65
def px_c105_38 : List px_I := (38, .aload_n 0, 1, 0, 0, 0) :: (39, .getfield 10, 3, 7, 0, 0) :: (42, .iload_n 1, 1, 1, 0, 0) :: (43, .invokevirtual 220, 3, 53, 2, 0) :: (46, .istore_n 3, 1, 3, 0, 0) :: (47, .aload_n 0, 1, 0, 0, 0) :: (48, .getfield 10, 3, 7, 0, 0) :: (51, .getfield 174, 3, 4, 2, 0) :: (54, .iload_n 1, 1, 1, 0, 0) :: (55, .iconst 3, 1, 0, 0, 3) :: (56, .iload_n 2, 1, 2, 0, 0) :: (57, .ifCond .eq 7, 3, 64, 0, 0) :: (60, .iconst 1, 1, 0, 0, 1) :: (61, .goto 4, 3, 65, 0, 0) :: px_c105_64
def px_c105_20 : List px_I := (20, .aload_n 0, 1, 0, 0, 0) :: (21, .getfield 10, 3, 7, 0, 0) :: (24, .iload_n 1, 1, 1, 0, 0) :: (25, .invokevirtual 217, 3, 52, 2, 0) :: (28, .ifCond .ne 10, 3, 38, 0, 0) :: (31, .aload_n 0, 1, 0, 0, 0) :: (32, .bipush (-6), 2, 0, 0, (-6)) :: (34, .invokevirtual 73, 3, 130, 2, 0) :: (37, .ireturn, 1, 0, 0, 0) :: px_c105_38
def px_c105_0 : List px_I := (0, .aload_n 0, 1, 0, 0, 0) :: (1, .getfield 10, 3, 7, 0, 0) :: (4, .getfield 174, 3, 4, 2, 0) :: (7, .iload_n 1, 1, 1, 0, 0) :: (8, .invokevirtual 206, 3, 81, 2, 0) :: (11, .ifCond .ne 9, 3, 20, 0, 0) :: (14, .aload_n 0, 1, 0, 0, 0) :: (15, .iconst (-1), 1, 0, 0, (-1)) :: (16, .invokevirtual 73, 3, 130, 2, 0) :: (19, .ireturn, 1, 0, 0, 0) :: px_c105_20
def px_c106_43 : List px_I := (43, .aload_n 0, 1, 0, 0, 0) :: (44, .aload_n 0, 1, 0, 0, 0) :: (45, .getfield 28, 3, 7, 4, 0) :: (48, .iload_n 1, 1, 1, 0, 0) :: (49, .aaload, 1, 0, 0, 0) :: (50, .iload_n 2, 1, 2, 0, 0) :: (51, .iload_n 3, 1, 3, 0, 0) :: (52, .iload 4, 2, 4, 0, 0) :: (54, .invokevirtual 236, 3, 136, 5, 0) :: (57, .ireturn, 1, 0, 0, 0) :: []
def px_c106_26 : List px_I := (26, .invokevirtual 232, 3, 134, 4, 0) :: (29, .istore 5, 2, 5, 0, 0) :: (31, .iload 5, 2, 5, 0, 0) :: (33, .ifCond .eq 10, 3, 43, 0, 0) :: (36, .aload_n 0, 1, 0, 0, 0) :: (37, .iload 5, 2, 5, 0, 0) :: (39, .invokevirtual 73, 3, 130, 2, 0) :: (42, .ireturn, 1, 0, 0, 0) :: px_c106_43
def px_c106_25 : List px_I := (25, .iconst 0, 1, 0, 0, 0) :: px_c106_26
def px_c106_0 : List px_I := (0, .aload_n 0, 1, 0, 0, 0) :: (1, .iload_n 1, 1, 1, 0, 0) :: (2, .iload_n 2, 1, 2, 0, 0) :: (3, .invokestatic 171, 3, 139, 1, 0) :: (6, .iload_n 3, 1, 3, 0, 0) :: (7, .invokestatic 226, 3, 140, 1, 0) :: (10, .ifCond .eq 15, 3, 25, 0, 0) :: (13, .iload 4, 2, 4, 0, 0) :: (15, .invokestatic 229, 3, 141, 1, 0) :: (18, .ifCond .eq 7, 3, 25, 0, 0) :: (21, .iconst 1, 1, 0, 0, 1) :: (22, .goto 4, 3, 26, 0, 0) :: px_c106_25
def px_c107_43 : List px_I := (43, .aload_n 0, 1, 0, 0, 0) :: (44, .getfield 28, 3, 7, 4, 0) :: (47, .iload_n 1, 1, 1, 0, 0) :: (48, .aaload, 1, 0, 0, 0) :: (49, .astore 6, 2, 6, 0, 0) :: (51, .aload_n 0, 1, 0, 0, 0) :: (52, .getfield 10, 3, 7, 0, 0) :: (55, .aload_n 0, 1, 0, 0, 0) :: (56, .getfield 10, 3, 7, 0, 0) :: (59, .aload 6, 2, 6, 0, 0) :: (61, .invokevirtual 139, 3, 57, 2, 0) :: (64, .aload 6, 2, 6, 0, 0) :: (66, .iload 4, 2, 4, 0, 0) :: (68, .invokevirtual 240, 3, 44, 2, 0) :: (71, .iload_n 2, 1, 2, 0, 0) :: (72, .iload_n 3, 1, 3, 0, 0) :: (73, .invokevirtual 243, 3, 65, 5, 0) :: (76, .ireturn, 1, 0, 0, 0) :: []
def px_c107_26 : List px_I := (26, .invokevirtual 232, 3, 134, 4, 0) :: (29, .istore 5, 2, 5, 0, 0) :: (31, .iload 5, 2, 5, 0, 0) :: (33, .ifCond .eq 10, 3, 43, 0, 0) :: (36, .aload_n 0, 1, 0, 0, 0) :: (37, .iload 5, 2, 5, 0, 0) :: (39, .invokevirtual 73, 3, 130, 2, 0) :: (42, .ireturn, 1, 0, 0, 0) :: px_c107_43
def px_c107_25 : List px_I := (25, .iconst 0, 1, 0, 0, 0) :: px_c107_26
def px_c107_0 : List px_I := (0, .aload_n 0, 1, 0, 0, 0) :: (1, .iload_n 1, 1, 1, 0, 0) :: (2, .iload_n 2, 1, 2, 0, 0) :: (3, .invokestatic 171, 3, 139, 1, 0) :: (6, .iload_n 3, 1, 3, 0, 0) :: (7, .invokestatic 226, 3, 140, 1, 0) :: (10, .ifCond .eq 15, 3, 25, 0, 0) :: (13, .iload 4, 2, 4, 0, 0) :: (15, .invokestatic 229, 3, 141, 1, 0) :: (18, .ifCond .eq 7, 3, 25, 0, 0) :: (21, .iconst 1, 1, 0, 0, 1) :: (22, .goto 4, 3, 26, 0, 0) :: px_c107_25
def px_c108_39 : List px_I := (39, .aload_n 0, 1, 0, 0, 0) :: (40, .aload_n 0, 1, 0, 0, 0) :: (41, .getfield 28, 3, 7, 4, 0) :: (44, .iload_n 1, 1, 1, 0, 0) :: (45, .aaload, 1, 0, 0, 0) :: (46, .iload_n 2, 1, 2, 0, 0) :: (47, .iload_n 3, 1, 3, 0, 0) :: (48, .invokevirtual 247, 3, 137, 4, 0) :: (51, .ireturn, 1, 0, 0, 0) :: []
def px_c108_22 : List px_I := (22, .invokevirtual 232, 3, 134, 4, 0) :: (25, .istore 4, 2, 4, 0, 0) :: (27, .iload 4, 2, 4, 0, 0) :: (29, .ifCond .eq 10, 3, 39, 0, 0) :: (32, .aload_n 0, 1, 0, 0, 0) :: (33, .iload 4, 2, 4, 0, 0) :: (35, .invokevirtual 73, 3, 130, 2, 0) :: (38, .ireturn, 1, 0, 0, 0) :: px_c108_39
def px_c108_21 : List px_I := (21, .iconst 0, 1, 0, 0, 0) :: px_c108_22
def px_c108_0 : List px_I := (0, .aload_n 0, 1, 0, 0, 0) :: (1, .iload_n 1, 1, 1, 0, 0) :: (2, .iconst 1, 1, 0, 0, 1) :: (3, .iload_n 2, 1, 2, 0, 0) :: (4, .invokestatic 226, 3, 140, 1, 0) :: (7, .ifCond .eq 14, 3, 21, 0, 0) :: (10, .iload_n 3, 1, 3, 0, 0) :: (11, .invokestatic 229, 3, 141, 1, 0) :: (14, .ifCond .eq 7, 3, 21, 0, 0) :: (17, .iconst 1, 1, 0, 0, 1) :: (18, .goto 4, 3, 22, 0, 0) :: px_c108_21
def px_c109_75 : List px_I := (75, .ireturn, 1, 0, 0, 0) :: []
def px_c109_62 : List px_I := (62, .aload_n 0, 1, 0, 0, 0) :: (63, .getfield 42, 3, 7, 6, 0) :: (66, .aload_n 0, 1, 0, 0, 0) :: (67, .getfield 10, 3, 7, 0, 0) :: (70, .iload 5, 2, 5, 0, 0) :: (72, .invokevirtual 251, 3, 24, 3, 0) :: px_c109_75
def px_c109_39 : List px_I := (39, .aload_n 0, 1, 0, 0, 0) :: (40, .aload_n 0, 1, 0, 0, 0) :: (41, .getfield 28, 3, 7, 4, 0) :: (44, .iload_n 1, 1, 1, 0, 0) :: (45, .aaload, 1, 0, 0, 0) :: (46, .iload_n 2, 1, 2, 0, 0) :: (47, .iload_n 3, 1, 3, 0, 0) :: (48, .invokevirtual 247, 3, 137, 4, 0) :: (51, .istore 5, 2, 5, 0, 0) :: (53, .iload 5, 2, 5, 0, 0) :: (55, .ifCond .ne 7, 3, 62, 0, 0) :: (58, .iconst (-1), 1, 0, 0, (-1)) :: (59, .goto 16, 3, 75, 0, 0) :: px_c109_62
def px_c109_22 : List px_I := (22, .invokevirtual 232, 3, 134, 4, 0) :: (25, .istore 4, 2, 4, 0, 0) :: (27, .iload 4, 2, 4, 0, 0) :: (29, .ifCond .eq 10, 3, 39, 0, 0) :: (32, .aload_n 0, 1, 0, 0, 0) :: (33, .iload 4, 2, 4, 0, 0) :: (35, .invokevirtual 211, 3, 131, 2, 0) :: (38, .ireturn, 1, 0, 0, 0) :: px_c109_39
def px_c109_21 : List px_I := (21, .iconst 0, 1, 0, 0, 0) :: px_c109_22
def px_c109_0 : List px_I := (0, .aload_n 0, 1, 0, 0, 0) :: (1, .iload_n 1, 1, 1, 0, 0) :: (2, .iconst 1, 1, 0, 0, 1) :: (3, .iload_n 2, 1, 2, 0, 0) :: (4, .invokestatic 226, 3, 140, 1, 0) :: (7, .ifCond .eq 14, 3, 21, 0, 0) :: (10, .iload_n 3, 1, 3, 0, 0) :: (11, .invokestatic 229, 3, 141, 1, 0) :: (14, .ifCond .eq 7, 3, 21, 0, 0) :: (17, .iconst 1, 1, 0, 0, 1) :: (18, .goto 4, 3, 22, 0, 0) :: px_c109_21
def px_c110_31 : List px_I := (31, .aload_n 0, 1, 0, 0, 0) :: (32, .getfield 10, 3, 7, 0, 0) :: (35, .iload_n 1, 1, 1, 0, 0) :: (36, .iload_n 2, 1, 2, 0, 0) :: (37, .invokevirtual 258, 3, 69, 3, 0) :: (40, .ireturn, 1, 0, 0, 0) :: []
def px_c110_25 : List px_I := (25, .aload_n 0, 1, 0, 0, 0) :: (26, .iconst (-1), 1, 0, 0, (-1)) :: (27, .invokevirtual 73, 3, 130, 2, 0) :: (30, .ireturn, 1, 0, 0, 0) :: px_c110_31
def px_c110_0 : List px_I := (0, .aload_n 0, 1, 0, 0, 0) :: (1, .getfield 10, 3, 7, 0, 0) :: (4, .getfield 158, 3, 4, 1, 0) :: (7, .iload_n 2, 1, 2, 0, 0) :: (8, .invokevirtual 206, 3, 81, 2, 0) :: (11, .ifCond .eq 14, 3, 25, 0, 0) :: (14, .aload_n 0, 1, 0, 0, 0) :: (15, .getfield 10, 3, 7, 0, 0) :: (18, .iload_n 1, 1, 1, 0, 0) :: (19, .invokevirtual 255, 3, 51, 2, 0) :: (22, .ifCond .ne 9, 3, 31, 0, 0) :: px_c110_25
def px_c111_0 : List px_I := (0, .aload_n 0, 1, 0, 0, 0) :: (1, .iload_n 1, 1, 1, 0, 0) :: (2, .iload_n 2, 1, 2, 0, 0) :: (3, .iconst 0, 1, 0, 0, 0) :: (4, .invokevirtual 261, 3, 135, 4, 0) :: (7, .ireturn, 1, 0, 0, 0) :: []
def px_c112_0 : List px_I := (0, .aload_n 0, 1, 0, 0, 0) :: (1, .iload_n 1, 1, 1, 0, 0) :: (2, .iload_n 2, 1, 2, 0, 0) :: (3, .iconst 1, 1, 0, 0, 1) :: (4, .invokevirtual 261, 3, 135, 4, 0) :: (7, .ireturn, 1, 0, 0, 0) :: []
def px_c113_0 : List px_I := (0, .aload_n 0, 1, 0, 0, 0) :: (1, .iload_n 1, 1, 1, 0, 0) :: (2, .iload_n 2, 1, 2, 0, 0) :: (3, .iconst 2, 1, 0, 0, 2) :: (4, .invokevirtual 261, 3, 135, 4, 0) :: (7, .ireturn, 1, 0, 0, 0) :: []
def px_c114_34 : List px_I := (34, .aload_n 0, 1, 0, 0, 0) :: (35, .getfield 49, 3, 7, 7, 0) :: (38, .aload_n 0, 1, 0, 0, 0) :: (39, .getfield 10, 3, 7, 0, 0) :: (42, .iload_n 1, 1, 1, 0, 0) :: (43, .iload_n 2, 1, 2, 0, 0) :: (44, .invokevirtual 265, 3, 9, 4, 0) :: (47, .aload_n 0, 1, 0, 0, 0) :: (48, .getfield 49, 3, 7, 7, 0) :: (51, .invokevirtual 269, 3, 16, 1, 0) :: (54, .ireturn, 1, 0, 0, 0) :: []
def px_c114_20 : List px_I := (20, .iload_n 2, 1, 2, 0, 0) :: (21, .invokestatic 226, 3, 140, 1, 0) :: (24, .ifCond .ne 10, 3, 34, 0, 0) :: (27, .aload_n 0, 1, 0, 0, 0) :: (28, .bipush (-6), 2, 0, 0, (-6)) :: (30, .invokevirtual 211, 3, 131, 2, 0) :: (33, .ireturn, 1, 0, 0, 0) :: px_c114_34
def px_c114_0 : List px_I := (0, .aload_n 0, 1, 0, 0, 0) :: (1, .getfield 10, 3, 7, 0, 0) :: (4, .getfield 158, 3, 4, 1, 0) :: (7, .iload_n 1, 1, 1, 0, 0) :: (8, .invokevirtual 206, 3, 81, 2, 0) :: (11, .ifCond .ne 9, 3, 20, 0, 0) :: (14, .aload_n 0, 1, 0, 0, 0) :: (15, .iconst (-1), 1, 0, 0, (-1)) :: (16, .invokevirtual 211, 3, 131, 2, 0) :: (19, .ireturn, 1, 0, 0, 0) :: px_c114_20
def px_c115_124 : List px_I := (124, .ireturn, 1, 0, 0, 0) :: []
def px_c115_123 : List px_I := (123, .iload_n 2, 1, 2, 0, 0) :: px_c115_124
def px_c115_109 : List px_I := (109, .iload_n 2, 1, 2, 0, 0) :: (110, .iconst (-1), 1, 0, 0, (-1)) :: (111, .if_icmp .ne 12, 3, 123, 0, 0) :: (114, .aload_n 0, 1, 0, 0, 0) :: (115, .bipush (-5), 2, 0, 0, (-5)) :: (117, .invokevirtual 73, 3, 130, 2, 0) :: (120, .goto 4, 3, 124, 0, 0) :: px_c115_123
def px_c115_103 : List px_I := (103, .iinc 4 1, 3, 4, 0, 1) :: (106, .goto (-85), 3, 21, 0, 0) :: px_c115_109
def px_c115_97 : List px_I := (97, .iload 4, 2, 4, 0, 0) :: (99, .istore_n 2, 1, 2, 0, 0) :: (100, .iload 6, 2, 6, 0, 0) :: (102, .istore_n 3, 1, 3, 0, 0) :: px_c115_103
def px_c115_73 : List px_I := (73, .aload_n 0, 1, 0, 0, 0) :: (74, .getfield 10, 3, 7, 0, 0) :: (77, .iload 5, 2, 5, 0, 0) :: (79, .iload 4, 2, 4, 0, 0) :: (81, .invokevirtual 258, 3, 69, 3, 0) :: (84, .istore 6, 2, 6, 0, 0) :: (86, .iload_n 2, 1, 2, 0, 0) :: (87, .iconst (-1), 1, 0, 0, (-1)) :: (88, .if_icmp .eq 9, 3, 97, 0, 0) :: (91, .iload 6, 2, 6, 0, 0) :: (93, .iload_n 3, 1, 3, 0, 0) :: (94, .if_icmp .ge 9, 3, 103, 0, 0) :: px_c115_97
def px_c115_21 : List px_I := (21, .iload 4, 2, 4, 0, 0) :: (23, .aload_n 0, 1, 0, 0, 0) :: (24, .getfield 10, 3, 7, 0, 0) :: (27, .getfield 158, 3, 4, 1, 0) :: (30, .getfield 272, 3, 6, 2, 0) :: (33, .if_icmp .ge 76, 3, 109, 0, 0) :: (36, .aload_n 0, 1, 0, 0, 0) :: (37, .getfield 49, 3, 7, 7, 0) :: (40, .aload_n 0, 1, 0, 0, 0) :: (41, .getfield 10, 3, 7, 0, 0) :: (44, .iload 4, 2, 4, 0, 0) :: (46, .iload_n 1, 1, 1, 0, 0) :: (47, .invokevirtual 265, 3, 9, 4, 0) :: (50, .aload_n 0, 1, 0, 0, 0) :: (51, .getfield 49, 3, 7, 7, 0) :: (54, .aload_n 0, 1, 0, 0, 0) :: (55, .getfield 10, 3, 7, 0, 0) :: (58, .iconst 0, 1, 0, 0, 0) :: (59, .invokevirtual 275, 3, 10, 3, 0) :: (62, .istore 5, 2, 5, 0, 0) :: (64, .iload 5, 2, 5, 0, 0) :: (66, .iconst (-1), 1, 0, 0, (-1)) :: (67, .if_icmp .ne 6, 3, 73, 0, 0) :: (70, .goto 33, 3, 103, 0, 0) :: px_c115_73
def px_c115_14 : List px_I := (14, .iconst (-1), 1, 0, 0, (-1)) :: (15, .istore_n 2, 1, 2, 0, 0) :: (16, .iconst 0, 1, 0, 0, 0) :: (17, .istore_n 3, 1, 3, 0, 0) :: (18, .iconst 0, 1, 0, 0, 0) :: (19, .istore 4, 2, 4, 0, 0) :: px_c115_21
def px_c115_0 : List px_I := (0, .iload_n 1, 1, 1, 0, 0) :: (1, .invokestatic 226, 3, 140, 1, 0) :: (4, .ifCond .ne 10, 3, 14, 0, 0) :: (7, .aload_n 0, 1, 0, 0, 0) :: (8, .bipush (-6), 2, 0, 0, (-6)) :: (10, .invokevirtual 73, 3, 130, 2, 0) :: (13, .ireturn, 1, 0, 0, 0) :: px_c115_14
def px_c116_61 : List px_I := (61, .iload_n 2, 1, 2, 0, 0) :: (62, .ireturn, 1, 0, 0, 0) :: []
def px_c116_55 : List px_I := (55, .iinc 3 1, 3, 3, 0, 1) :: (58, .goto (-34), 3, 24, 0, 0) :: px_c116_61
def px_c116_24 : List px_I := (24, .iload_n 3, 1, 3, 0, 0) :: (25, .bipush 60, 2, 0, 0, 60) :: (27, .if_icmp .ge 34, 3, 61, 0, 0) :: (30, .aload_n 0, 1, 0, 0, 0) :: (31, .getfield 10, 3, 7, 0, 0) :: (34, .iload_n 1, 1, 1, 0, 0) :: (35, .iload_n 3, 1, 3, 0, 0) :: (36, .iload_n 3, 1, 3, 0, 0) :: (37, .imul, 1, 0, 0, 0) :: (38, .invokevirtual 278, 3, 60, 3, 0) :: (41, .aload_n 0, 1, 0, 0, 0) :: (42, .getfield 10, 3, 7, 0, 0) :: (45, .getfield 192, 3, 4, 0, 0) :: (48, .iconst 0, 1, 0, 0, 0) :: (49, .iaload, 1, 0, 0, 0) :: (50, .if_icmp .lt 5, 3, 55, 0, 0) :: (53, .iload_n 3, 1, 3, 0, 0) :: (54, .istore_n 2, 1, 2, 0, 0) :: px_c116_55
def px_c116_20 : List px_I := (20, .iconst (-1), 1, 0, 0, (-1)) :: (21, .istore_n 2, 1, 2, 0, 0) :: (22, .iconst 0, 1, 0, 0, 0) :: (23, .istore_n 3, 1, 3, 0, 0) :: px_c116_24
def px_c116_0 : List px_I := (0, .aload_n 0, 1, 0, 0, 0) :: (1, .getfield 10, 3, 7, 0, 0) :: (4, .getfield 158, 3, 4, 1, 0) :: (7, .iload_n 1, 1, 1, 0, 0) :: (8, .invokevirtual 206, 3, 81, 2, 0) :: (11, .ifCond .ne 9, 3, 20, 0, 0) :: (14, .aload_n 0, 1, 0, 0, 0) :: (15, .iconst (-1), 1, 0, 0, (-1)) :: (16, .invokevirtual 211, 3, 131, 2, 0) :: (19, .ireturn, 1, 0, 0, 0) :: px_c116_20
def px_c117_74 : List px_I := (74, .iload_n 1, 1, 1, 0, 0) :: (75, .ireturn, 1, 0, 0, 0) :: []
def px_c117_68 : List px_I := (68, .iinc 3 1, 3, 3, 0, 1) :: (71, .goto (-65), 3, 6, 0, 0) :: px_c117_74
def px_c117_63 : List px_I := (63, .iload_n 3, 1, 3, 0, 0) :: (64, .istore_n 1, 1, 1, 0, 0) :: (65, .iload 4, 2, 4, 0, 0) :: (67, .istore_n 2, 1, 2, 0, 0) :: px_c117_68
def px_c117_6 : List px_I := (6, .iload_n 3, 1, 3, 0, 0) :: (7, .bipush 6, 2, 0, 0, 6) :: (9, .if_icmp .ge 65, 3, 74, 0, 0) :: (12, .aload_n 0, 1, 0, 0, 0) :: (13, .getfield 42, 3, 7, 6, 0) :: (16, .aload_n 0, 1, 0, 0, 0) :: (17, .getfield 10, 3, 7, 0, 0) :: (20, .aload_n 0, 1, 0, 0, 0) :: (21, .getfield 10, 3, 7, 0, 0) :: (24, .invokevirtual 281, 3, 56, 1, 0) :: (27, .iconst 0, 1, 0, 0, 0) :: (28, .iload_n 3, 1, 3, 0, 0) :: (29, .invokevirtual 284, 3, 21, 5, 0) :: (32, .aload_n 0, 1, 0, 0, 0) :: (33, .getfield 42, 3, 7, 6, 0) :: (36, .aload_n 0, 1, 0, 0, 0) :: (37, .getfield 10, 3, 7, 0, 0) :: (40, .iconst 0, 1, 0, 0, 0) :: (41, .invokevirtual 288, 3, 22, 3, 0) :: (44, .aload_n 0, 1, 0, 0, 0) :: (45, .getfield 42, 3, 7, 6, 0) :: (48, .invokevirtual 292, 3, 25, 1, 0) :: (51, .istore 4, 2, 4, 0, 0) :: (53, .iload_n 3, 1, 3, 0, 0) :: (54, .ifCond .eq 9, 3, 63, 0, 0) :: (57, .iload 4, 2, 4, 0, 0) :: (59, .iload_n 2, 1, 2, 0, 0) :: (60, .if_icmp .ge 8, 3, 68, 0, 0) :: px_c117_63
def px_c117_0 : List px_I := (0, .iconst 0, 1, 0, 0, 0) :: (1, .istore_n 1, 1, 1, 0, 0) :: (2, .iconst 0, 1, 0, 0, 0) :: (3, .istore_n 2, 1, 2, 0, 0) :: (4, .iconst 0, 1, 0, 0, 0) :: (5, .istore_n 3, 1, 3, 0, 0) :: px_c117_6
def px_c118_27 : List px_I := (27, .aload_n 0, 1, 0, 0, 0) :: (28, .getfield 28, 3, 7, 4, 0) :: (31, .iload_n 1, 1, 1, 0, 0) :: (32, .aaload, 1, 0, 0, 0) :: (33, .astore 5, 2, 5, 0, 0) :: (35, .aload_n 0, 1, 0, 0, 0) :: (36, .getfield 10, 3, 7, 0, 0) :: (39, .aload_n 0, 1, 0, 0, 0) :: (40, .getfield 10, 3, 7, 0, 0) :: (43, .aload 5, 2, 5, 0, 0) :: (45, .invokevirtual 139, 3, 57, 2, 0) :: (48, .aload 5, 2, 5, 0, 0) :: (50, .iconst 0, 1, 0, 0, 0) :: (51, .invokevirtual 240, 3, 44, 2, 0) :: (54, .iload_n 2, 1, 2, 0, 0) :: (55, .iload_n 3, 1, 3, 0, 0) :: (56, .invokevirtual 295, 3, 66, 5, 0) :: (59, .ireturn, 1, 0, 0, 0) :: []
def px_c118_0 : List px_I := (0, .aload_n 0, 1, 0, 0, 0) :: (1, .iload_n 1, 1, 1, 0, 0) :: (2, .iload_n 2, 1, 2, 0, 0) :: (3, .invokestatic 171, 3, 139, 1, 0) :: (6, .iload_n 3, 1, 3, 0, 0) :: (7, .invokestatic 226, 3, 140, 1, 0) :: (10, .invokevirtual 232, 3, 134, 4, 0) :: (13, .istore 4, 2, 4, 0, 0) :: (15, .iload 4, 2, 4, 0, 0) :: (17, .ifCond .eq 10, 3, 27, 0, 0) :: (20, .aload_n 0, 1, 0, 0, 0) :: (21, .iload 4, 2, 4, 0, 0) :: (23, .invokevirtual 211, 3, 131, 2, 0) :: (26, .ireturn, 1, 0, 0, 0) :: px_c118_27
def px_c119_138 : List px_I := (138, .iload 5, 2, 5, 0, 0) :: (140, .ireturn, 1, 0, 0, 0) :: []
def px_c119_132 : List px_I := (132, .iinc 6 1, 3, 6, 0, 1) :: (135, .goto (-76), 3, 59, 0, 0) :: px_c119_138
def px_c119_87 : List px_I := (87, .aload_n 0, 1, 0, 0, 0) :: (88, .getfield 10, 3, 7, 0, 0) :: (91, .iload_n 3, 1, 3, 0, 0) :: (92, .iconst 0, 1, 0, 0, 0) :: (93, .iload 6, 2, 6, 0, 0) :: (95, .iload_n 2, 1, 2, 0, 0) :: (96, .invokevirtual 301, 3, 64, 5, 0) :: (99, .aload_n 0, 1, 0, 0, 0) :: (100, .getfield 10, 3, 7, 0, 0) :: (103, .iload 6, 2, 6, 0, 0) :: (105, .iconst 0, 1, 0, 0, 0) :: (106, .invokevirtual 304, 3, 68, 3, 0) :: (109, .iadd, 1, 0, 0, 0) :: (110, .istore 8, 2, 8, 0, 0) :: (112, .iload 8, 2, 8, 0, 0) :: (114, .iload 4, 2, 4, 0, 0) :: (116, .if_icmp .lt 16, 3, 132, 0, 0) :: (119, .iload 8, 2, 8, 0, 0) :: (121, .iload 7, 2, 7, 0, 0) :: (123, .isub, 1, 0, 0, 0) :: (124, .iload 4, 2, 4, 0, 0) :: (126, .if_icmp .ge 6, 3, 132, 0, 0) :: (129, .iinc 5 1, 3, 5, 0, 1) :: px_c119_132
def px_c119_59 : List px_I := (59, .iload 6, 2, 6, 0, 0) :: (61, .bipush 120, 2, 0, 0, 120) :: (63, .if_icmp .ge 75, 3, 138, 0, 0) :: (66, .aload_n 0, 1, 0, 0, 0) :: (67, .getfield 10, 3, 7, 0, 0) :: (70, .iload_n 1, 1, 1, 0, 0) :: (71, .iload 6, 2, 6, 0, 0) :: (73, .iconst 0, 1, 0, 0, 0) :: (74, .invokevirtual 298, 3, 67, 4, 0) :: (77, .istore 7, 2, 7, 0, 0) :: (79, .iload 7, 2, 7, 0, 0) :: (81, .ifCond .ne 6, 3, 87, 0, 0) :: (84, .goto 48, 3, 132, 0, 0) :: px_c119_87
def px_c119_34 : List px_I := (34, .aload_n 0, 1, 0, 0, 0) :: (35, .getfield 10, 3, 7, 0, 0) :: (38, .invokevirtual 281, 3, 56, 1, 0) :: (41, .istore_n 3, 1, 3, 0, 0) :: (42, .aload_n 0, 1, 0, 0, 0) :: (43, .getfield 10, 3, 7, 0, 0) :: (46, .getfield 192, 3, 4, 0, 0) :: (49, .iconst 0, 1, 0, 0, 0) :: (50, .iaload, 1, 0, 0, 0) :: (51, .istore 4, 2, 4, 0, 0) :: (53, .iconst 0, 1, 0, 0, 0) :: (54, .istore 5, 2, 5, 0, 0) :: (56, .iconst 0, 1, 0, 0, 0) :: (57, .istore 6, 2, 6, 0, 0) :: px_c119_59
def px_c119_20 : List px_I := (20, .iload_n 2, 1, 2, 0, 0) :: (21, .invokestatic 226, 3, 140, 1, 0) :: (24, .ifCond .ne 10, 3, 34, 0, 0) :: (27, .aload_n 0, 1, 0, 0, 0) :: (28, .bipush (-6), 2, 0, 0, (-6)) :: (30, .invokevirtual 73, 3, 130, 2, 0) :: (33, .ireturn, 1, 0, 0, 0) :: px_c119_34
def px_c119_0 : List px_I := (0, .aload_n 0, 1, 0, 0, 0) :: (1, .getfield 10, 3, 7, 0, 0) :: (4, .getfield 189, 3, 4, 6, 0) :: (7, .iload_n 1, 1, 1, 0, 0) :: (8, .invokevirtual 206, 3, 81, 2, 0) :: (11, .ifCond .ne 9, 3, 20, 0, 0) :: (14, .aload_n 0, 1, 0, 0, 0) :: (15, .iconst (-1), 1, 0, 0, (-1)) :: (16, .invokevirtual 73, 3, 130, 2, 0) :: (19, .ireturn, 1, 0, 0, 0) :: px_c119_20
def px_c120_80 : List px_I := (80, .iload_n 2, 1, 2, 0, 0) :: (81, .ireturn, 1, 0, 0, 0) :: []
def px_c120_72 : List px_I := (72, .iload_n 3, 1, 3, 0, 0) :: (73, .istore_n 2, 1, 2, 0, 0) :: (74, .iinc 3 (-1), 3, 3, 0, (-1)) :: (77, .goto (-38), 3, 39, 0, 0) :: px_c120_80
def px_c120_39 : List px_I := (39, .iload_n 3, 1, 3, 0, 0) :: (40, .ifCond .lt 40, 3, 80, 0, 0) :: (43, .aload_n 0, 1, 0, 0, 0) :: (44, .getfield 42, 3, 7, 6, 0) :: (47, .aload_n 0, 1, 0, 0, 0) :: (48, .getfield 10, 3, 7, 0, 0) :: (51, .iload_n 3, 1, 3, 0, 0) :: (52, .invokevirtual 288, 3, 22, 3, 0) :: (55, .aload_n 0, 1, 0, 0, 0) :: (56, .getfield 42, 3, 7, 6, 0) :: (59, .aload_n 0, 1, 0, 0, 0) :: (60, .getfield 10, 3, 7, 0, 0) :: (63, .invokevirtual 307, 3, 23, 2, 0) :: (66, .ifCond .eq 6, 3, 72, 0, 0) :: (69, .goto 11, 3, 80, 0, 0) :: px_c120_72
def px_c120_14 : List px_I := (14, .aload_n 0, 1, 0, 0, 0) :: (15, .getfield 42, 3, 7, 6, 0) :: (18, .aload_n 0, 1, 0, 0, 0) :: (19, .getfield 10, 3, 7, 0, 0) :: (22, .aload_n 0, 1, 0, 0, 0) :: (23, .getfield 10, 3, 7, 0, 0) :: (26, .invokevirtual 281, 3, 56, 1, 0) :: (29, .iconst 1, 1, 0, 0, 1) :: (30, .iload_n 1, 1, 1, 0, 0) :: (31, .invokevirtual 284, 3, 21, 5, 0) :: (34, .iconst (-1), 1, 0, 0, (-1)) :: (35, .istore_n 2, 1, 2, 0, 0) :: (36, .bipush 11, 2, 0, 0, 11) :: (38, .istore_n 3, 1, 3, 0, 0) :: px_c120_39
def px_c120_0 : List px_I := (0, .iload_n 1, 1, 1, 0, 0) :: (1, .invokestatic 226, 3, 140, 1, 0) :: (4, .ifCond .ne 10, 3, 14, 0, 0) :: (7, .aload_n 0, 1, 0, 0, 0) :: (8, .bipush (-6), 2, 0, 0, (-6)) :: (10, .invokevirtual 211, 3, 131, 2, 0) :: (13, .ireturn, 1, 0, 0, 0) :: px_c120_14
def px_c121_42 : List px_I := (42, .ireturn, 1, 0, 0, 0) :: []
def px_c121_34 : List px_I := (34, .aload_n 0, 1, 0, 0, 0) :: (35, .getfield 10, 3, 7, 0, 0) :: (38, .iload_n 1, 1, 1, 0, 0) :: (39, .invokevirtual 314, 3, 70, 2, 0) :: px_c121_42
def px_c121_19 : List px_I := (19, .iload_n 2, 1, 2, 0, 0) :: (20, .ifCond .eq 14, 3, 34, 0, 0) :: (23, .aload_n 0, 1, 0, 0, 0) :: (24, .getfield 10, 3, 7, 0, 0) :: (27, .iload_n 1, 1, 1, 0, 0) :: (28, .invokevirtual 311, 3, 71, 2, 0) :: (31, .goto 11, 3, 42, 0, 0) :: px_c121_34
def px_c121_12 : List px_I := (12, .aload_n 0, 1, 0, 0, 0) :: (13, .bipush (-6), 2, 0, 0, (-6)) :: (15, .invokevirtual 73, 3, 130, 2, 0) :: (18, .ireturn, 1, 0, 0, 0) :: px_c121_19
def px_c121_0 : List px_I := (0, .iload_n 1, 1, 1, 0, 0) :: (1, .iconst 1, 1, 0, 0, 1) :: (2, .if_icmp .lt 10, 3, 12, 0, 0) :: (5, .iload_n 1, 1, 1, 0, 0) :: (6, .sipush 240, 3, 0, 0, 240) :: (9, .if_icmp .le 10, 3, 19, 0, 0) :: px_c121_12
def px_c122_94 : List px_I := (94, .iload_n 3, 1, 3, 0, 0) :: (95, .ireturn, 1, 0, 0, 0) :: []
def px_c122_88 : List px_I := (88, .iinc 4 1, 3, 4, 0, 1) :: (91, .goto (-55), 3, 36, 0, 0) :: px_c122_94
def px_c122_65 : List px_I := (65, .istore 5, 2, 5, 0, 0) :: (67, .aload_n 0, 1, 0, 0, 0) :: (68, .getfield 10, 3, 7, 0, 0) :: (71, .getfield 174, 3, 4, 2, 0) :: (74, .iload 4, 2, 4, 0, 0) :: (76, .iconst 2, 1, 0, 0, 2) :: (77, .invokevirtual 207, 3, 82, 3, 0) :: (80, .iload 5, 2, 5, 0, 0) :: (82, .if_icmp .eq 6, 3, 88, 0, 0) :: (85, .iinc 3 1, 3, 3, 0, 1) :: px_c122_88
def px_c122_64 : List px_I := (64, .iconst (-1), 1, 0, 0, (-1)) :: px_c122_65
def px_c122_36 : List px_I := (36, .iload 4, 2, 4, 0, 0) :: (38, .aload_n 0, 1, 0, 0, 0) :: (39, .getfield 10, 3, 7, 0, 0) :: (42, .getfield 174, 3, 4, 2, 0) :: (45, .getfield 272, 3, 6, 2, 0) :: (48, .if_icmp .ge 46, 3, 94, 0, 0) :: (51, .iload_n 1, 1, 1, 0, 0) :: (52, .iload 4, 2, 4, 0, 0) :: (54, .invokestatic 317, 3, 142, 2, 0) :: (57, .ifCond .eq 7, 3, 64, 0, 0) :: (60, .iload_n 2, 1, 2, 0, 0) :: (61, .goto 4, 3, 65, 0, 0) :: px_c122_64
def px_c122_31 : List px_I := (31, .iconst 0, 1, 0, 0, 0) :: (32, .istore_n 3, 1, 3, 0, 0) :: (33, .iconst 0, 1, 0, 0, 0) :: (34, .istore 4, 2, 4, 0, 0) :: px_c122_36
def px_c122_25 : List px_I := (25, .aload_n 0, 1, 0, 0, 0) :: (26, .iconst (-1), 1, 0, 0, (-1)) :: (27, .invokevirtual 73, 3, 130, 2, 0) :: (30, .ireturn, 1, 0, 0, 0) :: px_c122_31
def px_c122_0 : List px_I := (0, .aload_n 0, 1, 0, 0, 0) :: (1, .getfield 10, 3, 7, 0, 0) :: (4, .getfield 158, 3, 4, 1, 0) :: (7, .iload_n 2, 1, 2, 0, 0) :: (8, .invokevirtual 206, 3, 81, 2, 0) :: (11, .ifCond .eq 14, 3, 25, 0, 0) :: (14, .aload_n 0, 1, 0, 0, 0) :: (15, .getfield 10, 3, 7, 0, 0) :: (18, .iload_n 1, 1, 1, 0, 0) :: (19, .invokevirtual 255, 3, 51, 2, 0) :: (22, .ifCond .ne 9, 3, 31, 0, 0) :: px_c122_25
def px_c123_74 : List px_I := (74, .aload_n 0, 1, 0, 0, 0) :: (75, .getfield 10, 3, 7, 0, 0) :: (78, .iload_n 1, 1, 1, 0, 0) :: (79, .iload_n 2, 1, 2, 0, 0) :: (80, .invokevirtual 258, 3, 69, 3, 0) :: (83, .ireturn, 1, 0, 0, 0) :: []
def px_c123_65 : List px_I := (65, .invokevirtual 214, 3, 54, 3, 0) :: (68, .iinc 3 1, 3, 3, 0, 1) :: (71, .goto (-38), 3, 33, 0, 0) :: px_c123_74
def px_c123_64 : List px_I := (64, .iconst (-1), 1, 0, 0, (-1)) :: px_c123_65
def px_c123_33 : List px_I := (33, .iload_n 3, 1, 3, 0, 0) :: (34, .aload_n 0, 1, 0, 0, 0) :: (35, .getfield 10, 3, 7, 0, 0) :: (38, .getfield 174, 3, 4, 2, 0) :: (41, .getfield 272, 3, 6, 2, 0) :: (44, .if_icmp .ge 30, 3, 74, 0, 0) :: (47, .aload_n 0, 1, 0, 0, 0) :: (48, .getfield 10, 3, 7, 0, 0) :: (51, .iload_n 3, 1, 3, 0, 0) :: (52, .iload_n 1, 1, 1, 0, 0) :: (53, .iload_n 3, 1, 3, 0, 0) :: (54, .invokestatic 317, 3, 142, 2, 0) :: (57, .ifCond .eq 7, 3, 64, 0, 0) :: (60, .iload_n 2, 1, 2, 0, 0) :: (61, .goto 4, 3, 65, 0, 0) :: px_c123_64
def px_c123_31 : List px_I := (31, .iconst 0, 1, 0, 0, 0) :: (32, .istore_n 3, 1, 3, 0, 0) :: px_c123_33
def px_c123_25 : List px_I := (25, .aload_n 0, 1, 0, 0, 0) :: (26, .iconst (-1), 1, 0, 0, (-1)) :: (27, .invokevirtual 73, 3, 130, 2, 0) :: (30, .ireturn, 1, 0, 0, 0) :: px_c123_31
def px_c123_0 : List px_I := (0, .aload_n 0, 1, 0, 0, 0) :: (1, .getfield 10, 3, 7, 0, 0) :: (4, .getfield 158, 3, 4, 1, 0) :: (7, .iload_n 2, 1, 2, 0, 0) :: (8, .invokevirtual 206, 3, 81, 2, 0) :: (11, .ifCond .eq 14, 3, 25, 0, 0) :: (14, .aload_n 0, 1, 0, 0, 0) :: (15, .getfield 10, 3, 7, 0, 0) :: (18, .iload_n 1, 1, 1, 0, 0) :: (19, .invokevirtual 255, 3, 51, 2, 0) :: (22, .ifCond .ne 9, 3, 31, 0, 0) :: px_c123_25
def px_c124_135 : List px_I := (135, .iconst (-1), 1, 0, 0, (-1)) :: (136, .ireturn, 1, 0, 0, 0) :: []
def px_c124_129 : List px_I := (129, .iinc 6 1, 3, 6, 0, 1) :: (132, .goto (-33), 3, 99, 0, 0) :: px_c124_135
def px_c124_99 : List px_I := (99, .iload 6, 2, 6, 0, 0) :: (101, .bipush 120, 2, 0, 0, 120) :: (103, .if_icmp .ge 32, 3, 135, 0, 0) :: (106, .aload_n 0, 1, 0, 0, 0) :: (107, .aload 4, 2, 4, 0, 0) :: (109, .iload 6, 2, 6, 0, 0) :: (111, .iload_n 3, 1, 3, 0, 0) :: (112, .iconst 0, 1, 0, 0, 0) :: (113, .invokevirtual 236, 3, 136, 5, 0) :: (116, .aload 5, 2, 5, 0, 0) :: (118, .iload 6, 2, 6, 0, 0) :: (120, .invokevirtual 320, 3, 40, 2, 0) :: (123, .if_icmp .eq 6, 3, 129, 0, 0) :: (126, .iload 6, 2, 6, 0, 0) :: (128, .ireturn, 1, 0, 0, 0) :: px_c124_129
def px_c124_96 : List px_I := (96, .iconst 0, 1, 0, 0, 0) :: (97, .istore 6, 2, 6, 0, 0) :: px_c124_99
def px_c124_82 : List px_I := (82, .iload_n 3, 1, 3, 0, 0) :: (83, .invokestatic 226, 3, 140, 1, 0) :: (86, .ifCond .ne 10, 3, 96, 0, 0) :: (89, .aload_n 0, 1, 0, 0, 0) :: (90, .bipush (-6), 2, 0, 0, (-6)) :: (92, .invokevirtual 211, 3, 131, 2, 0) :: (95, .ireturn, 1, 0, 0, 0) :: px_c124_96
def px_c124_75 : List px_I := (75, .aload_n 0, 1, 0, 0, 0) :: (76, .bipush (-3), 2, 0, 0, (-3)) :: (78, .invokevirtual 211, 3, 131, 2, 0) :: (81, .ireturn, 1, 0, 0, 0) :: px_c124_82
def px_c124_59 : List px_I := (59, .aload 4, 2, 4, 0, 0) :: (61, .invokevirtual 91, 3, 33, 1, 0) :: (64, .ifCond .eq 11, 3, 75, 0, 0) :: (67, .aload 5, 2, 5, 0, 0) :: (69, .invokevirtual 95, 3, 32, 1, 0) :: (72, .ifCond .ne 10, 3, 82, 0, 0) :: px_c124_75
def px_c124_52 : List px_I := (52, .aload_n 0, 1, 0, 0, 0) :: (53, .bipush (-2), 2, 0, 0, (-2)) :: (55, .invokevirtual 211, 3, 131, 2, 0) :: (58, .ireturn, 1, 0, 0, 0) :: px_c124_59
def px_c124_20 : List px_I := (20, .aload_n 0, 1, 0, 0, 0) :: (21, .getfield 28, 3, 7, 4, 0) :: (24, .iload_n 1, 1, 1, 0, 0) :: (25, .aaload, 1, 0, 0, 0) :: (26, .astore 4, 2, 4, 0, 0) :: (28, .aload_n 0, 1, 0, 0, 0) :: (29, .getfield 28, 3, 7, 4, 0) :: (32, .iload_n 2, 1, 2, 0, 0) :: (33, .aaload, 1, 0, 0, 0) :: (34, .astore 5, 2, 5, 0, 0) :: (36, .aload 4, 2, 4, 0, 0) :: (38, .invokevirtual 95, 3, 32, 1, 0) :: (41, .ifCond .ne 11, 3, 52, 0, 0) :: (44, .aload 5, 2, 5, 0, 0) :: (46, .invokevirtual 91, 3, 33, 1, 0) :: (49, .ifCond .eq 10, 3, 59, 0, 0) :: px_c124_52
def px_c124_14 : List px_I := (14, .aload_n 0, 1, 0, 0, 0) :: (15, .iconst (-1), 1, 0, 0, (-1)) :: (16, .invokevirtual 211, 3, 131, 2, 0) :: (19, .ireturn, 1, 0, 0, 0) :: px_c124_20
def px_c124_0 : List px_I := (0, .iload_n 1, 1, 1, 0, 0) :: (1, .invokestatic 69, 3, 138, 1, 0) :: (4, .ifCond .eq 10, 3, 14, 0, 0) :: (7, .iload_n 2, 1, 2, 0, 0) :: (8, .invokestatic 69, 3, 138, 1, 0) :: (11, .ifCond .ne 9, 3, 20, 0, 0) :: px_c124_14
def px_c125_107 : List px_I := (107, .iconst 0, 1, 0, 0, 0) :: (108, .ireturn, 1, 0, 0, 0) :: []
def px_c125_98 : List px_I := (98, .aload_n 0, 1, 0, 0, 0) :: (99, .getfield 56, 3, 7, 8, 0) :: (102, .iload_n 3, 1, 3, 0, 0) :: (103, .invokevirtual 335, 3, 7, 2, 0) :: (106, .ireturn, 1, 0, 0, 0) :: px_c125_107
def px_c125_89 : List px_I := (89, .aload_n 0, 1, 0, 0, 0) :: (90, .getfield 56, 3, 7, 8, 0) :: (93, .iload_n 3, 1, 3, 0, 0) :: (94, .invokevirtual 332, 3, 6, 2, 0) :: (97, .ireturn, 1, 0, 0, 0) :: px_c125_98
def px_c125_80 : List px_I := (80, .aload_n 0, 1, 0, 0, 0) :: (81, .getfield 56, 3, 7, 8, 0) :: (84, .iload_n 3, 1, 3, 0, 0) :: (85, .invokevirtual 329, 3, 5, 2, 0) :: (88, .ireturn, 1, 0, 0, 0) :: px_c125_89
def px_c125_28 : List px_I := (28, .aload_n 0, 1, 0, 0, 0) :: (29, .getfield 56, 3, 7, 8, 0) :: (32, .aload_n 0, 1, 0, 0, 0) :: (33, .getfield 28, 3, 7, 4, 0) :: (36, .iload_n 1, 1, 1, 0, 0) :: (37, .aaload, 1, 0, 0, 0) :: (38, .getfield 98, 3, 3, 1, 0) :: (41, .iload_n 1, 1, 1, 0, 0) :: (42, .aload_n 0, 1, 0, 0, 0) :: (43, .getfield 28, 3, 7, 4, 0) :: (46, .iload_n 1, 1, 1, 0, 0) :: (47, .aaload, 1, 0, 0, 0) :: (48, .getfield 151, 3, 3, 3, 0) :: (51, .invokevirtual 326, 3, 2, 4, 0) :: (54, .iload_n 2, 1, 2, 0, 0) :: (55, .tableswitch 52 0 2 #[25, 34, 43], 25, 0, 0, 0) :: px_c125_80
def px_c125_26 : List px_I := (26, .iconst 0, 1, 0, 0, 0) :: (27, .ireturn, 1, 0, 0, 0) :: px_c125_28
def px_c125_0 : List px_I := (0, .aload_n 0, 1, 0, 0, 0) :: (1, .getfield 56, 3, 7, 8, 0) :: (4, .invokevirtual 323, 3, 1, 1, 0) :: (7, .iload_n 1, 1, 1, 0, 0) :: (8, .invokestatic 69, 3, 138, 1, 0) :: (11, .ifCond .eq 15, 3, 26, 0, 0) :: (14, .aload_n 0, 1, 0, 0, 0) :: (15, .getfield 28, 3, 7, 4, 0) :: (18, .iload_n 1, 1, 1, 0, 0) :: (19, .aaload, 1, 0, 0, 0) :: (20, .invokevirtual 91, 3, 33, 1, 0) :: (23, .ifCond .ne 5, 3, 28, 0, 0) :: px_c125_26
def px_c126_0 : List px_I := (0, .aload_n 0, 1, 0, 0, 0) :: (1, .getfield 56, 3, 7, 8, 0) :: (4, .iload_n 1, 1, 1, 0, 0) :: (5, .invokevirtual 338, 3, 3, 2, 0) :: (8, .ireturn, 1, 0, 0, 0) :: []
def px_c127_0 : List px_I := (0, .aload_n 0, 1, 0, 0, 0) :: (1, .getfield 19, 3, 7, 2, 0) :: (4, .aload_n 0, 1, 0, 0, 0) :: (5, .getfield 10, 3, 7, 0, 0) :: (8, .invokevirtual 195, 3, 46, 2, 0) :: (11, .aload_n 0, 1, 0, 0, 0) :: (12, .iconst 1, 1, 0, 0, 1) :: (13, .putfield 22, 3, 7, 3, 0) :: (16, .aload_n 0, 1, 0, 0, 0) :: (17, .getfield 10, 3, 7, 0, 0) :: (20, .getfield 174, 3, 4, 2, 0) :: (23, .getfield 272, 3, 6, 2, 0) :: (26, .ireturn, 1, 0, 0, 0) :: []
def px_c128_14 : List px_I := (14, .aload_n 0, 1, 0, 0, 0) :: (15, .getfield 10, 3, 7, 0, 0) :: (18, .aload_n 0, 1, 0, 0, 0) :: (19, .getfield 19, 3, 7, 2, 0) :: (22, .invokevirtual 195, 3, 46, 2, 0) :: (25, .aload_n 0, 1, 0, 0, 0) :: (26, .getfield 10, 3, 7, 0, 0) :: (29, .getfield 174, 3, 4, 2, 0) :: (32, .getfield 272, 3, 6, 2, 0) :: (35, .ireturn, 1, 0, 0, 0) :: []
def px_c128_0 : List px_I := (0, .aload_n 0, 1, 0, 0, 0) :: (1, .getfield 22, 3, 7, 3, 0) :: (4, .ifCond .ne 10, 3, 14, 0, 0) :: (7, .aload_n 0, 1, 0, 0, 0) :: (8, .bipush (-6), 2, 0, 0, (-6)) :: (10, .invokevirtual 73, 3, 130, 2, 0) :: (13, .ireturn, 1, 0, 0, 0) :: px_c128_14
def px_c129_198 : List px_I := (198, .ireturn, 1, 0, 0, 0) :: []
def px_c129_197 : List px_I := (197, .iconst (-1), 1, 0, 0, (-1)) :: px_c129_198
def px_c129_173 : List px_I := (173, .iload_n 1, 1, 1, 0, 0) :: (174, .bipush 10, 2, 0, 0, 10) :: (176, .if_icmp .le 21, 3, 197, 0, 0) :: (179, .iload_n 1, 1, 1, 0, 0) :: (180, .bipush 18, 2, 0, 0, 18) :: (182, .if_icmp .ge 15, 3, 197, 0, 0) :: (185, .aload_n 0, 1, 0, 0, 0) :: (186, .getfield 60, 3, 7, 9, 0) :: (189, .iload_n 1, 1, 1, 0, 0) :: (190, .bipush 10, 2, 0, 0, 10) :: (192, .isub, 1, 0, 0, 0) :: (193, .iaload, 1, 0, 0, 0) :: (194, .goto 4, 3, 198, 0, 0) :: px_c129_197
def px_c129_165 : List px_I := (165, .aload_n 0, 1, 0, 0, 0) :: (166, .getfield 56, 3, 7, 8, 0) :: (169, .getfield 341, 3, 0, 1, 0) :: (172, .ireturn, 1, 0, 0, 0) :: px_c129_173
def px_c129_154 : List px_I := (154, .aload_n 0, 1, 0, 0, 0) :: (155, .getfield 10, 3, 7, 0, 0) :: (158, .getfield 183, 3, 4, 7, 0) :: (161, .getfield 272, 3, 6, 2, 0) :: (164, .ireturn, 1, 0, 0, 0) :: px_c129_165
def px_c129_143 : List px_I := (143, .aload_n 0, 1, 0, 0, 0) :: (144, .getfield 10, 3, 7, 0, 0) :: (147, .getfield 189, 3, 4, 6, 0) :: (150, .getfield 272, 3, 6, 2, 0) :: (153, .ireturn, 1, 0, 0, 0) :: px_c129_154
def px_c129_132 : List px_I := (132, .aload_n 0, 1, 0, 0, 0) :: (133, .getfield 10, 3, 7, 0, 0) :: (136, .getfield 186, 3, 4, 5, 0) :: (139, .getfield 272, 3, 6, 2, 0) :: (142, .ireturn, 1, 0, 0, 0) :: px_c129_143
def px_c129_121 : List px_I := (121, .aload_n 0, 1, 0, 0, 0) :: (122, .getfield 10, 3, 7, 0, 0) :: (125, .getfield 180, 3, 4, 4, 0) :: (128, .getfield 272, 3, 6, 2, 0) :: (131, .ireturn, 1, 0, 0, 0) :: px_c129_132
def px_c129_110 : List px_I := (110, .aload_n 0, 1, 0, 0, 0) :: (111, .getfield 10, 3, 7, 0, 0) :: (114, .getfield 177, 3, 4, 3, 0) :: (117, .getfield 272, 3, 6, 2, 0) :: (120, .ireturn, 1, 0, 0, 0) :: px_c129_121
def px_c129_89 : List px_I := (89, .aload_n 0, 1, 0, 0, 0) :: (90, .getfield 10, 3, 7, 0, 0) :: (93, .invokevirtual 125, 3, 55, 1, 0) :: (96, .aload_n 0, 1, 0, 0, 0) :: (97, .getfield 10, 3, 7, 0, 0) :: (100, .invokevirtual 281, 3, 56, 1, 0) :: (103, .iconst (-1), 1, 0, 0, (-1)) :: (104, .ixor, 1, 0, 0, 0) :: (105, .iand, 1, 0, 0, 0) :: (106, .invokestatic 143, 3, 247, 1, 0) :: (109, .ireturn, 1, 0, 0, 0) :: px_c129_110
def px_c129_78 : List px_I := (78, .aload_n 0, 1, 0, 0, 0) :: (79, .getfield 10, 3, 7, 0, 0) :: (82, .invokevirtual 125, 3, 55, 1, 0) :: (85, .invokestatic 143, 3, 247, 1, 0) :: (88, .ireturn, 1, 0, 0, 0) :: px_c129_89
def px_c129_67 : List px_I := (67, .aload_n 0, 1, 0, 0, 0) :: (68, .getfield 10, 3, 7, 0, 0) :: (71, .getfield 174, 3, 4, 2, 0) :: (74, .getfield 272, 3, 6, 2, 0) :: (77, .ireturn, 1, 0, 0, 0) :: px_c129_78
def px_c129_56 : List px_I := (56, .aload_n 0, 1, 0, 0, 0) :: (57, .getfield 10, 3, 7, 0, 0) :: (60, .getfield 158, 3, 4, 1, 0) :: (63, .getfield 272, 3, 6, 2, 0) :: (66, .ireturn, 1, 0, 0, 0) :: px_c129_67
def px_c129_0 : List px_I := (0, .iload_n 1, 1, 1, 0, 0) :: (1, .tableswitch 172 0 9 #[55, 66, 77, 88, 109, 120, 131, 142, 153, 164], 55, 0, 0, 0) :: px_c129_56
def px_c130_22 : List px_I := (22, .iload_n 1, 1, 1, 0, 0) :: (23, .ireturn, 1, 0, 0, 0) :: []
def px_c130_0 : List px_I := (0, .iload_n 1, 1, 1, 0, 0) :: (1, .iconst (-1), 1, 0, 0, (-1)) :: (2, .if_icmp .gt 20, 3, 22, 0, 0) :: (5, .iload_n 1, 1, 1, 0, 0) :: (6, .bipush (-7), 2, 0, 0, (-7)) :: (8, .if_icmp .lt 14, 3, 22, 0, 0) :: (11, .aload_n 0, 1, 0, 0, 0) :: (12, .getfield 60, 3, 7, 9, 0) :: (15, .iload_n 1, 1, 1, 0, 0) :: (16, .ineg, 1, 0, 0, 0) :: (17, .dup2, 1, 0, 0, 0) :: (18, .iaload, 1, 0, 0, 0) :: (19, .iconst 1, 1, 0, 0, 1) :: (20, .iadd, 1, 0, 0, 0) :: (21, .iastore, 1, 0, 0, 0) :: px_c130_22
def px_c131_0 : List px_I := (0, .aload_n 0, 1, 0, 0, 0) :: (1, .iload_n 1, 1, 1, 0, 0) :: (2, .invokevirtual 73, 3, 130, 2, 0) :: (5, .bipush 10, 2, 0, 0, 10) :: (7, .isub, 1, 0, 0, 0) :: (8, .ireturn, 1, 0, 0, 0) :: []
def px_c132_42 : List px_I := (42, .ireturn, 1, 0, 0, 0) :: []
def px_c132_40 : List px_I := (40, .bipush (-3), 2, 0, 0, (-3)) :: px_c132_42
def px_c132_24 : List px_I := (24, .aload_n 0, 1, 0, 0, 0) :: (25, .getfield 28, 3, 7, 4, 0) :: (28, .iload_n 1, 1, 1, 0, 0) :: (29, .aaload, 1, 0, 0, 0) :: (30, .invokevirtual 95, 3, 32, 1, 0) :: (33, .ifCond .eq 7, 3, 40, 0, 0) :: (36, .iconst 0, 1, 0, 0, 0) :: (37, .goto 5, 3, 42, 0, 0) :: px_c132_40
def px_c132_9 : List px_I := (9, .aload_n 0, 1, 0, 0, 0) :: (10, .getfield 28, 3, 7, 4, 0) :: (13, .iload_n 1, 1, 1, 0, 0) :: (14, .aaload, 1, 0, 0, 0) :: (15, .invokevirtual 91, 3, 33, 1, 0) :: (18, .ifCond .eq 6, 3, 24, 0, 0) :: (21, .bipush (-2), 2, 0, 0, (-2)) :: (23, .ireturn, 1, 0, 0, 0) :: px_c132_24
def px_c132_0 : List px_I := (0, .iload_n 1, 1, 1, 0, 0) :: (1, .invokestatic 69, 3, 138, 1, 0) :: (4, .ifCond .ne 5, 3, 9, 0, 0) :: (7, .iconst (-1), 1, 0, 0, (-1)) :: (8, .ireturn, 1, 0, 0, 0) :: px_c132_9
def px_c133_42 : List px_I := (42, .ireturn, 1, 0, 0, 0) :: []
def px_c133_40 : List px_I := (40, .bipush (-3), 2, 0, 0, (-3)) :: px_c133_42
def px_c133_24 : List px_I := (24, .aload_n 0, 1, 0, 0, 0) :: (25, .getfield 28, 3, 7, 4, 0) :: (28, .iload_n 1, 1, 1, 0, 0) :: (29, .aaload, 1, 0, 0, 0) :: (30, .invokevirtual 91, 3, 33, 1, 0) :: (33, .ifCond .eq 7, 3, 40, 0, 0) :: (36, .iconst 0, 1, 0, 0, 0) :: (37, .goto 5, 3, 42, 0, 0) :: px_c133_40
def px_c133_9 : List px_I := (9, .aload_n 0, 1, 0, 0, 0) :: (10, .getfield 28, 3, 7, 4, 0) :: (13, .iload_n 1, 1, 1, 0, 0) :: (14, .aaload, 1, 0, 0, 0) :: (15, .invokevirtual 95, 3, 32, 1, 0) :: (18, .ifCond .eq 6, 3, 24, 0, 0) :: (21, .bipush (-2), 2, 0, 0, (-2)) :: (23, .ireturn, 1, 0, 0, 0) :: px_c133_24
def px_c133_0 : List px_I := (0, .iload_n 1, 1, 1, 0, 0) :: (1, .invokestatic 69, 3, 138, 1, 0) :: (4, .ifCond .ne 5, 3, 9, 0, 0) :: (7, .iconst (-1), 1, 0, 0, (-1)) :: (8, .ireturn, 1, 0, 0, 0) :: px_c133_9
def px_c134_31 : List px_I := (31, .ireturn, 1, 0, 0, 0) :: []
def px_c134_29 : List px_I := (29, .bipush (-6), 2, 0, 0, (-6)) :: px_c134_31
def px_c134_21 : List px_I := (21, .iload_n 3, 1, 3, 0, 0) :: (22, .ifCond .eq 7, 3, 29, 0, 0) :: (25, .iconst 0, 1, 0, 0, 0) :: (26, .goto 5, 3, 31, 0, 0) :: px_c134_29
def px_c134_6 : List px_I := (6, .aload_n 0, 1, 0, 0, 0) :: (7, .iload_n 1, 1, 1, 0, 0) :: (8, .invokevirtual 133, 3, 133, 2, 0) :: (11, .istore 4, 2, 4, 0, 0) :: (13, .iload 4, 2, 4, 0, 0) :: (15, .ifCond .eq 6, 3, 21, 0, 0) :: (18, .iload 4, 2, 4, 0, 0) :: (20, .ireturn, 1, 0, 0, 0) :: px_c134_21
def px_c134_0 : List px_I := (0, .iload_n 2, 1, 2, 0, 0) :: (1, .ifCond .ne 5, 3, 6, 0, 0) :: (4, .iconst (-1), 1, 0, 0, (-1)) :: (5, .ireturn, 1, 0, 0, 0) :: px_c134_6
def px_c135_78 : List px_I := (78, .ireturn, 1, 0, 0, 0) :: []
def px_c135_76 : List px_I := (76, .iload 4, 2, 4, 0, 0) :: px_c135_78
def px_c135_34 : List px_I := (34, .aload_n 0, 1, 0, 0, 0) :: (35, .getfield 49, 3, 7, 7, 0) :: (38, .aload_n 0, 1, 0, 0, 0) :: (39, .getfield 10, 3, 7, 0, 0) :: (42, .iload_n 1, 1, 1, 0, 0) :: (43, .iload_n 2, 1, 2, 0, 0) :: (44, .invokevirtual 265, 3, 9, 4, 0) :: (47, .aload_n 0, 1, 0, 0, 0) :: (48, .getfield 49, 3, 7, 7, 0) :: (51, .aload_n 0, 1, 0, 0, 0) :: (52, .getfield 10, 3, 7, 0, 0) :: (55, .iload_n 3, 1, 3, 0, 0) :: (56, .invokevirtual 275, 3, 10, 3, 0) :: (59, .istore 4, 2, 4, 0, 0) :: (61, .iload 4, 2, 4, 0, 0) :: (63, .iconst (-1), 1, 0, 0, (-1)) :: (64, .if_icmp .ne 12, 3, 76, 0, 0) :: (67, .aload_n 0, 1, 0, 0, 0) :: (68, .bipush (-5), 2, 0, 0, (-5)) :: (70, .invokevirtual 73, 3, 130, 2, 0) :: (73, .goto 5, 3, 78, 0, 0) :: px_c135_76
def px_c135_20 : List px_I := (20, .iload_n 2, 1, 2, 0, 0) :: (21, .invokestatic 226, 3, 140, 1, 0) :: (24, .ifCond .ne 10, 3, 34, 0, 0) :: (27, .aload_n 0, 1, 0, 0, 0) :: (28, .bipush (-6), 2, 0, 0, (-6)) :: (30, .invokevirtual 73, 3, 130, 2, 0) :: (33, .ireturn, 1, 0, 0, 0) :: px_c135_34
def px_c135_0 : List px_I := (0, .aload_n 0, 1, 0, 0, 0) :: (1, .getfield 10, 3, 7, 0, 0) :: (4, .getfield 158, 3, 4, 1, 0) :: (7, .iload_n 1, 1, 1, 0, 0) :: (8, .invokevirtual 206, 3, 81, 2, 0) :: (11, .ifCond .ne 9, 3, 20, 0, 0) :: (14, .aload_n 0, 1, 0, 0, 0) :: (15, .iconst (-1), 1, 0, 0, (-1)) :: (16, .invokevirtual 73, 3, 130, 2, 0) :: (19, .ireturn, 1, 0, 0, 0) :: px_c135_20
def px_c136_0 : List px_I := (0, .aload_n 0, 1, 0, 0, 0) :: (1, .getfield 10, 3, 7, 0, 0) :: (4, .aload_n 0, 1, 0, 0, 0) :: (5, .getfield 10, 3, 7, 0, 0) :: (8, .aload_n 1, 1, 1, 0, 0) :: (9, .invokevirtual 139, 3, 57, 2, 0) :: (12, .aload_n 1, 1, 1, 0, 0) :: (13, .iload 4, 2, 4, 0, 0) :: (15, .invokevirtual 240, 3, 44, 2, 0) :: (18, .iload_n 2, 1, 2, 0, 0) :: (19, .iload_n 3, 1, 3, 0, 0) :: (20, .invokevirtual 301, 3, 64, 5, 0) :: (23, .istore 5, 2, 5, 0, 0) :: (25, .iload 5, 2, 5, 0, 0) :: (27, .aload_n 0, 1, 0, 0, 0) :: (28, .getfield 10, 3, 7, 0, 0) :: (31, .iload_n 2, 1, 2, 0, 0) :: (32, .iload 4, 2, 4, 0, 0) :: (34, .invokevirtual 304, 3, 68, 3, 0) :: (37, .iadd, 1, 0, 0, 0) :: (38, .ireturn, 1, 0, 0, 0) :: []
def px_c137_0 : List px_I := (0, .aload_n 0, 1, 0, 0, 0) :: (1, .getfield 42, 3, 7, 6, 0) :: (4, .aload_n 0, 1, 0, 0, 0) :: (5, .getfield 10, 3, 7, 0, 0) :: (8, .aload_n 0, 1, 0, 0, 0) :: (9, .getfield 10, 3, 7, 0, 0) :: (12, .aload_n 1, 1, 1, 0, 0) :: (13, .invokevirtual 139, 3, 57, 2, 0) :: (16, .aload_n 1, 1, 1, 0, 0) :: (17, .iload_n 3, 1, 3, 0, 0) :: (18, .invokevirtual 240, 3, 44, 2, 0) :: (21, .iload_n 2, 1, 2, 0, 0) :: (22, .invokevirtual 284, 3, 21, 5, 0) :: (25, .aload_n 0, 1, 0, 0, 0) :: (26, .getfield 42, 3, 7, 6, 0) :: (29, .aload_n 0, 1, 0, 0, 0) :: (30, .getfield 10, 3, 7, 0, 0) :: (33, .iload_n 3, 1, 3, 0, 0) :: (34, .invokevirtual 288, 3, 22, 3, 0) :: (37, .aload_n 0, 1, 0, 0, 0) :: (38, .getfield 42, 3, 7, 6, 0) :: (41, .aload_n 0, 1, 0, 0, 0) :: (42, .getfield 10, 3, 7, 0, 0) :: (45, .invokevirtual 307, 3, 23, 2, 0) :: (48, .ireturn, 1, 0, 0, 0) :: []
def px_c138_15 : List px_I := (15, .ireturn, 1, 0, 0, 0) :: []
def px_c138_14 : List px_I := (14, .iconst 0, 1, 0, 0, 0) :: px_c138_15
def px_c138_0 : List px_I := (0, .iload_n 0, 1, 0, 0, 0) :: (1, .ifCond .lt 13, 3, 14, 0, 0) :: (4, .iload_n 0, 1, 0, 0, 0) :: (5, .bipush 8, 2, 0, 0, 8) :: (7, .if_icmp .ge 7, 3, 14, 0, 0) :: (10, .iconst 1, 1, 0, 0, 1) :: (11, .goto 4, 3, 15, 0, 0) :: px_c138_14
def px_c139_15 : List px_I := (15, .ireturn, 1, 0, 0, 0) :: []
def px_c139_14 : List px_I := (14, .iconst 0, 1, 0, 0, 0) :: px_c139_15
def px_c139_0 : List px_I := (0, .iload_n 0, 1, 0, 0, 0) :: (1, .ifCond .lt 13, 3, 14, 0, 0) :: (4, .iload_n 0, 1, 0, 0, 0) :: (5, .bipush 120, 2, 0, 0, 120) :: (7, .if_icmp .ge 7, 3, 14, 0, 0) :: (10, .iconst 1, 1, 0, 0, 1) :: (11, .goto 4, 3, 15, 0, 0) :: px_c139_14
def px_c140_15 : List px_I := (15, .ireturn, 1, 0, 0, 0) :: []
def px_c140_14 : List px_I := (14, .iconst 0, 1, 0, 0, 0) :: px_c140_15
def px_c140_0 : List px_I := (0, .iload_n 0, 1, 0, 0, 0) :: (1, .ifCond .lt 13, 3, 14, 0, 0) :: (4, .iload_n 0, 1, 0, 0, 0) :: (5, .bipush 12, 2, 0, 0, 12) :: (7, .if_icmp .ge 7, 3, 14, 0, 0) :: (10, .iconst 1, 1, 0, 0, 1) :: (11, .goto 4, 3, 15, 0, 0) :: px_c140_14
def px_c141_15 : List px_I := (15, .ireturn, 1, 0, 0, 0) :: []
def px_c141_14 : List px_I := (14, .iconst 0, 1, 0, 0, 0) :: px_c141_15
def px_c141_0 : List px_I := (0, .iload_n 0, 1, 0, 0, 0) :: (1, .ifCond .lt 13, 3, 14, 0, 0) :: (4, .iload_n 0, 1, 0, 0, 0) :: (5, .bipush 12, 2, 0, 0, 12) :: (7, .if_icmp .ge 7, 3, 14, 0, 0) :: (10, .iconst 1, 1, 0, 0, 1) :: (11, .goto 4, 3, 15, 0, 0) :: px_c141_14
def px_c142_13 : List px_I := (13, .ireturn, 1, 0, 0, 0) :: []
def px_c142_12 : List px_I := (12, .iconst 0, 1, 0, 0, 0) :: px_c142_13
def px_c142_0 : List px_I := (0, .iload_n 0, 1, 0, 0, 0) :: (1, .iload_n 1, 1, 1, 0, 0) :: (2, .ishr, 1, 0, 0, 0) :: (3, .iconst 1, 1, 0, 0, 1) :: (4, .iand, 1, 0, 0, 0) :: (5, .ifCond .eq 7, 3, 12, 0, 0) :: (8, .iconst 1, 1, 0, 0, 1) :: (9, .goto 4, 3, 13, 0, 0) :: px_c142_12
def px_c143_0 : List px_I := (0, .iload_n 0, 1, 0, 0, 0) :: (1, .iconst 1, 1, 0, 0, 1) :: (2, .ishr, 1, 0, 0, 0) :: (3, .ireturn, 1, 0, 0, 0) :: []
def px_c144_0 : List px_I := (0, .iload_n 0, 1, 0, 0, 0) :: (1, .iconst 1, 1, 0, 0, 1) :: (2, .iand, 1, 0, 0, 0) :: (3, .ireturn, 1, 0, 0, 0) :: []
def px_c145_51 : List px_I := (51, .ireturn, 1, 0, 0, 0) :: []
def px_c145_50 : List px_I := (50, .iconst 0, 1, 0, 0, 0) :: px_c145_51
def px_c145_28 : List px_I := (28, .iload_n 2, 1, 2, 0, 0) :: (29, .getstatic 344, 3, 0, 0, 0) :: (32, .iload_n 3, 1, 3, 0, 0) :: (33, .iaload, 1, 0, 0, 0) :: (34, .if_icmp .lt 16, 3, 50, 0, 0) :: (37, .iload_n 2, 1, 2, 0, 0) :: (38, .getstatic 347, 3, 1, 0, 0) :: (41, .iload_n 3, 1, 3, 0, 0) :: (42, .iaload, 1, 0, 0, 0) :: (43, .if_icmp .gt 7, 3, 50, 0, 0) :: (46, .iconst 1, 1, 0, 0, 1) :: (47, .goto 4, 3, 51, 0, 0) :: px_c145_50
def px_c145_26 : List px_I := (26, .iconst 0, 1, 0, 0, 0) :: (27, .ireturn, 1, 0, 0, 0) :: px_c145_28
def px_c145_0 : List px_I := (0, .iload_n 0, 1, 0, 0, 0) :: (1, .iconst 4, 1, 0, 0, 4) :: (2, .imul, 1, 0, 0, 0) :: (3, .iload_n 1, 1, 1, 0, 0) :: (4, .iadd, 1, 0, 0, 0) :: (5, .istore_n 3, 1, 3, 0, 0) :: (6, .iload_n 3, 1, 3, 0, 0) :: (7, .ifCond .lt 19, 3, 26, 0, 0) :: (10, .iload_n 3, 1, 3, 0, 0) :: (11, .getstatic 344, 3, 0, 0, 0) :: (14, .arraylength, 1, 0, 0, 0) :: (15, .if_icmp .ge 11, 3, 26, 0, 0) :: (18, .iload_n 3, 1, 3, 0, 0) :: (19, .getstatic 347, 3, 1, 0, 0) :: (22, .arraylength, 1, 0, 0, 0) :: (23, .if_icmp .lt 5, 3, 28, 0, 0) :: px_c145_26
def px_c146_77 : List px_I := (77, .iconst 1, 1, 0, 0, 1) :: (78, .ireturn, 1, 0, 0, 0) :: []
def px_c146_76 : List px_I := (76, .ireturn, 1, 0, 0, 0) :: px_c146_77
def px_c146_75 : List px_I := (75, .iconst 0, 1, 0, 0, 0) :: px_c146_76
def px_c146_60 : List px_I := (60, .iload_n 1, 1, 1, 0, 0) :: (61, .ifCond .lt 14, 3, 75, 0, 0) :: (64, .iload_n 1, 1, 1, 0, 0) :: (65, .sipush 512, 3, 0, 0, 512) :: (68, .if_icmp .ge 7, 3, 75, 0, 0) :: (71, .iconst 1, 1, 0, 0, 1) :: (72, .goto 4, 3, 76, 0, 0) :: px_c146_75
def px_c146_55 : List px_I := (55, .iload_n 1, 1, 1, 0, 0) :: (56, .invokestatic 229, 3, 141, 1, 0) :: (59, .ireturn, 1, 0, 0, 0) :: px_c146_60
def px_c146_54 : List px_I := (54, .ireturn, 1, 0, 0, 0) :: px_c146_55
def px_c146_53 : List px_I := (53, .iconst 0, 1, 0, 0, 0) :: px_c146_54
def px_c146_49 : List px_I := (49, .iconst 1, 1, 0, 0, 1) :: (50, .goto 4, 3, 54, 0, 0) :: px_c146_53
def px_c146_40 : List px_I := (40, .iload_n 1, 1, 1, 0, 0) :: (41, .ifCond .eq 8, 3, 49, 0, 0) :: (44, .iload_n 1, 1, 1, 0, 0) :: (45, .iconst 1, 1, 0, 0, 1) :: (46, .if_icmp .ne 7, 3, 53, 0, 0) :: px_c146_49
def px_c146_0 : List px_I := (0, .iload_n 0, 1, 0, 0, 0) :: (1, .tableswitch 76 1 6 #[39, 76, 39, 54, 76, 59], 39, 0, 0, 0) :: px_c146_40
def px_c147_96 : List px_I := (96, .ldc_w 370, 3, 1010, 0, 0) :: (99, .areturn, 1, 0, 0, 0) :: []
def px_c147_92 : List px_I := (92, .ldc_w 368, 3, 1009, 0, 0) :: (95, .areturn, 1, 0, 0, 0) :: px_c147_96
def px_c147_88 : List px_I := (88, .ldc_w 366, 3, 1008, 0, 0) :: (91, .areturn, 1, 0, 0, 0) :: px_c147_92
def px_c147_84 : List px_I := (84, .ldc_w 364, 3, 1007, 0, 0) :: (87, .areturn, 1, 0, 0, 0) :: px_c147_88
def px_c147_80 : List px_I := (80, .ldc_w 362, 3, 1006, 0, 0) :: (83, .areturn, 1, 0, 0, 0) :: px_c147_84
def px_c147_76 : List px_I := (76, .ldc_w 360, 3, 1005, 0, 0) :: (79, .areturn, 1, 0, 0, 0) :: px_c147_80
def px_c147_72 : List px_I := (72, .ldc_w 358, 3, 1004, 0, 0) :: (75, .areturn, 1, 0, 0, 0) :: px_c147_76
def px_c147_68 : List px_I := (68, .ldc_w 356, 3, 1003, 0, 0) :: (71, .areturn, 1, 0, 0, 0) :: px_c147_72
def px_c147_64 : List px_I := (64, .ldc_w 354, 3, 1002, 0, 0) :: (67, .areturn, 1, 0, 0, 0) :: px_c147_68
def px_c147_60 : List px_I := (60, .ldc_w 352, 3, 1001, 0, 0) :: (63, .areturn, 1, 0, 0, 0) :: px_c147_64
def px_c147_56 : List px_I := (56, .ldc_w 350, 3, 1000, 0, 0) :: (59, .areturn, 1, 0, 0, 0) :: px_c147_60
def px_c147_0 : List px_I := (0, .iload_n 0, 1, 0, 0, 0) :: (1, .tableswitch 95 0 9 #[55, 59, 63, 67, 71, 75, 79, 83, 87, 91], 55, 0, 0, 0) :: px_c147_56
def px_c148_642 : List px_I := (642, .putfield 102, 3, 8, 42, 0) :: (645, .aload_n 0, 1, 0, 0, 0) :: (646, .sipush 180, 3, 0, 0, 180) :: (649, .newarray .int, 2, 100, 0, 0) :: (651, .putfield 105, 3, 8, 43, 0) :: (654, .aload_n 0, 1, 0, 0, 0) :: (655, .bipush 120, 2, 0, 0, 120) :: (657, .newarray .int, 2, 100, 0, 0) :: (659, .putfield 108, 3, 8, 44, 0) :: (662, .aload_n 0, 1, 0, 0, 0) :: (663, .sipush 1080, 3, 0, 0, 1080) :: (666, .newarray .int, 2, 100, 0, 0) :: (668, .putfield 111, 3, 8, 46, 0) :: (671, .aload_n 0, 1, 0, 0, 0) :: (672, .bipush 120, 2, 0, 0, 120) :: (674, .newarray .int, 2, 100, 0, 0) :: (676, .putfield 114, 3, 8, 47, 0) :: (679, .aload_n 0, 1, 0, 0, 0) :: (680, .bipush 20, 2, 0, 0, 20) :: (682, .newarray .int, 2, 100, 0, 0) :: (684, .putfield 117, 3, 8, 48, 0) :: (687, .aload_n 0, 1, 0, 0, 0) :: (688, .bipush 11, 2, 0, 0, 11) :: (690, .newarray .int, 2, 100, 0, 0) :: (692, .putfield 120, 3, 8, 50, 0) :: (695, .return_, 1, 0, 0, 0) :: []
def px_c148_567 : List px_I := (567, .bipush 110, 2, 0, 0, 110) :: (569, .iastore, 1, 0, 0, 0) :: (570, .dup, 1, 0, 0, 0) :: (571, .bipush 59, 2, 0, 0, 59) :: (573, .bipush 100, 2, 0, 0, 100) :: (575, .iastore, 1, 0, 0, 0) :: (576, .dup, 1, 0, 0, 0) :: (577, .bipush 60, 2, 0, 0, 60) :: (579, .bipush 111, 2, 0, 0, 111) :: (581, .iastore, 1, 0, 0, 0) :: (582, .dup, 1, 0, 0, 0) :: (583, .bipush 61, 2, 0, 0, 61) :: (585, .bipush 119, 2, 0, 0, 119) :: (587, .iastore, 1, 0, 0, 0) :: (588, .dup, 1, 0, 0, 0) :: (589, .bipush 62, 2, 0, 0, 62) :: (591, .bipush 32, 2, 0, 0, 32) :: (593, .iastore, 1, 0, 0, 0) :: (594, .dup, 1, 0, 0, 0) :: (595, .bipush 63, 2, 0, 0, 63) :: (597, .iconst 0, 1, 0, 0, 0) :: (598, .iastore, 1, 0, 0, 0) :: (599, .dup, 1, 0, 0, 0) :: (600, .bipush 64, 2, 0, 0, 64) :: (602, .bipush 115, 2, 0, 0, 115) :: (604, .iastore, 1, 0, 0, 0) :: (605, .dup, 1, 0, 0, 0) :: (606, .bipush 65, 2, 0, 0, 65) :: (608, .bipush 104, 2, 0, 0, 104) :: (610, .iastore, 1, 0, 0, 0) :: (611, .dup, 1, 0, 0, 0) :: (612, .bipush 66, 2, 0, 0, 66) :: (614, .bipush 111, 2, 0, 0, 111) :: (616, .iastore, 1, 0, 0, 0) :: (617, .dup, 1, 0, 0, 0) :: (618, .bipush 67, 2, 0, 0, 67) :: (620, .bipush 112, 2, 0, 0, 112) :: (622, .iastore, 1, 0, 0, 0) :: (623, .dup, 1, 0, 0, 0) :: (624, .bipush 68, 2, 0, 0, 68) :: (626, .bipush 32, 2, 0, 0, 32) :: (628, .iastore, 1, 0, 0, 0) :: (629, .dup, 1, 0, 0, 0) :: (630, .bipush 69, 2, 0, 0, 69) :: (632, .iconst 0, 1, 0, 0, 0) :: (633, .iastore, 1, 0, 0, 0) :: (634, .putfield 99, 3, 8, 36, 0) :: (637, .aload_n 0, 1, 0, 0, 0) :: (638, .bipush 11, 2, 0, 0, 11) :: (640, .newarray .int, 2, 100, 0, 0) :: px_c148_642
def px_c148_494 : List px_I := (494, .dup, 1, 0, 0, 0) :: (495, .bipush 46, 2, 0, 0, 46) :: (497, .bipush 108, 2, 0, 0, 108) :: (499, .iastore, 1, 0, 0, 0) :: (500, .dup, 1, 0, 0, 0) :: (501, .bipush 47, 2, 0, 0, 47) :: (503, .bipush 108, 2, 0, 0, 108) :: (505, .iastore, 1, 0, 0, 0) :: (506, .dup, 1, 0, 0, 0) :: (507, .bipush 48, 2, 0, 0, 48) :: (509, .bipush 32, 2, 0, 0, 32) :: (511, .iastore, 1, 0, 0, 0) :: (512, .dup, 1, 0, 0, 0) :: (513, .bipush 49, 2, 0, 0, 49) :: (515, .iconst 0, 1, 0, 0, 0) :: (516, .iastore, 1, 0, 0, 0) :: (517, .dup, 1, 0, 0, 0) :: (518, .bipush 50, 2, 0, 0, 50) :: (520, .bipush 112, 2, 0, 0, 112) :: (522, .iastore, 1, 0, 0, 0) :: (523, .dup, 1, 0, 0, 0) :: (524, .bipush 51, 2, 0, 0, 51) :: (526, .bipush 111, 2, 0, 0, 111) :: (528, .iastore, 1, 0, 0, 0) :: (529, .dup, 1, 0, 0, 0) :: (530, .bipush 52, 2, 0, 0, 52) :: (532, .bipush 111, 2, 0, 0, 111) :: (534, .iastore, 1, 0, 0, 0) :: (535, .dup, 1, 0, 0, 0) :: (536, .bipush 53, 2, 0, 0, 53) :: (538, .bipush 108, 2, 0, 0, 108) :: (540, .iastore, 1, 0, 0, 0) :: (541, .dup, 1, 0, 0, 0) :: (542, .bipush 54, 2, 0, 0, 54) :: (544, .bipush 32, 2, 0, 0, 32) :: (546, .iastore, 1, 0, 0, 0) :: (547, .dup, 1, 0, 0, 0) :: (548, .bipush 55, 2, 0, 0, 55) :: (550, .iconst 0, 1, 0, 0, 0) :: (551, .iastore, 1, 0, 0, 0) :: (552, .dup, 1, 0, 0, 0) :: (553, .bipush 56, 2, 0, 0, 56) :: (555, .bipush 119, 2, 0, 0, 119) :: (557, .iastore, 1, 0, 0, 0) :: (558, .dup, 1, 0, 0, 0) :: (559, .bipush 57, 2, 0, 0, 57) :: (561, .bipush 105, 2, 0, 0, 105) :: (563, .iastore, 1, 0, 0, 0) :: (564, .dup, 1, 0, 0, 0) :: (565, .bipush 58, 2, 0, 0, 58) :: px_c148_567
def px_c148_421 : List px_I := (421, .bipush 97, 2, 0, 0, 97) :: (423, .iastore, 1, 0, 0, 0) :: (424, .dup, 1, 0, 0, 0) :: (425, .bipush 34, 2, 0, 0, 34) :: (427, .bipush 99, 2, 0, 0, 99) :: (429, .iastore, 1, 0, 0, 0) :: (430, .dup, 1, 0, 0, 0) :: (431, .bipush 35, 2, 0, 0, 35) :: (433, .bipush 101, 2, 0, 0, 101) :: (435, .iastore, 1, 0, 0, 0) :: (436, .dup, 1, 0, 0, 0) :: (437, .bipush 36, 2, 0, 0, 36) :: (439, .bipush 32, 2, 0, 0, 32) :: (441, .iastore, 1, 0, 0, 0) :: (442, .dup, 1, 0, 0, 0) :: (443, .bipush 37, 2, 0, 0, 37) :: (445, .iconst 0, 1, 0, 0, 0) :: (446, .iastore, 1, 0, 0, 0) :: (447, .dup, 1, 0, 0, 0) :: (448, .bipush 38, 2, 0, 0, 38) :: (450, .bipush 116, 2, 0, 0, 116) :: (452, .iastore, 1, 0, 0, 0) :: (453, .dup, 1, 0, 0, 0) :: (454, .bipush 39, 2, 0, 0, 39) :: (456, .bipush 114, 2, 0, 0, 114) :: (458, .iastore, 1, 0, 0, 0) :: (459, .dup, 1, 0, 0, 0) :: (460, .bipush 40, 2, 0, 0, 40) :: (462, .bipush 101, 2, 0, 0, 101) :: (464, .iastore, 1, 0, 0, 0) :: (465, .dup, 1, 0, 0, 0) :: (466, .bipush 41, 2, 0, 0, 41) :: (468, .bipush 101, 2, 0, 0, 101) :: (470, .iastore, 1, 0, 0, 0) :: (471, .dup, 1, 0, 0, 0) :: (472, .bipush 42, 2, 0, 0, 42) :: (474, .bipush 32, 2, 0, 0, 32) :: (476, .iastore, 1, 0, 0, 0) :: (477, .dup, 1, 0, 0, 0) :: (478, .bipush 43, 2, 0, 0, 43) :: (480, .iconst 0, 1, 0, 0, 0) :: (481, .iastore, 1, 0, 0, 0) :: (482, .dup, 1, 0, 0, 0) :: (483, .bipush 44, 2, 0, 0, 44) :: (485, .bipush 119, 2, 0, 0, 119) :: (487, .iastore, 1, 0, 0, 0) :: (488, .dup, 1, 0, 0, 0) :: (489, .bipush 45, 2, 0, 0, 45) :: (491, .bipush 97, 2, 0, 0, 97) :: (493, .iastore, 1, 0, 0, 0) :: px_c148_494
def px_c148_348 : List px_I := (348, .dup, 1, 0, 0, 0) :: (349, .bipush 21, 2, 0, 0, 21) :: (351, .bipush 110, 2, 0, 0, 110) :: (353, .iastore, 1, 0, 0, 0) :: (354, .dup, 1, 0, 0, 0) :: (355, .bipush 22, 2, 0, 0, 22) :: (357, .bipush 103, 2, 0, 0, 103) :: (359, .iastore, 1, 0, 0, 0) :: (360, .dup, 1, 0, 0, 0) :: (361, .bipush 23, 2, 0, 0, 23) :: (363, .bipush 32, 2, 0, 0, 32) :: (365, .iastore, 1, 0, 0, 0) :: (366, .dup, 1, 0, 0, 0) :: (367, .bipush 24, 2, 0, 0, 24) :: (369, .iconst 0, 1, 0, 0, 0) :: (370, .iastore, 1, 0, 0, 0) :: (371, .dup, 1, 0, 0, 0) :: (372, .bipush 25, 2, 0, 0, 25) :: (374, .bipush 115, 2, 0, 0, 115) :: (376, .iastore, 1, 0, 0, 0) :: (377, .dup, 1, 0, 0, 0) :: (378, .bipush 26, 2, 0, 0, 26) :: (380, .bipush 111, 2, 0, 0, 111) :: (382, .iastore, 1, 0, 0, 0) :: (383, .dup, 1, 0, 0, 0) :: (384, .bipush 27, 2, 0, 0, 27) :: (386, .bipush 114, 2, 0, 0, 114) :: (388, .iastore, 1, 0, 0, 0) :: (389, .dup, 1, 0, 0, 0) :: (390, .bipush 28, 2, 0, 0, 28) :: (392, .bipush 116, 2, 0, 0, 116) :: (394, .iastore, 1, 0, 0, 0) :: (395, .dup, 1, 0, 0, 0) :: (396, .bipush 29, 2, 0, 0, 29) :: (398, .bipush 32, 2, 0, 0, 32) :: (400, .iastore, 1, 0, 0, 0) :: (401, .dup, 1, 0, 0, 0) :: (402, .bipush 30, 2, 0, 0, 30) :: (404, .iconst 0, 1, 0, 0, 0) :: (405, .iastore, 1, 0, 0, 0) :: (406, .dup, 1, 0, 0, 0) :: (407, .bipush 31, 2, 0, 0, 31) :: (409, .bipush 112, 2, 0, 0, 112) :: (411, .iastore, 1, 0, 0, 0) :: (412, .dup, 1, 0, 0, 0) :: (413, .bipush 32, 2, 0, 0, 32) :: (415, .bipush 108, 2, 0, 0, 108) :: (417, .iastore, 1, 0, 0, 0) :: (418, .dup, 1, 0, 0, 0) :: (419, .bipush 33, 2, 0, 0, 33) :: px_c148_421
def px_c148_275 : List px_I := (275, .bipush 118, 2, 0, 0, 118) :: (277, .iastore, 1, 0, 0, 0) :: (278, .dup, 1, 0, 0, 0) :: (279, .bipush 9, 2, 0, 0, 9) :: (281, .bipush 101, 2, 0, 0, 101) :: (283, .iastore, 1, 0, 0, 0) :: (284, .dup, 1, 0, 0, 0) :: (285, .bipush 10, 2, 0, 0, 10) :: (287, .bipush 110, 2, 0, 0, 110) :: (289, .iastore, 1, 0, 0, 0) :: (290, .dup, 1, 0, 0, 0) :: (291, .bipush 11, 2, 0, 0, 11) :: (293, .bipush 32, 2, 0, 0, 32) :: (295, .iastore, 1, 0, 0, 0) :: (296, .dup, 1, 0, 0, 0) :: (297, .bipush 12, 2, 0, 0, 12) :: (299, .iconst 0, 1, 0, 0, 0) :: (300, .iastore, 1, 0, 0, 0) :: (301, .dup, 1, 0, 0, 0) :: (302, .bipush 13, 2, 0, 0, 13) :: (304, .bipush 119, 2, 0, 0, 119) :: (306, .iastore, 1, 0, 0, 0) :: (307, .dup, 1, 0, 0, 0) :: (308, .bipush 14, 2, 0, 0, 14) :: (310, .bipush 105, 2, 0, 0, 105) :: (312, .iastore, 1, 0, 0, 0) :: (313, .dup, 1, 0, 0, 0) :: (314, .bipush 15, 2, 0, 0, 15) :: (316, .bipush 100, 2, 0, 0, 100) :: (318, .iastore, 1, 0, 0, 0) :: (319, .dup, 1, 0, 0, 0) :: (320, .bipush 16, 2, 0, 0, 16) :: (322, .bipush 101, 2, 0, 0, 101) :: (324, .iastore, 1, 0, 0, 0) :: (325, .dup, 1, 0, 0, 0) :: (326, .bipush 17, 2, 0, 0, 17) :: (328, .bipush 32, 2, 0, 0, 32) :: (330, .iastore, 1, 0, 0, 0) :: (331, .dup, 1, 0, 0, 0) :: (332, .bipush 18, 2, 0, 0, 18) :: (334, .iconst 0, 1, 0, 0, 0) :: (335, .iastore, 1, 0, 0, 0) :: (336, .dup, 1, 0, 0, 0) :: (337, .bipush 19, 2, 0, 0, 19) :: (339, .bipush 108, 2, 0, 0, 108) :: (341, .iastore, 1, 0, 0, 0) :: (342, .dup, 1, 0, 0, 0) :: (343, .bipush 20, 2, 0, 0, 20) :: (345, .bipush 111, 2, 0, 0, 111) :: (347, .iastore, 1, 0, 0, 0) :: px_c148_348
def px_c148_198 : List px_I := (198, .putfield 86, 3, 8, 32, 0) :: (201, .aload_n 0, 1, 0, 0, 0) :: (202, .bipush 8, 2, 0, 0, 8) :: (204, .newarray .int, 2, 100, 0, 0) :: (206, .putfield 89, 3, 8, 33, 0) :: (209, .aload_n 0, 1, 0, 0, 0) :: (210, .sipush 960, 3, 0, 0, 960) :: (213, .newarray .long, 2, 102, 0, 0) :: (215, .putfield 92, 3, 8, 34, 0) :: (218, .aload_n 0, 1, 0, 0, 0) :: (219, .bipush 120, 2, 0, 0, 120) :: (221, .newarray .long, 2, 102, 0, 0) :: (223, .putfield 96, 3, 8, 35, 0) :: (226, .aload_n 0, 1, 0, 0, 0) :: (227, .bipush 70, 2, 0, 0, 70) :: (229, .newarray .int, 2, 100, 0, 0) :: (231, .dup, 1, 0, 0, 0) :: (232, .iconst 0, 1, 0, 0, 0) :: (233, .bipush 108, 2, 0, 0, 108) :: (235, .iastore, 1, 0, 0, 0) :: (236, .dup, 1, 0, 0, 0) :: (237, .iconst 1, 1, 0, 0, 1) :: (238, .bipush 101, 2, 0, 0, 101) :: (240, .iastore, 1, 0, 0, 0) :: (241, .dup, 1, 0, 0, 0) :: (242, .iconst 2, 1, 0, 0, 2) :: (243, .bipush 97, 2, 0, 0, 97) :: (245, .iastore, 1, 0, 0, 0) :: (246, .dup, 1, 0, 0, 0) :: (247, .iconst 3, 1, 0, 0, 3) :: (248, .bipush 115, 2, 0, 0, 115) :: (250, .iastore, 1, 0, 0, 0) :: (251, .dup, 1, 0, 0, 0) :: (252, .iconst 4, 1, 0, 0, 4) :: (253, .bipush 116, 2, 0, 0, 116) :: (255, .iastore, 1, 0, 0, 0) :: (256, .dup, 1, 0, 0, 0) :: (257, .iconst 5, 1, 0, 0, 5) :: (258, .bipush 32, 2, 0, 0, 32) :: (260, .iastore, 1, 0, 0, 0) :: (261, .dup, 1, 0, 0, 0) :: (262, .bipush 6, 2, 0, 0, 6) :: (264, .iconst 0, 1, 0, 0, 0) :: (265, .iastore, 1, 0, 0, 0) :: (266, .dup, 1, 0, 0, 0) :: (267, .bipush 7, 2, 0, 0, 7) :: (269, .bipush 101, 2, 0, 0, 101) :: (271, .iastore, 1, 0, 0, 0) :: (272, .dup, 1, 0, 0, 0) :: (273, .bipush 8, 2, 0, 0, 8) :: px_c148_275
def px_c148_98 : List px_I := (98, .bipush 9, 2, 0, 0, 9) :: (100, .newarray .int, 2, 100, 0, 0) :: (102, .putfield 50, 3, 8, 20, 0) :: (105, .aload_n 0, 1, 0, 0, 0) :: (106, .bipush 12, 2, 0, 0, 12) :: (108, .newarray .int, 2, 100, 0, 0) :: (110, .putfield 53, 3, 8, 21, 0) :: (113, .aload_n 0, 1, 0, 0, 0) :: (114, .bipush 12, 2, 0, 0, 12) :: (116, .newarray .int, 2, 100, 0, 0) :: (118, .putfield 56, 3, 8, 22, 0) :: (121, .aload_n 0, 1, 0, 0, 0) :: (122, .bipush 12, 2, 0, 0, 12) :: (124, .newarray .int, 2, 100, 0, 0) :: (126, .putfield 59, 3, 8, 23, 0) :: (129, .aload_n 0, 1, 0, 0, 0) :: (130, .bipush 12, 2, 0, 0, 12) :: (132, .newarray .int, 2, 100, 0, 0) :: (134, .putfield 62, 3, 8, 24, 0) :: (137, .aload_n 0, 1, 0, 0, 0) :: (138, .bipush 8, 2, 0, 0, 8) :: (140, .newarray .int, 2, 100, 0, 0) :: (142, .putfield 65, 3, 8, 25, 0) :: (145, .aload_n 0, 1, 0, 0, 0) :: (146, .bipush 8, 2, 0, 0, 8) :: (148, .newarray .int, 2, 100, 0, 0) :: (150, .putfield 68, 3, 8, 26, 0) :: (153, .aload_n 0, 1, 0, 0, 0) :: (154, .bipush 8, 2, 0, 0, 8) :: (156, .newarray .int, 2, 100, 0, 0) :: (158, .putfield 71, 3, 8, 27, 0) :: (161, .aload_n 0, 1, 0, 0, 0) :: (162, .bipush 6, 2, 0, 0, 6) :: (164, .newarray .int, 2, 100, 0, 0) :: (166, .putfield 74, 3, 8, 28, 0) :: (169, .aload_n 0, 1, 0, 0, 0) :: (170, .bipush 8, 2, 0, 0, 8) :: (172, .newarray .int, 2, 100, 0, 0) :: (174, .putfield 77, 3, 8, 29, 0) :: (177, .aload_n 0, 1, 0, 0, 0) :: (178, .bipush 8, 2, 0, 0, 8) :: (180, .newarray .int, 2, 100, 0, 0) :: (182, .putfield 80, 3, 8, 30, 0) :: (185, .aload_n 0, 1, 0, 0, 0) :: (186, .bipush 8, 2, 0, 0, 8) :: (188, .newarray .int, 2, 100, 0, 0) :: (190, .putfield 83, 3, 8, 31, 0) :: (193, .aload_n 0, 1, 0, 0, 0) :: (194, .bipush 8, 2, 0, 0, 8) :: (196, .newarray .int, 2, 100, 0, 0) :: px_c148_198
def px_c148_0 : List px_I := (0, .aload_n 0, 1, 0, 0, 0) :: (1, .invokespecial 1, 3, 9000, 0, 0) :: (4, .aload_n 0, 1, 0, 0, 0) :: (5, .bipush 20, 2, 0, 0, 20) :: (7, .putfield 7, 3, 8, 7, 0) :: (10, .aload_n 0, 1, 0, 0, 0) :: (11, .bipush 8, 2, 0, 0, 8) :: (13, .putfield 13, 3, 8, 8, 0) :: (16, .aload_n 0, 1, 0, 0, 0) :: (17, .bipush 6, 2, 0, 0, 6) :: (19, .putfield 16, 3, 8, 9, 0) :: (22, .aload_n 0, 1, 0, 0, 0) :: (23, .bipush 40, 2, 0, 0, 40) :: (25, .putfield 19, 3, 8, 10, 0) :: (28, .aload_n 0, 1, 0, 0, 0) :: (29, .iconst (-1), 1, 0, 0, (-1)) :: (30, .putfield 22, 3, 8, 11, 0) :: (33, .aload_n 0, 1, 0, 0, 0) :: (34, .bipush 8, 2, 0, 0, 8) :: (36, .newarray .int, 2, 100, 0, 0) :: (38, .putfield 25, 3, 8, 12, 0) :: (41, .aload_n 0, 1, 0, 0, 0) :: (42, .bipush 6, 2, 0, 0, 6) :: (44, .newarray .int, 2, 100, 0, 0) :: (46, .putfield 29, 3, 8, 13, 0) :: (49, .aload_n 0, 1, 0, 0, 0) :: (50, .bipush 6, 2, 0, 0, 6) :: (52, .newarray .int, 2, 100, 0, 0) :: (54, .putfield 32, 3, 8, 14, 0) :: (57, .aload_n 0, 1, 0, 0, 0) :: (58, .bipush 6, 2, 0, 0, 6) :: (60, .newarray .int, 2, 100, 0, 0) :: (62, .putfield 35, 3, 8, 15, 0) :: (65, .aload_n 0, 1, 0, 0, 0) :: (66, .bipush 6, 2, 0, 0, 6) :: (68, .newarray .int, 2, 100, 0, 0) :: (70, .putfield 38, 3, 8, 16, 0) :: (73, .aload_n 0, 1, 0, 0, 0) :: (74, .bipush 9, 2, 0, 0, 9) :: (76, .newarray .int, 2, 100, 0, 0) :: (78, .putfield 41, 3, 8, 17, 0) :: (81, .aload_n 0, 1, 0, 0, 0) :: (82, .bipush 9, 2, 0, 0, 9) :: (84, .newarray .int, 2, 100, 0, 0) :: (86, .putfield 44, 3, 8, 18, 0) :: (89, .aload_n 0, 1, 0, 0, 0) :: (90, .bipush 9, 2, 0, 0, 9) :: (92, .newarray .int, 2, 100, 0, 0) :: (94, .putfield 47, 3, 8, 19, 0) :: (97, .aload_n 0, 1, 0, 0, 0) :: px_c148_98
def px_c149_0 : List px_I := (0, .aload_n 0, 1, 0, 0, 0) :: (1, .getfield 25, 3, 8, 12, 0) :: (4, .iload_n 1, 1, 1, 0, 0) :: (5, .ineg, 1, 0, 0, 0) :: (6, .dup2, 1, 0, 0, 0) :: (7, .iaload, 1, 0, 0, 0) :: (8, .iconst 1, 1, 0, 0, 1) :: (9, .iadd, 1, 0, 0, 0) :: (10, .iastore, 1, 0, 0, 0) :: (11, .iload_n 1, 1, 1, 0, 0) :: (12, .ireturn, 1, 0, 0, 0) :: []
def px_c150_0 : List px_I := (0, .aload_n 0, 1, 0, 0, 0) :: (1, .getfield 25, 3, 8, 12, 0) :: (4, .iload_n 1, 1, 1, 0, 0) :: (5, .ineg, 1, 0, 0, 0) :: (6, .dup2, 1, 0, 0, 0) :: (7, .iaload, 1, 0, 0, 0) :: (8, .iconst 1, 1, 0, 0, 1) :: (9, .iadd, 1, 0, 0, 0) :: (10, .iastore, 1, 0, 0, 0) :: (11, .iload_n 1, 1, 1, 0, 0) :: (12, .bipush 10, 2, 0, 0, 10) :: (14, .isub, 1, 0, 0, 0) :: (15, .ireturn, 1, 0, 0, 0) :: []
def px_c151_15 : List px_I := (15, .ireturn, 1, 0, 0, 0) :: []
def px_c151_14 : List px_I := (14, .iconst 0, 1, 0, 0, 0) :: px_c151_15
def px_c151_0 : List px_I := (0, .iload_n 1, 1, 1, 0, 0) :: (1, .ifCond .lt 13, 3, 14, 0, 0) :: (4, .iload_n 1, 1, 1, 0, 0) :: (5, .bipush 8, 2, 0, 0, 8) :: (7, .if_icmp .ge 7, 3, 14, 0, 0) :: (10, .iconst 1, 1, 0, 0, 1) :: (11, .goto 4, 3, 15, 0, 0) :: px_c151_14
def px_c152_15 : List px_I := (15, .ireturn, 1, 0, 0, 0) :: []
def px_c152_14 : List px_I := (14, .iconst 0, 1, 0, 0, 0) :: px_c152_15
def px_c152_0 : List px_I := (0, .iload_n 1, 1, 1, 0, 0) :: (1, .ifCond .lt 13, 3, 14, 0, 0) :: (4, .iload_n 1, 1, 1, 0, 0) :: (5, .bipush 120, 2, 0, 0, 120) :: (7, .if_icmp .ge 7, 3, 14, 0, 0) :: (10, .iconst 1, 1, 0, 0, 1) :: (11, .goto 4, 3, 15, 0, 0) :: px_c152_14
def px_c153_17 : List px_I := (17, .ireturn, 1, 0, 0, 0) :: []
def px_c153_16 : List px_I := (16, .iconst 0, 1, 0, 0, 0) :: px_c153_17
def px_c153_0 : List px_I := (0, .iload_n 1, 1, 1, 0, 0) :: (1, .ifCond .lt 15, 3, 16, 0, 0) :: (4, .iload_n 1, 1, 1, 0, 0) :: (5, .aload_n 0, 1, 0, 0, 0) :: (6, .getfield 123, 3, 8, 0, 0) :: (9, .if_icmp .ge 7, 3, 16, 0, 0) :: (12, .iconst 1, 1, 0, 0, 1) :: (13, .goto 4, 3, 17, 0, 0) :: px_c153_16
def px_c154_17 : List px_I := (17, .ireturn, 1, 0, 0, 0) :: []
def px_c154_16 : List px_I := (16, .iconst 0, 1, 0, 0, 0) :: px_c154_17
def px_c154_0 : List px_I := (0, .iload_n 1, 1, 1, 0, 0) :: (1, .ifCond .lt 15, 3, 16, 0, 0) :: (4, .iload_n 1, 1, 1, 0, 0) :: (5, .aload_n 0, 1, 0, 0, 0) :: (6, .getfield 126, 3, 8, 1, 0) :: (9, .if_icmp .ge 7, 3, 16, 0, 0) :: (12, .iconst 1, 1, 0, 0, 1) :: (13, .goto 4, 3, 17, 0, 0) :: px_c154_16
def px_c155_19 : List px_I := (19, .ireturn, 1, 0, 0, 0) :: []
def px_c155_18 : List px_I := (18, .iconst 0, 1, 0, 0, 0) :: px_c155_19
def px_c155_0 : List px_I := (0, .iload_n 1, 1, 1, 0, 0) :: (1, .ifCond .lt 17, 3, 18, 0, 0) :: (4, .iload_n 1, 1, 1, 0, 0) :: (5, .iconst 1, 1, 0, 0, 1) :: (6, .aload_n 0, 1, 0, 0, 0) :: (7, .getfield 126, 3, 8, 1, 0) :: (10, .ishl, 1, 0, 0, 0) :: (11, .if_icmp .ge 7, 3, 18, 0, 0) :: (14, .iconst 1, 1, 0, 0, 1) :: (15, .goto 4, 3, 19, 0, 0) :: px_c155_18
def px_c156_15 : List px_I := (15, .ireturn, 1, 0, 0, 0) :: []
def px_c156_14 : List px_I := (14, .iconst 0, 1, 0, 0, 0) :: px_c156_15
def px_c156_0 : List px_I := (0, .iload_n 1, 1, 1, 0, 0) :: (1, .ifCond .lt 13, 3, 14, 0, 0) :: (4, .iload_n 1, 1, 1, 0, 0) :: (5, .bipush 12, 2, 0, 0, 12) :: (7, .if_icmp .ge 7, 3, 14, 0, 0) :: (10, .iconst 1, 1, 0, 0, 1) :: (11, .goto 4, 3, 15, 0, 0) :: px_c156_14
def px_c157_104 : List px_I := (104, .iconst 1, 1, 0, 0, 1) :: (105, .ireturn, 1, 0, 0, 0) :: []
def px_c157_78 : List px_I := (78, .iload 4, 2, 4, 0, 0) :: (80, .bipush 120, 2, 0, 0, 120) :: (82, .if_icmp .ge 22, 3, 104, 0, 0) :: (85, .aload_n 0, 1, 0, 0, 0) :: (86, .getfield 92, 3, 8, 34, 0) :: (89, .bipush 120, 2, 0, 0, 120) :: (91, .iload_n 1, 1, 1, 0, 0) :: (92, .imul, 1, 0, 0, 0) :: (93, .iload 4, 2, 4, 0, 0) :: (95, .iadd, 1, 0, 0, 0) :: (96, .lconst 0, 1, 0, 0, 0) :: (97, .lastore, 1, 0, 0, 0) :: (98, .iinc 4 1, 3, 4, 0, 1) :: (101, .goto (-23), 3, 78, 0, 0) :: px_c157_104
def px_c157_54 : List px_I := (54, .aload_n 0, 1, 0, 0, 0) :: (55, .getfield 77, 3, 8, 29, 0) :: (58, .iload_n 1, 1, 1, 0, 0) :: (59, .iconst 1, 1, 0, 0, 1) :: (60, .iastore, 1, 0, 0, 0) :: (61, .aload_n 0, 1, 0, 0, 0) :: (62, .getfield 80, 3, 8, 30, 0) :: (65, .iload_n 1, 1, 1, 0, 0) :: (66, .iload_n 2, 1, 2, 0, 0) :: (67, .iastore, 1, 0, 0, 0) :: (68, .aload_n 0, 1, 0, 0, 0) :: (69, .getfield 83, 3, 8, 31, 0) :: (72, .iload_n 1, 1, 1, 0, 0) :: (73, .iload_n 3, 1, 3, 0, 0) :: (74, .iastore, 1, 0, 0, 0) :: (75, .iconst 0, 1, 0, 0, 0) :: (76, .istore 4, 2, 4, 0, 0) :: px_c157_78
def px_c157_41 : List px_I := (41, .iload_n 3, 1, 3, 0, 0) :: (42, .bipush 120, 2, 0, 0, 120) :: (44, .if_icmp .le 10, 3, 54, 0, 0) :: (47, .aload_n 0, 1, 0, 0, 0) :: (48, .bipush (-7), 2, 0, 0, (-7)) :: (50, .invokevirtual 133, 3, 149, 2, 0) :: (53, .ireturn, 1, 0, 0, 0) :: px_c157_54
def px_c157_34 : List px_I := (34, .aload_n 0, 1, 0, 0, 0) :: (35, .bipush (-6), 2, 0, 0, (-6)) :: (37, .invokevirtual 133, 3, 149, 2, 0) :: (40, .ireturn, 1, 0, 0, 0) :: px_c157_41
def px_c157_25 : List px_I := (25, .iload_n 2, 1, 2, 0, 0) :: (26, .ifCond .lt 8, 3, 34, 0, 0) :: (29, .iload_n 2, 1, 2, 0, 0) :: (30, .iconst 3, 1, 0, 0, 3) :: (31, .if_icmp .le 10, 3, 41, 0, 0) :: px_c157_34
def px_c157_14 : List px_I := (14, .iload_n 3, 1, 3, 0, 0) :: (15, .ifCond .ge 10, 3, 25, 0, 0) :: (18, .aload_n 0, 1, 0, 0, 0) :: (19, .bipush (-4), 2, 0, 0, (-4)) :: (21, .invokevirtual 133, 3, 149, 2, 0) :: (24, .ireturn, 1, 0, 0, 0) :: px_c157_25
def px_c157_0 : List px_I := (0, .aload_n 0, 1, 0, 0, 0) :: (1, .iload_n 1, 1, 1, 0, 0) :: (2, .invokevirtual 129, 3, 151, 2, 0) :: (5, .ifCond .ne 9, 3, 14, 0, 0) :: (8, .aload_n 0, 1, 0, 0, 0) :: (9, .iconst (-1), 1, 0, 0, (-1)) :: (10, .invokevirtual 133, 3, 149, 2, 0) :: (13, .ireturn, 1, 0, 0, 0) :: px_c157_14
def px_c158_128 : List px_I := (128, .lastore, 1, 0, 0, 0) :: (129, .iconst 1, 1, 0, 0, 1) :: (130, .ireturn, 1, 0, 0, 0) :: []
def px_c158_127 : List px_I := (127, .lload_n 3, 1, 3, 0, 0) :: px_c158_128
def px_c158_111 : List px_I := (111, .aload_n 0, 1, 0, 0, 0) :: (112, .getfield 80, 3, 8, 30, 0) :: (115, .iload_n 1, 1, 1, 0, 0) :: (116, .iaload, 1, 0, 0, 0) :: (117, .iconst 2, 1, 0, 0, 2) :: (118, .if_icmp .ne 9, 3, 127, 0, 0) :: (121, .lload_n 3, 1, 3, 0, 0) :: (122, .l2i, 1, 0, 0, 0) :: (123, .i2l, 1, 0, 0, 0) :: (124, .goto 4, 3, 128, 0, 0) :: px_c158_127
def px_c158_94 : List px_I := (94, .aload_n 0, 1, 0, 0, 0) :: (95, .getfield 80, 3, 8, 30, 0) :: (98, .iload_n 1, 1, 1, 0, 0) :: (99, .iaload, 1, 0, 0, 0) :: (100, .iconst 1, 1, 0, 0, 1) :: (101, .if_icmp .ne 10, 3, 111, 0, 0) :: (104, .lload_n 3, 1, 3, 0, 0) :: (105, .l2i, 1, 0, 0, 0) :: (106, .i2s, 1, 0, 0, 0) :: (107, .i2l, 1, 0, 0, 0) :: (108, .goto 20, 3, 128, 0, 0) :: px_c158_111
def px_c158_68 : List px_I := (68, .aload_n 0, 1, 0, 0, 0) :: (69, .getfield 92, 3, 8, 34, 0) :: (72, .bipush 120, 2, 0, 0, 120) :: (74, .iload_n 1, 1, 1, 0, 0) :: (75, .imul, 1, 0, 0, 0) :: (76, .iload_n 2, 1, 2, 0, 0) :: (77, .iadd, 1, 0, 0, 0) :: (78, .aload_n 0, 1, 0, 0, 0) :: (79, .getfield 80, 3, 8, 30, 0) :: (82, .iload_n 1, 1, 1, 0, 0) :: (83, .iaload, 1, 0, 0, 0) :: (84, .ifCond .ne 10, 3, 94, 0, 0) :: (87, .lload_n 3, 1, 3, 0, 0) :: (88, .l2i, 1, 0, 0, 0) :: (89, .i2b, 1, 0, 0, 0) :: (90, .i2l, 1, 0, 0, 0) :: (91, .goto 37, 3, 128, 0, 0) :: px_c158_94
def px_c158_61 : List px_I := (61, .aload_n 0, 1, 0, 0, 0) :: (62, .bipush (-5), 2, 0, 0, (-5)) :: (64, .invokevirtual 133, 3, 149, 2, 0) :: (67, .ireturn, 1, 0, 0, 0) :: px_c158_68
def px_c158_47 : List px_I := (47, .iload_n 2, 1, 2, 0, 0) :: (48, .ifCond .lt 13, 3, 61, 0, 0) :: (51, .iload_n 2, 1, 2, 0, 0) :: (52, .aload_n 0, 1, 0, 0, 0) :: (53, .getfield 83, 3, 8, 31, 0) :: (56, .iload_n 1, 1, 1, 0, 0) :: (57, .iaload, 1, 0, 0, 0) :: (58, .if_icmp .lt 10, 3, 68, 0, 0) :: px_c158_61
def px_c158_31 : List px_I := (31, .aload_n 0, 1, 0, 0, 0) :: (32, .getfield 77, 3, 8, 29, 0) :: (35, .iload_n 1, 1, 1, 0, 0) :: (36, .iaload, 1, 0, 0, 0) :: (37, .ifCond .ne 10, 3, 47, 0, 0) :: (40, .aload_n 0, 1, 0, 0, 0) :: (41, .bipush (-3), 2, 0, 0, (-3)) :: (43, .invokevirtual 133, 3, 149, 2, 0) :: (46, .ireturn, 1, 0, 0, 0) :: px_c158_47
def px_c158_14 : List px_I := (14, .aload_n 0, 1, 0, 0, 0) :: (15, .getfield 77, 3, 8, 29, 0) :: (18, .iload_n 1, 1, 1, 0, 0) :: (19, .iaload, 1, 0, 0, 0) :: (20, .iconst 2, 1, 0, 0, 2) :: (21, .if_icmp .ne 10, 3, 31, 0, 0) :: (24, .aload_n 0, 1, 0, 0, 0) :: (25, .bipush (-2), 2, 0, 0, (-2)) :: (27, .invokevirtual 133, 3, 149, 2, 0) :: (30, .ireturn, 1, 0, 0, 0) :: px_c158_31
def px_c158_0 : List px_I := (0, .aload_n 0, 1, 0, 0, 0) :: (1, .iload_n 1, 1, 1, 0, 0) :: (2, .invokevirtual 129, 3, 151, 2, 0) :: (5, .ifCond .ne 9, 3, 14, 0, 0) :: (8, .aload_n 0, 1, 0, 0, 0) :: (9, .iconst (-1), 1, 0, 0, (-1)) :: (10, .invokevirtual 133, 3, 149, 2, 0) :: (13, .ireturn, 1, 0, 0, 0) :: px_c158_14
def px_c159_239 : List px_I := (239, .iconst 1, 1, 0, 0, 1) :: (240, .ireturn, 1, 0, 0, 0) :: []
def px_c159_204 : List px_I := (204, .iload 6, 2, 6, 0, 0) :: (206, .iload 5, 2, 5, 0, 0) :: (208, .if_icmp .ge 31, 3, 239, 0, 0) :: (211, .aload_n 0, 1, 0, 0, 0) :: (212, .getfield 92, 3, 8, 34, 0) :: (215, .bipush 120, 2, 0, 0, 120) :: (217, .iload_n 2, 1, 2, 0, 0) :: (218, .imul, 1, 0, 0, 0) :: (219, .iload 4, 2, 4, 0, 0) :: (221, .iadd, 1, 0, 0, 0) :: (222, .iload 6, 2, 6, 0, 0) :: (224, .iadd, 1, 0, 0, 0) :: (225, .aload_n 0, 1, 0, 0, 0) :: (226, .getfield 96, 3, 8, 35, 0) :: (229, .iload 6, 2, 6, 0, 0) :: (231, .laload, 1, 0, 0, 0) :: (232, .lastore, 1, 0, 0, 0) :: (233, .iinc 6 1, 3, 6, 0, 1) :: (236, .goto (-32), 3, 204, 0, 0) :: px_c159_239
def px_c159_201 : List px_I := (201, .iconst 0, 1, 0, 0, 0) :: (202, .istore 6, 2, 6, 0, 0) :: px_c159_204
def px_c159_167 : List px_I := (167, .iload 6, 2, 6, 0, 0) :: (169, .iload 5, 2, 5, 0, 0) :: (171, .if_icmp .ge 30, 3, 201, 0, 0) :: (174, .aload_n 0, 1, 0, 0, 0) :: (175, .getfield 96, 3, 8, 35, 0) :: (178, .iload 6, 2, 6, 0, 0) :: (180, .aload_n 0, 1, 0, 0, 0) :: (181, .getfield 92, 3, 8, 34, 0) :: (184, .bipush 120, 2, 0, 0, 120) :: (186, .iload_n 1, 1, 1, 0, 0) :: (187, .imul, 1, 0, 0, 0) :: (188, .iload_n 3, 1, 3, 0, 0) :: (189, .iadd, 1, 0, 0, 0) :: (190, .iload 6, 2, 6, 0, 0) :: (192, .iadd, 1, 0, 0, 0) :: (193, .laload, 1, 0, 0, 0) :: (194, .lastore, 1, 0, 0, 0) :: (195, .iinc 6 1, 3, 6, 0, 1) :: (198, .goto (-31), 3, 167, 0, 0) :: px_c159_201
def px_c159_164 : List px_I := (164, .iconst 0, 1, 0, 0, 0) :: (165, .istore 6, 2, 6, 0, 0) :: px_c159_167
def px_c159_157 : List px_I := (157, .aload_n 0, 1, 0, 0, 0) :: (158, .bipush (-5), 2, 0, 0, (-5)) :: (160, .invokevirtual 133, 3, 149, 2, 0) :: (163, .ireturn, 1, 0, 0, 0) :: px_c159_164
def px_c159_121 : List px_I := (121, .iload_n 3, 1, 3, 0, 0) :: (122, .ifCond .lt 35, 3, 157, 0, 0) :: (125, .iload 4, 2, 4, 0, 0) :: (127, .ifCond .lt 30, 3, 157, 0, 0) :: (130, .iload_n 3, 1, 3, 0, 0) :: (131, .aload_n 0, 1, 0, 0, 0) :: (132, .getfield 83, 3, 8, 31, 0) :: (135, .iload_n 1, 1, 1, 0, 0) :: (136, .iaload, 1, 0, 0, 0) :: (137, .iload 5, 2, 5, 0, 0) :: (139, .isub, 1, 0, 0, 0) :: (140, .if_icmp .gt 17, 3, 157, 0, 0) :: (143, .iload 4, 2, 4, 0, 0) :: (145, .aload_n 0, 1, 0, 0, 0) :: (146, .getfield 83, 3, 8, 31, 0) :: (149, .iload_n 2, 1, 2, 0, 0) :: (150, .iaload, 1, 0, 0, 0) :: (151, .iload 5, 2, 5, 0, 0) :: (153, .isub, 1, 0, 0, 0) :: (154, .if_icmp .le 10, 3, 164, 0, 0) :: px_c159_157
def px_c159_109 : List px_I := (109, .iload 5, 2, 5, 0, 0) :: (111, .ifCond .ge 10, 3, 121, 0, 0) :: (114, .aload_n 0, 1, 0, 0, 0) :: (115, .bipush (-4), 2, 0, 0, (-4)) :: (117, .invokevirtual 133, 3, 149, 2, 0) :: (120, .ireturn, 1, 0, 0, 0) :: px_c159_121
def px_c159_102 : List px_I := (102, .aload_n 0, 1, 0, 0, 0) :: (103, .bipush (-3), 2, 0, 0, (-3)) :: (105, .invokevirtual 133, 3, 149, 2, 0) :: (108, .ireturn, 1, 0, 0, 0) :: px_c159_109
def px_c159_84 : List px_I := (84, .aload_n 0, 1, 0, 0, 0) :: (85, .getfield 77, 3, 8, 29, 0) :: (88, .iload_n 1, 1, 1, 0, 0) :: (89, .iaload, 1, 0, 0, 0) :: (90, .ifCond .eq 12, 3, 102, 0, 0) :: (93, .aload_n 0, 1, 0, 0, 0) :: (94, .getfield 77, 3, 8, 29, 0) :: (97, .iload_n 2, 1, 2, 0, 0) :: (98, .iaload, 1, 0, 0, 0) :: (99, .ifCond .ne 10, 3, 109, 0, 0) :: px_c159_102
def px_c159_77 : List px_I := (77, .aload_n 0, 1, 0, 0, 0) :: (78, .bipush (-2), 2, 0, 0, (-2)) :: (80, .invokevirtual 133, 3, 149, 2, 0) :: (83, .ireturn, 1, 0, 0, 0) :: px_c159_84
def px_c159_22 : List px_I := (22, .aload_n 0, 1, 0, 0, 0) :: (23, .getfield 77, 3, 8, 29, 0) :: (26, .iload_n 1, 1, 1, 0, 0) :: (27, .iaload, 1, 0, 0, 0) :: (28, .iconst 2, 1, 0, 0, 2) :: (29, .if_icmp .eq 48, 3, 77, 0, 0) :: (32, .aload_n 0, 1, 0, 0, 0) :: (33, .getfield 77, 3, 8, 29, 0) :: (36, .iload_n 2, 1, 2, 0, 0) :: (37, .iaload, 1, 0, 0, 0) :: (38, .iconst 2, 1, 0, 0, 2) :: (39, .if_icmp .eq 38, 3, 77, 0, 0) :: (42, .aload_n 0, 1, 0, 0, 0) :: (43, .getfield 77, 3, 8, 29, 0) :: (46, .iload_n 1, 1, 1, 0, 0) :: (47, .iaload, 1, 0, 0, 0) :: (48, .iconst 1, 1, 0, 0, 1) :: (49, .if_icmp .ne 35, 3, 84, 0, 0) :: (52, .aload_n 0, 1, 0, 0, 0) :: (53, .getfield 77, 3, 8, 29, 0) :: (56, .iload_n 2, 1, 2, 0, 0) :: (57, .iaload, 1, 0, 0, 0) :: (58, .iconst 1, 1, 0, 0, 1) :: (59, .if_icmp .ne 25, 3, 84, 0, 0) :: (62, .aload_n 0, 1, 0, 0, 0) :: (63, .getfield 80, 3, 8, 30, 0) :: (66, .iload_n 1, 1, 1, 0, 0) :: (67, .iaload, 1, 0, 0, 0) :: (68, .aload_n 0, 1, 0, 0, 0) :: (69, .getfield 80, 3, 8, 30, 0) :: (72, .iload_n 2, 1, 2, 0, 0) :: (73, .iaload, 1, 0, 0, 0) :: (74, .if_icmp .eq 10, 3, 84, 0, 0) :: px_c159_77
def px_c159_16 : List px_I := (16, .aload_n 0, 1, 0, 0, 0) :: (17, .iconst (-1), 1, 0, 0, (-1)) :: (18, .invokevirtual 133, 3, 149, 2, 0) :: (21, .ireturn, 1, 0, 0, 0) :: px_c159_22
def px_c159_0 : List px_I := (0, .aload_n 0, 1, 0, 0, 0) :: (1, .iload_n 1, 1, 1, 0, 0) :: (2, .invokevirtual 129, 3, 151, 2, 0) :: (5, .ifCond .eq 11, 3, 16, 0, 0) :: (8, .aload_n 0, 1, 0, 0, 0) :: (9, .iload_n 2, 1, 2, 0, 0) :: (10, .invokevirtual 129, 3, 151, 2, 0) :: (13, .ifCond .ne 9, 3, 22, 0, 0) :: px_c159_16
def px_c160_47 : List px_I := (47, .lreturn, 1, 0, 0, 0) :: []
def px_c160_46 : List px_I := (46, .lconst 0, 1, 0, 0, 0) :: px_c160_47
def px_c160_0 : List px_I := (0, .aload_n 0, 1, 0, 0, 0) :: (1, .iload_n 1, 1, 1, 0, 0) :: (2, .invokevirtual 129, 3, 151, 2, 0) :: (5, .ifCond .eq 41, 3, 46, 0, 0) :: (8, .aload_n 0, 1, 0, 0, 0) :: (9, .getfield 77, 3, 8, 29, 0) :: (12, .iload_n 1, 1, 1, 0, 0) :: (13, .iaload, 1, 0, 0, 0) :: (14, .iconst 1, 1, 0, 0, 1) :: (15, .if_icmp .ne 31, 3, 46, 0, 0) :: (18, .iload_n 2, 1, 2, 0, 0) :: (19, .ifCond .lt 27, 3, 46, 0, 0) :: (22, .iload_n 2, 1, 2, 0, 0) :: (23, .aload_n 0, 1, 0, 0, 0) :: (24, .getfield 83, 3, 8, 31, 0) :: (27, .iload_n 1, 1, 1, 0, 0) :: (28, .iaload, 1, 0, 0, 0) :: (29, .if_icmp .ge 17, 3, 46, 0, 0) :: (32, .aload_n 0, 1, 0, 0, 0) :: (33, .getfield 92, 3, 8, 34, 0) :: (36, .bipush 120, 2, 0, 0, 120) :: (38, .iload_n 1, 1, 1, 0, 0) :: (39, .imul, 1, 0, 0, 0) :: (40, .iload_n 2, 1, 2, 0, 0) :: (41, .iadd, 1, 0, 0, 0) :: (42, .laload, 1, 0, 0, 0) :: (43, .goto 4, 3, 47, 0, 0) :: px_c160_46
def px_c161_171 : List px_I := (171, .iastore, 1, 0, 0, 0) :: (172, .iconst 1, 1, 0, 0, 1) :: (173, .ireturn, 1, 0, 0, 0) :: []
def px_c161_170 : List px_I := (170, .iconst 0, 1, 0, 0, 0) :: px_c161_171
def px_c161_152 : List px_I := (152, .iastore, 1, 0, 0, 0) :: (153, .aload_n 0, 1, 0, 0, 0) :: (154, .getfield 83, 3, 8, 31, 0) :: (157, .iload_n 1, 1, 1, 0, 0) :: (158, .iload_n 2, 1, 2, 0, 0) :: (159, .iconst 5, 1, 0, 0, 5) :: (160, .if_icmp .ne 10, 3, 170, 0, 0) :: (163, .aload_n 0, 1, 0, 0, 0) :: (164, .invokevirtual 140, 3, 198, 1, 0) :: (167, .goto 4, 3, 171, 0, 0) :: px_c161_170
def px_c161_151 : List px_I := (151, .iconst 0, 1, 0, 0, 0) :: px_c161_152
def px_c161_147 : List px_I := (147, .iload_n 3, 1, 3, 0, 0) :: (148, .goto 4, 3, 152, 0, 0) :: px_c161_151
def px_c161_107 : List px_I := (107, .aload_n 0, 1, 0, 0, 0) :: (108, .getfield 77, 3, 8, 29, 0) :: (111, .iload_n 1, 1, 1, 0, 0) :: (112, .iconst 2, 1, 0, 0, 2) :: (113, .iastore, 1, 0, 0, 0) :: (114, .aload_n 0, 1, 0, 0, 0) :: (115, .getfield 86, 3, 8, 32, 0) :: (118, .iload_n 1, 1, 1, 0, 0) :: (119, .iload_n 2, 1, 2, 0, 0) :: (120, .iastore, 1, 0, 0, 0) :: (121, .aload_n 0, 1, 0, 0, 0) :: (122, .getfield 89, 3, 8, 33, 0) :: (125, .iload_n 1, 1, 1, 0, 0) :: (126, .iload_n 2, 1, 2, 0, 0) :: (127, .iconst 1, 1, 0, 0, 1) :: (128, .if_icmp .eq 19, 3, 147, 0, 0) :: (131, .iload_n 2, 1, 2, 0, 0) :: (132, .iconst 3, 1, 0, 0, 3) :: (133, .if_icmp .eq 14, 3, 147, 0, 0) :: (136, .iload_n 2, 1, 2, 0, 0) :: (137, .iconst 4, 1, 0, 0, 4) :: (138, .if_icmp .eq 9, 3, 147, 0, 0) :: (141, .iload_n 2, 1, 2, 0, 0) :: (142, .bipush 6, 2, 0, 0, 6) :: (144, .if_icmp .ne 7, 3, 151, 0, 0) :: px_c161_147
def px_c161_93 : List px_I := (93, .istore 4, 2, 4, 0, 0) :: (95, .iload 4, 2, 4, 0, 0) :: (97, .ifCond .eq 10, 3, 107, 0, 0) :: (100, .aload_n 0, 1, 0, 0, 0) :: (101, .bipush (-6), 2, 0, 0, (-6)) :: (103, .invokevirtual 133, 3, 149, 2, 0) :: (106, .ireturn, 1, 0, 0, 0) :: px_c161_107
def px_c161_92 : List px_I := (92, .iconst 0, 1, 0, 0, 0) :: px_c161_93
def px_c161_88 : List px_I := (88, .iconst 1, 1, 0, 0, 1) :: (89, .goto 4, 3, 93, 0, 0) :: px_c161_92
def px_c161_71 : List px_I := (71, .iload_n 2, 1, 2, 0, 0) :: (72, .bipush 6, 2, 0, 0, 6) :: (74, .if_icmp .ne 18, 3, 92, 0, 0) :: (77, .iload_n 3, 1, 3, 0, 0) :: (78, .ifCond .lt 10, 3, 88, 0, 0) :: (81, .iload_n 3, 1, 3, 0, 0) :: (82, .sipush 511, 3, 0, 0, 511) :: (85, .if_icmp .le 7, 3, 92, 0, 0) :: px_c161_88
def px_c161_58 : List px_I := (58, .iload_n 2, 1, 2, 0, 0) :: (59, .iconst 4, 1, 0, 0, 4) :: (60, .if_icmp .ne 11, 3, 71, 0, 0) :: (63, .aload_n 0, 1, 0, 0, 0) :: (64, .iload_n 3, 1, 3, 0, 0) :: (65, .invokevirtual 137, 3, 156, 2, 0) :: (68, .ifCond .eq 20, 3, 88, 0, 0) :: px_c161_71
def px_c161_49 : List px_I := (49, .iload_n 3, 1, 3, 0, 0) :: (50, .ifCond .lt 38, 3, 88, 0, 0) :: (53, .iload_n 3, 1, 3, 0, 0) :: (54, .iconst 1, 1, 0, 0, 1) :: (55, .if_icmp .gt 33, 3, 88, 0, 0) :: px_c161_58
def px_c161_39 : List px_I := (39, .iload_n 2, 1, 2, 0, 0) :: (40, .iconst 1, 1, 0, 0, 1) :: (41, .if_icmp .eq 8, 3, 49, 0, 0) :: (44, .iload_n 2, 1, 2, 0, 0) :: (45, .iconst 3, 1, 0, 0, 3) :: (46, .if_icmp .ne 12, 3, 58, 0, 0) :: px_c161_49
def px_c161_25 : List px_I := (25, .iload_n 2, 1, 2, 0, 0) :: (26, .iconst (-1), 1, 0, 0, (-1)) :: (27, .if_icmp .ne 12, 3, 39, 0, 0) :: (30, .aload_n 0, 1, 0, 0, 0) :: (31, .getfield 77, 3, 8, 29, 0) :: (34, .iload_n 1, 1, 1, 0, 0) :: (35, .iconst 0, 1, 0, 0, 0) :: (36, .iastore, 1, 0, 0, 0) :: (37, .iconst 0, 1, 0, 0, 0) :: (38, .ireturn, 1, 0, 0, 0) :: px_c161_39
def px_c161_19 : List px_I := (19, .aload_n 0, 1, 0, 0, 0) :: (20, .iconst (-1), 1, 0, 0, (-1)) :: (21, .invokevirtual 133, 3, 149, 2, 0) :: (24, .ireturn, 1, 0, 0, 0) :: px_c161_25
def px_c161_0 : List px_I := (0, .aload_n 0, 1, 0, 0, 0) :: (1, .iload_n 1, 1, 1, 0, 0) :: (2, .invokevirtual 129, 3, 151, 2, 0) :: (5, .ifCond .eq 14, 3, 19, 0, 0) :: (8, .iload_n 2, 1, 2, 0, 0) :: (9, .iconst (-1), 1, 0, 0, (-1)) :: (10, .if_icmp .lt 9, 3, 19, 0, 0) :: (13, .iload_n 2, 1, 2, 0, 0) :: (14, .bipush 6, 2, 0, 0, 6) :: (16, .if_icmp .le 9, 3, 25, 0, 0) :: px_c161_19
def px_c162_47 : List px_I := (47, .ireturn, 1, 0, 0, 0) :: []
def px_c162_41 : List px_I := (41, .aload_n 0, 1, 0, 0, 0) :: (42, .getfield 86, 3, 8, 32, 0) :: (45, .iload_n 1, 1, 1, 0, 0) :: (46, .iaload, 1, 0, 0, 0) :: px_c162_47
def px_c162_19 : List px_I := (19, .aload_n 0, 1, 0, 0, 0) :: (20, .getfield 77, 3, 8, 29, 0) :: (23, .iload_n 1, 1, 1, 0, 0) :: (24, .iaload, 1, 0, 0, 0) :: (25, .iconst 1, 1, 0, 0, 1) :: (26, .if_icmp .ne 15, 3, 41, 0, 0) :: (29, .bipush 100, 2, 0, 0, 100) :: (31, .aload_n 0, 1, 0, 0, 0) :: (32, .getfield 80, 3, 8, 30, 0) :: (35, .iload_n 1, 1, 1, 0, 0) :: (36, .iaload, 1, 0, 0, 0) :: (37, .iadd, 1, 0, 0, 0) :: (38, .goto 9, 3, 47, 0, 0) :: px_c162_41
def px_c162_17 : List px_I := (17, .iconst (-1), 1, 0, 0, (-1)) :: (18, .ireturn, 1, 0, 0, 0) :: px_c162_19
def px_c162_0 : List px_I := (0, .aload_n 0, 1, 0, 0, 0) :: (1, .iload_n 1, 1, 1, 0, 0) :: (2, .invokevirtual 129, 3, 151, 2, 0) :: (5, .ifCond .eq 12, 3, 17, 0, 0) :: (8, .aload_n 0, 1, 0, 0, 0) :: (9, .getfield 77, 3, 8, 29, 0) :: (12, .iload_n 1, 1, 1, 0, 0) :: (13, .iaload, 1, 0, 0, 0) :: (14, .ifCond .ne 5, 3, 19, 0, 0) :: px_c162_17
def px_c163_29 : List px_I := (29, .ireturn, 1, 0, 0, 0) :: []
def px_c163_28 : List px_I := (28, .iconst 0, 1, 0, 0, 0) :: px_c163_29
def px_c163_24 : List px_I := (24, .iconst 1, 1, 0, 0, 1) :: (25, .goto 4, 3, 29, 0, 0) :: px_c163_28
def px_c163_0 : List px_I := (0, .iload_n 2, 1, 2, 0, 0) :: (1, .ifCond .eq 23, 3, 24, 0, 0) :: (4, .iload_n 2, 1, 2, 0, 0) :: (5, .iload_n 1, 1, 1, 0, 0) :: (6, .if_icmp .eq 18, 3, 24, 0, 0) :: (9, .iload_n 2, 1, 2, 0, 0) :: (10, .iconst 2, 1, 0, 0, 2) :: (11, .if_icmp .ne 17, 3, 28, 0, 0) :: (14, .iload_n 1, 1, 1, 0, 0) :: (15, .iconst 3, 1, 0, 0, 3) :: (16, .if_icmp .eq 8, 3, 24, 0, 0) :: (19, .iload_n 1, 1, 1, 0, 0) :: (20, .iconst 5, 1, 0, 0, 5) :: (21, .if_icmp .ne 7, 3, 28, 0, 0) :: px_c163_24
def px_c164_138 : List px_I := (138, .ireturn, 1, 0, 0, 0) :: []
def px_c164_132 : List px_I := (132, .aload_n 0, 1, 0, 0, 0) :: (133, .getfield 89, 3, 8, 33, 0) :: (136, .iload_n 1, 1, 1, 0, 0) :: (137, .iaload, 1, 0, 0, 0) :: px_c164_138
def px_c164_118 : List px_I := (118, .iload_n 2, 1, 2, 0, 0) :: (119, .iconst 5, 1, 0, 0, 5) :: (120, .if_icmp .ne 12, 3, 132, 0, 0) :: (123, .aload_n 0, 1, 0, 0, 0) :: (124, .getfield 83, 3, 8, 31, 0) :: (127, .iload_n 1, 1, 1, 0, 0) :: (128, .iaload, 1, 0, 0, 0) :: (129, .goto 9, 3, 138, 0, 0) :: px_c164_132
def px_c164_111 : List px_I := (111, .iload_n 2, 1, 2, 0, 0) :: (112, .iconst 2, 1, 0, 0, 2) :: (113, .if_icmp .ne 5, 3, 118, 0, 0) :: (116, .iload_n 3, 1, 3, 0, 0) :: (117, .ireturn, 1, 0, 0, 0) :: px_c164_118
def px_c164_78 : List px_I := (78, .aload_n 0, 1, 0, 0, 0) :: (79, .aload_n 0, 1, 0, 0, 0) :: (80, .getfield 86, 3, 8, 32, 0) :: (83, .iload_n 1, 1, 1, 0, 0) :: (84, .iaload, 1, 0, 0, 0) :: (85, .aload_n 0, 1, 0, 0, 0) :: (86, .getfield 89, 3, 8, 33, 0) :: (89, .iload_n 1, 1, 1, 0, 0) :: (90, .iaload, 1, 0, 0, 0) :: (91, .aload_n 0, 1, 0, 0, 0) :: (92, .getfield 83, 3, 8, 31, 0) :: (95, .iload_n 1, 1, 1, 0, 0) :: (96, .iaload, 1, 0, 0, 0) :: (97, .invokevirtual 148, 3, 202, 4, 0) :: (100, .istore_n 3, 1, 3, 0, 0) :: (101, .iload_n 2, 1, 2, 0, 0) :: (102, .ifCond .ne 9, 3, 111, 0, 0) :: (105, .aload_n 0, 1, 0, 0, 0) :: (106, .iload_n 3, 1, 3, 0, 0) :: (107, .invokevirtual 152, 3, 165, 2, 0) :: (110, .ireturn, 1, 0, 0, 0) :: px_c164_111
def px_c164_57 : List px_I := (57, .aload_n 0, 1, 0, 0, 0) :: (58, .aload_n 0, 1, 0, 0, 0) :: (59, .getfield 86, 3, 8, 32, 0) :: (62, .iload_n 1, 1, 1, 0, 0) :: (63, .iaload, 1, 0, 0, 0) :: (64, .iload_n 2, 1, 2, 0, 0) :: (65, .invokevirtual 144, 3, 163, 3, 0) :: (68, .ifCond .ne 10, 3, 78, 0, 0) :: (71, .aload_n 0, 1, 0, 0, 0) :: (72, .bipush (-2), 2, 0, 0, (-2)) :: (74, .invokevirtual 133, 3, 149, 2, 0) :: (77, .ireturn, 1, 0, 0, 0) :: px_c164_78
def px_c164_41 : List px_I := (41, .aload_n 0, 1, 0, 0, 0) :: (42, .getfield 77, 3, 8, 29, 0) :: (45, .iload_n 1, 1, 1, 0, 0) :: (46, .iaload, 1, 0, 0, 0) :: (47, .ifCond .ne 10, 3, 57, 0, 0) :: (50, .aload_n 0, 1, 0, 0, 0) :: (51, .bipush (-3), 2, 0, 0, (-3)) :: (53, .invokevirtual 133, 3, 149, 2, 0) :: (56, .ireturn, 1, 0, 0, 0) :: px_c164_57
def px_c164_24 : List px_I := (24, .aload_n 0, 1, 0, 0, 0) :: (25, .getfield 77, 3, 8, 29, 0) :: (28, .iload_n 1, 1, 1, 0, 0) :: (29, .iaload, 1, 0, 0, 0) :: (30, .iconst 1, 1, 0, 0, 1) :: (31, .if_icmp .ne 10, 3, 41, 0, 0) :: (34, .aload_n 0, 1, 0, 0, 0) :: (35, .bipush (-2), 2, 0, 0, (-2)) :: (37, .invokevirtual 133, 3, 149, 2, 0) :: (40, .ireturn, 1, 0, 0, 0) :: px_c164_41
def px_c164_18 : List px_I := (18, .aload_n 0, 1, 0, 0, 0) :: (19, .iconst (-1), 1, 0, 0, (-1)) :: (20, .invokevirtual 133, 3, 149, 2, 0) :: (23, .ireturn, 1, 0, 0, 0) :: px_c164_24
def px_c164_0 : List px_I := (0, .aload_n 0, 1, 0, 0, 0) :: (1, .iload_n 1, 1, 1, 0, 0) :: (2, .invokevirtual 129, 3, 151, 2, 0) :: (5, .ifCond .eq 13, 3, 18, 0, 0) :: (8, .iload_n 2, 1, 2, 0, 0) :: (9, .ifCond .lt 9, 3, 18, 0, 0) :: (12, .iload_n 2, 1, 2, 0, 0) :: (13, .bipush 6, 2, 0, 0, 6) :: (15, .if_icmp .le 9, 3, 24, 0, 0) :: px_c164_18
def px_c165_20 : List px_I := (20, .iload_n 2, 1, 2, 0, 0) :: (21, .ireturn, 1, 0, 0, 0) :: []
def px_c165_4 : List px_I := (4, .iload_n 3, 1, 3, 0, 0) :: (5, .ifCond .eq 15, 3, 20, 0, 0) :: (8, .iinc 2 1, 3, 2, 0, 1) :: (11, .iload_n 3, 1, 3, 0, 0) :: (12, .iload_n 3, 1, 3, 0, 0) :: (13, .iconst 1, 1, 0, 0, 1) :: (14, .isub, 1, 0, 0, 0) :: (15, .iand, 1, 0, 0, 0) :: (16, .istore_n 3, 1, 3, 0, 0) :: (17, .goto (-13), 3, 4, 0, 0) :: px_c165_20
def px_c165_0 : List px_I := (0, .iconst 0, 1, 0, 0, 0) :: (1, .istore_n 2, 1, 2, 0, 0) :: (2, .iload_n 1, 1, 1, 0, 0) :: (3, .istore_n 3, 1, 3, 0, 0) :: px_c165_4
def px_c166_44 : List px_I := (44, .ireturn, 1, 0, 0, 0) :: []
def px_c166_43 : List px_I := (43, .iconst 0, 1, 0, 0, 0) :: px_c166_44
def px_c166_29 : List px_I := (29, .aload_n 0, 1, 0, 0, 0) :: (30, .getfield 77, 3, 8, 29, 0) :: (33, .iload_n 1, 1, 1, 0, 0) :: (34, .iaload, 1, 0, 0, 0) :: (35, .ifCond .ne 8, 3, 43, 0, 0) :: (38, .bipush (-3), 2, 0, 0, (-3)) :: (40, .goto 4, 3, 44, 0, 0) :: px_c166_43
def px_c166_12 : List px_I := (12, .aload_n 0, 1, 0, 0, 0) :: (13, .getfield 77, 3, 8, 29, 0) :: (16, .iload_n 1, 1, 1, 0, 0) :: (17, .iaload, 1, 0, 0, 0) :: (18, .iconst 3, 1, 0, 0, 3) :: (19, .iload_n 2, 1, 2, 0, 0) :: (20, .isub, 1, 0, 0, 0) :: (21, .if_icmp .ne 8, 3, 29, 0, 0) :: (24, .bipush (-2), 2, 0, 0, (-2)) :: (26, .goto 18, 3, 44, 0, 0) :: px_c166_29
def px_c166_0 : List px_I := (0, .aload_n 0, 1, 0, 0, 0) :: (1, .iload_n 1, 1, 1, 0, 0) :: (2, .invokevirtual 129, 3, 151, 2, 0) :: (5, .ifCond .ne 7, 3, 12, 0, 0) :: (8, .iconst (-1), 1, 0, 0, (-1)) :: (9, .goto 35, 3, 44, 0, 0) :: px_c166_12
def px_c167_0 : List px_I := (0, .aload_n 0, 1, 0, 0, 0) :: (1, .getfield 92, 3, 8, 34, 0) :: (4, .bipush 120, 2, 0, 0, 120) :: (6, .iload_n 1, 1, 1, 0, 0) :: (7, .imul, 1, 0, 0, 0) :: (8, .iload_n 2, 1, 2, 0, 0) :: (9, .iadd, 1, 0, 0, 0) :: (10, .laload, 1, 0, 0, 0) :: (11, .l2i, 1, 0, 0, 0) :: (12, .ireturn, 1, 0, 0, 0) :: []
def px_c168_50 : List px_I := (50, .ireturn, 1, 0, 0, 0) :: []
def px_c168_49 : List px_I := (49, .iconst 0, 1, 0, 0, 0) :: px_c168_50
def px_c168_0 : List px_I := (0, .iload_n 1, 1, 1, 0, 0) :: (1, .iconst 1, 1, 0, 0, 1) :: (2, .if_icmp .lt 47, 3, 49, 0, 0) :: (5, .iload_n 1, 1, 1, 0, 0) :: (6, .bipush 12, 2, 0, 0, 12) :: (8, .if_icmp .gt 41, 3, 49, 0, 0) :: (11, .iload_n 2, 1, 2, 0, 0) :: (12, .iconst 1, 1, 0, 0, 1) :: (13, .if_icmp .lt 36, 3, 49, 0, 0) :: (16, .iload_n 2, 1, 2, 0, 0) :: (17, .bipush 99, 2, 0, 0, 99) :: (19, .if_icmp .gt 30, 3, 49, 0, 0) :: (22, .iload_n 3, 1, 3, 0, 0) :: (23, .ifCond .lt 26, 3, 49, 0, 0) :: (26, .iload_n 3, 1, 3, 0, 0) :: (27, .bipush 99, 2, 0, 0, 99) :: (29, .if_icmp .gt 20, 3, 49, 0, 0) :: (32, .iload 4, 2, 4, 0, 0) :: (34, .iconst 1, 1, 0, 0, 1) :: (35, .if_icmp .lt 14, 3, 49, 0, 0) :: (38, .iload 4, 2, 4, 0, 0) :: (40, .bipush 99, 2, 0, 0, 99) :: (42, .if_icmp .gt 7, 3, 49, 0, 0) :: (45, .iconst 1, 1, 0, 0, 1) :: (46, .goto 4, 3, 50, 0, 0) :: px_c168_49
def px_c169_0 : List px_I := (0, .aload_n 0, 1, 0, 0, 0) :: (1, .getfield 29, 3, 8, 13, 0) :: (4, .aload_n 0, 1, 0, 0, 0) :: (5, .getfield 123, 3, 8, 0, 0) :: (8, .iload_n 1, 1, 1, 0, 0) :: (9, .iastore, 1, 0, 0, 0) :: (10, .aload_n 0, 1, 0, 0, 0) :: (11, .getfield 32, 3, 8, 14, 0) :: (14, .aload_n 0, 1, 0, 0, 0) :: (15, .getfield 123, 3, 8, 0, 0) :: (18, .iload_n 2, 1, 2, 0, 0) :: (19, .iastore, 1, 0, 0, 0) :: (20, .aload_n 0, 1, 0, 0, 0) :: (21, .getfield 35, 3, 8, 15, 0) :: (24, .aload_n 0, 1, 0, 0, 0) :: (25, .getfield 123, 3, 8, 0, 0) :: (28, .iload_n 3, 1, 3, 0, 0) :: (29, .iastore, 1, 0, 0, 0) :: (30, .aload_n 0, 1, 0, 0, 0) :: (31, .getfield 38, 3, 8, 16, 0) :: (34, .aload_n 0, 1, 0, 0, 0) :: (35, .getfield 123, 3, 8, 0, 0) :: (38, .iload 4, 2, 4, 0, 0) :: (40, .iastore, 1, 0, 0, 0) :: (41, .aload_n 0, 1, 0, 0, 0) :: (42, .dup, 1, 0, 0, 0) :: (43, .getfield 123, 3, 8, 0, 0) :: (46, .dup_x1, 1, 0, 0, 0) :: (47, .iconst 1, 1, 0, 0, 1) :: (48, .iadd, 1, 0, 0, 0) :: (49, .putfield 123, 3, 8, 0, 0) :: (52, .ireturn, 1, 0, 0, 0) :: []
def px_c170_46 : List px_I := (46, .ireturn, 1, 0, 0, 0) :: []
def px_c170_37 : List px_I := (37, .aload_n 0, 1, 0, 0, 0) :: (38, .iload_n 1, 1, 1, 0, 0) :: (39, .iload_n 2, 1, 2, 0, 0) :: (40, .iload_n 3, 1, 3, 0, 0) :: (41, .iload 4, 2, 4, 0, 0) :: (43, .invokevirtual 159, 3, 169, 5, 0) :: px_c170_46
def px_c170_19 : List px_I := (19, .aload_n 0, 1, 0, 0, 0) :: (20, .getfield 123, 3, 8, 0, 0) :: (23, .bipush 6, 2, 0, 0, 6) :: (25, .if_icmp .ne 12, 3, 37, 0, 0) :: (28, .aload_n 0, 1, 0, 0, 0) :: (29, .bipush (-7), 2, 0, 0, (-7)) :: (31, .invokevirtual 133, 3, 149, 2, 0) :: (34, .goto 12, 3, 46, 0, 0) :: px_c170_37
def px_c170_0 : List px_I := (0, .aload_n 0, 1, 0, 0, 0) :: (1, .iload_n 1, 1, 1, 0, 0) :: (2, .iload_n 2, 1, 2, 0, 0) :: (3, .iload_n 3, 1, 3, 0, 0) :: (4, .iload 4, 2, 4, 0, 0) :: (6, .invokevirtual 155, 3, 168, 5, 0) :: (9, .ifCond .ne 10, 3, 19, 0, 0) :: (12, .aload_n 0, 1, 0, 0, 0) :: (13, .bipush (-6), 2, 0, 0, (-6)) :: (15, .invokevirtual 133, 3, 149, 2, 0) :: (18, .ireturn, 1, 0, 0, 0) :: px_c170_19
def px_c171_0 : List px_I := (0, .aload_n 0, 1, 0, 0, 0) :: (1, .getfield 41, 3, 8, 17, 0) :: (4, .aload_n 0, 1, 0, 0, 0) :: (5, .getfield 126, 3, 8, 1, 0) :: (8, .iload_n 1, 1, 1, 0, 0) :: (9, .iastore, 1, 0, 0, 0) :: (10, .aload_n 0, 1, 0, 0, 0) :: (11, .getfield 44, 3, 8, 18, 0) :: (14, .aload_n 0, 1, 0, 0, 0) :: (15, .getfield 126, 3, 8, 1, 0) :: (18, .iload_n 2, 1, 2, 0, 0) :: (19, .iastore, 1, 0, 0, 0) :: (20, .aload_n 0, 1, 0, 0, 0) :: (21, .getfield 47, 3, 8, 19, 0) :: (24, .aload_n 0, 1, 0, 0, 0) :: (25, .getfield 126, 3, 8, 1, 0) :: (28, .iconst (-1), 1, 0, 0, (-1)) :: (29, .iastore, 1, 0, 0, 0) :: (30, .aload_n 0, 1, 0, 0, 0) :: (31, .getfield 50, 3, 8, 20, 0) :: (34, .aload_n 0, 1, 0, 0, 0) :: (35, .getfield 126, 3, 8, 1, 0) :: (38, .iconst 0, 1, 0, 0, 0) :: (39, .iastore, 1, 0, 0, 0) :: (40, .aload_n 0, 1, 0, 0, 0) :: (41, .dup, 1, 0, 0, 0) :: (42, .getfield 126, 3, 8, 1, 0) :: (45, .dup_x1, 1, 0, 0, 0) :: (46, .iconst 1, 1, 0, 0, 1) :: (47, .iadd, 1, 0, 0, 0) :: (48, .putfield 126, 3, 8, 1, 0) :: (51, .ireturn, 1, 0, 0, 0) :: []
def px_c172_55 : List px_I := (55, .ireturn, 1, 0, 0, 0) :: []
def px_c172_49 : List px_I := (49, .aload_n 0, 1, 0, 0, 0) :: (50, .iload_n 1, 1, 1, 0, 0) :: (51, .iload_n 2, 1, 2, 0, 0) :: (52, .invokevirtual 165, 3, 171, 3, 0) :: px_c172_55
def px_c172_31 : List px_I := (31, .aload_n 0, 1, 0, 0, 0) :: (32, .getfield 126, 3, 8, 1, 0) :: (35, .bipush 9, 2, 0, 0, 9) :: (37, .if_icmp .ne 12, 3, 49, 0, 0) :: (40, .aload_n 0, 1, 0, 0, 0) :: (41, .bipush (-7), 2, 0, 0, (-7)) :: (43, .invokevirtual 133, 3, 149, 2, 0) :: (46, .goto 9, 3, 55, 0, 0) :: px_c172_49
def px_c172_24 : List px_I := (24, .aload_n 0, 1, 0, 0, 0) :: (25, .bipush (-6), 2, 0, 0, (-6)) :: (27, .invokevirtual 133, 3, 149, 2, 0) :: (30, .ireturn, 1, 0, 0, 0) :: px_c172_31
def px_c172_14 : List px_I := (14, .iload_n 2, 1, 2, 0, 0) :: (15, .ifCond .lt 9, 3, 24, 0, 0) :: (18, .iload_n 2, 1, 2, 0, 0) :: (19, .bipush 99, 2, 0, 0, 99) :: (21, .if_icmp .le 10, 3, 31, 0, 0) :: px_c172_24
def px_c172_0 : List px_I := (0, .aload_n 0, 1, 0, 0, 0) :: (1, .iload_n 1, 1, 1, 0, 0) :: (2, .invokevirtual 162, 3, 152, 2, 0) :: (5, .ifCond .ne 9, 3, 14, 0, 0) :: (8, .aload_n 0, 1, 0, 0, 0) :: (9, .iconst (-1), 1, 0, 0, (-1)) :: (10, .invokevirtual 133, 3, 149, 2, 0) :: (13, .ireturn, 1, 0, 0, 0) :: px_c172_14
def px_c173_57 : List px_I := (57, .ireturn, 1, 0, 0, 0) :: []
def px_c173_56 : List px_I := (56, .iconst 0, 1, 0, 0, 0) :: px_c173_57
def px_c173_43 : List px_I := (43, .aload_n 0, 1, 0, 0, 0) :: (44, .getfield 174, 3, 8, 6, 0) :: (47, .bipush 6, 2, 0, 0, 6) :: (49, .if_icmp .ne 7, 3, 56, 0, 0) :: (52, .iconst 1, 1, 0, 0, 1) :: (53, .goto 4, 3, 57, 0, 0) :: px_c173_56
def px_c173_39 : List px_I := (39, .iconst 0, 1, 0, 0, 0) :: (40, .goto 17, 3, 57, 0, 0) :: px_c173_43
def px_c173_21 : List px_I := (21, .iload_n 1, 1, 1, 0, 0) :: (22, .iconst 1, 1, 0, 0, 1) :: (23, .if_icmp .ne 20, 3, 43, 0, 0) :: (26, .aload_n 0, 1, 0, 0, 0) :: (27, .getfield 171, 3, 8, 3, 0) :: (30, .bipush 12, 2, 0, 0, 12) :: (32, .if_icmp .ne 7, 3, 39, 0, 0) :: (35, .iconst 1, 1, 0, 0, 1) :: (36, .goto 21, 3, 57, 0, 0) :: px_c173_39
def px_c173_17 : List px_I := (17, .iconst 0, 1, 0, 0, 0) :: (18, .goto 39, 3, 57, 0, 0) :: px_c173_21
def px_c173_0 : List px_I := (0, .iload_n 1, 1, 1, 0, 0) :: (1, .ifCond .ne 20, 3, 21, 0, 0) :: (4, .aload_n 0, 1, 0, 0, 0) :: (5, .getfield 168, 3, 8, 2, 0) :: (8, .bipush 12, 2, 0, 0, 12) :: (10, .if_icmp .ne 7, 3, 17, 0, 0) :: (13, .iconst 1, 1, 0, 0, 1) :: (14, .goto 43, 3, 57, 0, 0) :: px_c173_17
def px_c174_93 : List px_I := (93, .ireturn, 1, 0, 0, 0) :: []
def px_c174_89 : List px_I := (89, .aload_n 0, 1, 0, 0, 0) :: (90, .getfield 174, 3, 8, 6, 0) :: px_c174_93
def px_c174_77 : List px_I := (77, .iload_n 1, 1, 1, 0, 0) :: (78, .iconst 1, 1, 0, 0, 1) :: (79, .if_icmp .ne 10, 3, 89, 0, 0) :: (82, .aload_n 0, 1, 0, 0, 0) :: (83, .getfield 171, 3, 8, 3, 0) :: (86, .goto 7, 3, 93, 0, 0) :: px_c174_89
def px_c174_66 : List px_I := (66, .iload_n 1, 1, 1, 0, 0) :: (67, .ifCond .ne 10, 3, 77, 0, 0) :: (70, .aload_n 0, 1, 0, 0, 0) :: (71, .getfield 168, 3, 8, 2, 0) :: (74, .goto 19, 3, 93, 0, 0) :: px_c174_77
def px_c174_49 : List px_I := (49, .aload_n 0, 1, 0, 0, 0) :: (50, .getfield 74, 3, 8, 28, 0) :: (53, .aload_n 0, 1, 0, 0, 0) :: (54, .dup, 1, 0, 0, 0) :: (55, .getfield 174, 3, 8, 6, 0) :: (58, .dup_x1, 1, 0, 0, 0) :: (59, .iconst 1, 1, 0, 0, 1) :: (60, .iadd, 1, 0, 0, 0) :: (61, .putfield 174, 3, 8, 6, 0) :: (64, .iload_n 2, 1, 2, 0, 0) :: (65, .iastore, 1, 0, 0, 0) :: px_c174_66
def px_c174_24 : List px_I := (24, .iload_n 1, 1, 1, 0, 0) :: (25, .iconst 1, 1, 0, 0, 1) :: (26, .if_icmp .ne 23, 3, 49, 0, 0) :: (29, .aload_n 0, 1, 0, 0, 0) :: (30, .getfield 56, 3, 8, 22, 0) :: (33, .aload_n 0, 1, 0, 0, 0) :: (34, .dup, 1, 0, 0, 0) :: (35, .getfield 171, 3, 8, 3, 0) :: (38, .dup_x1, 1, 0, 0, 0) :: (39, .iconst 1, 1, 0, 0, 1) :: (40, .iadd, 1, 0, 0, 0) :: (41, .putfield 171, 3, 8, 3, 0) :: (44, .iload_n 2, 1, 2, 0, 0) :: (45, .iastore, 1, 0, 0, 0) :: (46, .goto 20, 3, 66, 0, 0) :: px_c174_49
def px_c174_0 : List px_I := (0, .iload_n 1, 1, 1, 0, 0) :: (1, .ifCond .ne 23, 3, 24, 0, 0) :: (4, .aload_n 0, 1, 0, 0, 0) :: (5, .getfield 53, 3, 8, 21, 0) :: (8, .aload_n 0, 1, 0, 0, 0) :: (9, .dup, 1, 0, 0, 0) :: (10, .getfield 168, 3, 8, 2, 0) :: (13, .dup_x1, 1, 0, 0, 0) :: (14, .iconst 1, 1, 0, 0, 1) :: (15, .iadd, 1, 0, 0, 0) :: (16, .putfield 168, 3, 8, 2, 0) :: (19, .iload_n 2, 1, 2, 0, 0) :: (20, .iastore, 1, 0, 0, 0) :: (21, .goto 45, 3, 66, 0, 0) :: px_c174_24
def px_c175_46 : List px_I := (46, .ireturn, 1, 0, 0, 0) :: []
def px_c175_40 : List px_I := (40, .aload_n 0, 1, 0, 0, 0) :: (41, .iload_n 1, 1, 1, 0, 0) :: (42, .iload_n 2, 1, 2, 0, 0) :: (43, .invokevirtual 180, 3, 174, 3, 0) :: px_c175_46
def px_c175_23 : List px_I := (23, .aload_n 0, 1, 0, 0, 0) :: (24, .iload_n 1, 1, 1, 0, 0) :: (25, .invokevirtual 177, 3, 173, 2, 0) :: (28, .ifCond .eq 12, 3, 40, 0, 0) :: (31, .aload_n 0, 1, 0, 0, 0) :: (32, .bipush (-7), 2, 0, 0, (-7)) :: (34, .invokevirtual 133, 3, 149, 2, 0) :: (37, .goto 9, 3, 46, 0, 0) :: px_c175_40
def px_c175_17 : List px_I := (17, .aload_n 0, 1, 0, 0, 0) :: (18, .iconst (-1), 1, 0, 0, (-1)) :: (19, .invokevirtual 133, 3, 149, 2, 0) :: (22, .ireturn, 1, 0, 0, 0) :: px_c175_23
def px_c175_0 : List px_I := (0, .iload_n 1, 1, 1, 0, 0) :: (1, .ifCond .lt 16, 3, 17, 0, 0) :: (4, .iload_n 1, 1, 1, 0, 0) :: (5, .iconst 2, 1, 0, 0, 2) :: (6, .if_icmp .gt 11, 3, 17, 0, 0) :: (9, .aload_n 0, 1, 0, 0, 0) :: (10, .iload_n 2, 1, 2, 0, 0) :: (11, .invokevirtual 162, 3, 152, 2, 0) :: (14, .ifCond .ne 9, 3, 23, 0, 0) :: px_c175_17
def px_c176_0 : List px_I := (0, .aload_n 0, 1, 0, 0, 0) :: (1, .getfield 59, 3, 8, 23, 0) :: (4, .aload_n 0, 1, 0, 0, 0) :: (5, .getfield 183, 3, 8, 4, 0) :: (8, .iload_n 1, 1, 1, 0, 0) :: (9, .iastore, 1, 0, 0, 0) :: (10, .aload_n 0, 1, 0, 0, 0) :: (11, .getfield 62, 3, 8, 24, 0) :: (14, .aload_n 0, 1, 0, 0, 0) :: (15, .getfield 183, 3, 8, 4, 0) :: (18, .iload_n 2, 1, 2, 0, 0) :: (19, .iastore, 1, 0, 0, 0) :: (20, .aload_n 0, 1, 0, 0, 0) :: (21, .dup, 1, 0, 0, 0) :: (22, .getfield 183, 3, 8, 4, 0) :: (25, .iconst 1, 1, 0, 0, 1) :: (26, .iadd, 1, 0, 0, 0) :: (27, .dup_x1, 1, 0, 0, 0) :: (28, .putfield 183, 3, 8, 4, 0) :: (31, .ireturn, 1, 0, 0, 0) :: []
def px_c177_56 : List px_I := (56, .ireturn, 1, 0, 0, 0) :: []
def px_c177_50 : List px_I := (50, .aload_n 0, 1, 0, 0, 0) :: (51, .iload_n 1, 1, 1, 0, 0) :: (52, .iload_n 2, 1, 2, 0, 0) :: (53, .invokevirtual 186, 3, 176, 3, 0) :: px_c177_56
def px_c177_32 : List px_I := (32, .aload_n 0, 1, 0, 0, 0) :: (33, .getfield 183, 3, 8, 4, 0) :: (36, .bipush 12, 2, 0, 0, 12) :: (38, .if_icmp .ne 12, 3, 50, 0, 0) :: (41, .aload_n 0, 1, 0, 0, 0) :: (42, .bipush (-7), 2, 0, 0, (-7)) :: (44, .invokevirtual 133, 3, 149, 2, 0) :: (47, .goto 9, 3, 56, 0, 0) :: px_c177_50
def px_c177_25 : List px_I := (25, .aload_n 0, 1, 0, 0, 0) :: (26, .bipush (-6), 2, 0, 0, (-6)) :: (28, .invokevirtual 133, 3, 149, 2, 0) :: (31, .ireturn, 1, 0, 0, 0) :: px_c177_32
def px_c177_14 : List px_I := (14, .iload_n 2, 1, 2, 0, 0) :: (15, .ifCond .lt 10, 3, 25, 0, 0) :: (18, .iload_n 2, 1, 2, 0, 0) :: (19, .sipush 999, 3, 0, 0, 999) :: (22, .if_icmp .le 10, 3, 32, 0, 0) :: px_c177_25
def px_c177_0 : List px_I := (0, .aload_n 0, 1, 0, 0, 0) :: (1, .iload_n 1, 1, 1, 0, 0) :: (2, .invokevirtual 162, 3, 152, 2, 0) :: (5, .ifCond .ne 9, 3, 14, 0, 0) :: (8, .aload_n 0, 1, 0, 0, 0) :: (9, .iconst (-1), 1, 0, 0, (-1)) :: (10, .invokevirtual 133, 3, 149, 2, 0) :: (13, .ireturn, 1, 0, 0, 0) :: px_c177_14
def px_c178_0 : List px_I := (0, .aload_n 0, 1, 0, 0, 0) :: (1, .getfield 65, 3, 8, 25, 0) :: (4, .aload_n 0, 1, 0, 0, 0) :: (5, .getfield 188, 3, 8, 5, 0) :: (8, .iload_n 1, 1, 1, 0, 0) :: (9, .iastore, 1, 0, 0, 0) :: (10, .aload_n 0, 1, 0, 0, 0) :: (11, .getfield 68, 3, 8, 26, 0) :: (14, .aload_n 0, 1, 0, 0, 0) :: (15, .getfield 188, 3, 8, 5, 0) :: (18, .iload_n 2, 1, 2, 0, 0) :: (19, .iastore, 1, 0, 0, 0) :: (20, .aload_n 0, 1, 0, 0, 0) :: (21, .getfield 71, 3, 8, 27, 0) :: (24, .aload_n 0, 1, 0, 0, 0) :: (25, .getfield 188, 3, 8, 5, 0) :: (28, .iload_n 3, 1, 3, 0, 0) :: (29, .iastore, 1, 0, 0, 0) :: (30, .aload_n 0, 1, 0, 0, 0) :: (31, .dup, 1, 0, 0, 0) :: (32, .getfield 188, 3, 8, 5, 0) :: (35, .dup_x1, 1, 0, 0, 0) :: (36, .iconst 1, 1, 0, 0, 1) :: (37, .iadd, 1, 0, 0, 0) :: (38, .putfield 188, 3, 8, 5, 0) :: (41, .ireturn, 1, 0, 0, 0) :: []
def px_c179_66 : List px_I := (66, .ireturn, 1, 0, 0, 0) :: []
def px_c179_59 : List px_I := (59, .aload_n 0, 1, 0, 0, 0) :: (60, .iload_n 1, 1, 1, 0, 0) :: (61, .iload_n 2, 1, 2, 0, 0) :: (62, .iload_n 3, 1, 3, 0, 0) :: (63, .invokevirtual 191, 3, 178, 4, 0) :: px_c179_66
def px_c179_41 : List px_I := (41, .aload_n 0, 1, 0, 0, 0) :: (42, .getfield 188, 3, 8, 5, 0) :: (45, .bipush 8, 2, 0, 0, 8) :: (47, .if_icmp .ne 12, 3, 59, 0, 0) :: (50, .aload_n 0, 1, 0, 0, 0) :: (51, .bipush (-7), 2, 0, 0, (-7)) :: (53, .invokevirtual 133, 3, 149, 2, 0) :: (56, .goto 10, 3, 66, 0, 0) :: px_c179_59
def px_c179_34 : List px_I := (34, .aload_n 0, 1, 0, 0, 0) :: (35, .bipush (-6), 2, 0, 0, (-6)) :: (37, .invokevirtual 133, 3, 149, 2, 0) :: (40, .ireturn, 1, 0, 0, 0) :: px_c179_41
def px_c179_14 : List px_I := (14, .iload_n 2, 1, 2, 0, 0) :: (15, .iconst 1, 1, 0, 0, 1) :: (16, .if_icmp .lt 18, 3, 34, 0, 0) :: (19, .iload_n 2, 1, 2, 0, 0) :: (20, .sipush 999, 3, 0, 0, 999) :: (23, .if_icmp .gt 11, 3, 34, 0, 0) :: (26, .aload_n 0, 1, 0, 0, 0) :: (27, .iload_n 3, 1, 3, 0, 0) :: (28, .invokevirtual 137, 3, 156, 2, 0) :: (31, .ifCond .ne 10, 3, 41, 0, 0) :: px_c179_34
def px_c179_0 : List px_I := (0, .aload_n 0, 1, 0, 0, 0) :: (1, .iload_n 1, 1, 1, 0, 0) :: (2, .invokevirtual 162, 3, 152, 2, 0) :: (5, .ifCond .ne 9, 3, 14, 0, 0) :: (8, .aload_n 0, 1, 0, 0, 0) :: (9, .iconst (-1), 1, 0, 0, (-1)) :: (10, .invokevirtual 133, 3, 149, 2, 0) :: (13, .ireturn, 1, 0, 0, 0) :: px_c179_14
def px_c180_72 : List px_I := (72, .ireturn, 1, 0, 0, 0) :: []
def px_c180_71 : List px_I := (71, .iconst 0, 1, 0, 0, 0) :: px_c180_72
def px_c180_67 : List px_I := (67, .iconst 1, 1, 0, 0, 1) :: (68, .goto 4, 3, 72, 0, 0) :: px_c180_71
def px_c180_56 : List px_I := (56, .iload_n 1, 1, 1, 0, 0) :: (57, .iconst 3, 1, 0, 0, 3) :: (58, .if_icmp .ne 13, 3, 71, 0, 0) :: (61, .iload_n 2, 1, 2, 0, 0) :: (62, .bipush 60, 2, 0, 0, 60) :: (64, .if_icmp .gt 7, 3, 71, 0, 0) :: px_c180_67
def px_c180_42 : List px_I := (42, .iload_n 1, 1, 1, 0, 0) :: (43, .iconst 2, 1, 0, 0, 2) :: (44, .if_icmp .ne 12, 3, 56, 0, 0) :: (47, .iload_n 2, 1, 2, 0, 0) :: (48, .bipush 12, 2, 0, 0, 12) :: (50, .if_icmp .gt 21, 3, 71, 0, 0) :: (53, .goto 14, 3, 67, 0, 0) :: px_c180_56
def px_c180_23 : List px_I := (23, .iload_n 2, 1, 2, 0, 0) :: (24, .iconst 1, 1, 0, 0, 1) :: (25, .if_icmp .lt 46, 3, 71, 0, 0) :: (28, .iload_n 1, 1, 1, 0, 0) :: (29, .iconst 1, 1, 0, 0, 1) :: (30, .if_icmp .ne 12, 3, 42, 0, 0) :: (33, .iload_n 2, 1, 2, 0, 0) :: (34, .bipush 99, 2, 0, 0, 99) :: (36, .if_icmp .gt 35, 3, 71, 0, 0) :: (39, .goto 28, 3, 67, 0, 0) :: px_c180_42
def px_c180_19 : List px_I := (19, .iconst 0, 1, 0, 0, 0) :: (20, .goto 52, 3, 72, 0, 0) :: px_c180_23
def px_c180_0 : List px_I := (0, .iload_n 1, 1, 1, 0, 0) :: (1, .ifCond .ne 22, 3, 23, 0, 0) :: (4, .iload_n 2, 1, 2, 0, 0) :: (5, .ifCond .lt 14, 3, 19, 0, 0) :: (8, .iload_n 2, 1, 2, 0, 0) :: (9, .sipush 999, 3, 0, 0, 999) :: (12, .if_icmp .gt 7, 3, 19, 0, 0) :: (15, .iconst 1, 1, 0, 0, 1) :: (16, .goto 56, 3, 72, 0, 0) :: px_c180_19
def px_c181_83 : List px_I := (83, .iload_n 3, 1, 3, 0, 0) :: (84, .ireturn, 1, 0, 0, 0) :: []
def px_c181_78 : List px_I := (78, .aload_n 0, 1, 0, 0, 0) :: (79, .iload_n 2, 1, 2, 0, 0) :: (80, .putfield 19, 3, 8, 10, 0) :: px_c181_83
def px_c181_65 : List px_I := (65, .iload_n 1, 1, 1, 0, 0) :: (66, .iconst 2, 1, 0, 0, 2) :: (67, .if_icmp .ne 11, 3, 78, 0, 0) :: (70, .aload_n 0, 1, 0, 0, 0) :: (71, .iload_n 2, 1, 2, 0, 0) :: (72, .putfield 16, 3, 8, 9, 0) :: (75, .goto 8, 3, 83, 0, 0) :: px_c181_78
def px_c181_52 : List px_I := (52, .iload_n 1, 1, 1, 0, 0) :: (53, .iconst 1, 1, 0, 0, 1) :: (54, .if_icmp .ne 11, 3, 65, 0, 0) :: (57, .aload_n 0, 1, 0, 0, 0) :: (58, .iload_n 2, 1, 2, 0, 0) :: (59, .putfield 13, 3, 8, 8, 0) :: (62, .goto 21, 3, 83, 0, 0) :: px_c181_65
def px_c181_39 : List px_I := (39, .istore_n 3, 1, 3, 0, 0) :: (40, .iload_n 1, 1, 1, 0, 0) :: (41, .ifCond .ne 11, 3, 52, 0, 0) :: (44, .aload_n 0, 1, 0, 0, 0) :: (45, .iload_n 2, 1, 2, 0, 0) :: (46, .putfield 7, 3, 8, 7, 0) :: (49, .goto 34, 3, 83, 0, 0) :: px_c181_52
def px_c181_35 : List px_I := (35, .aload_n 0, 1, 0, 0, 0) :: (36, .getfield 19, 3, 8, 10, 0) :: px_c181_39
def px_c181_23 : List px_I := (23, .iload_n 1, 1, 1, 0, 0) :: (24, .iconst 2, 1, 0, 0, 2) :: (25, .if_icmp .ne 10, 3, 35, 0, 0) :: (28, .aload_n 0, 1, 0, 0, 0) :: (29, .getfield 16, 3, 8, 9, 0) :: (32, .goto 7, 3, 39, 0, 0) :: px_c181_35
def px_c181_11 : List px_I := (11, .iload_n 1, 1, 1, 0, 0) :: (12, .iconst 1, 1, 0, 0, 1) :: (13, .if_icmp .ne 10, 3, 23, 0, 0) :: (16, .aload_n 0, 1, 0, 0, 0) :: (17, .getfield 13, 3, 8, 8, 0) :: (20, .goto 19, 3, 39, 0, 0) :: px_c181_23
def px_c181_0 : List px_I := (0, .iload_n 1, 1, 1, 0, 0) :: (1, .ifCond .ne 10, 3, 11, 0, 0) :: (4, .aload_n 0, 1, 0, 0, 0) :: (5, .getfield 7, 3, 8, 7, 0) :: (8, .goto 31, 3, 39, 0, 0) :: px_c181_11
def px_c182_24 : List px_I := (24, .ireturn, 1, 0, 0, 0) :: []
def px_c182_18 : List px_I := (18, .aload_n 0, 1, 0, 0, 0) :: (19, .bipush (-6), 2, 0, 0, (-6)) :: (21, .invokevirtual 133, 3, 149, 2, 0) :: px_c182_24
def px_c182_0 : List px_I := (0, .aload_n 0, 1, 0, 0, 0) :: (1, .iload_n 1, 1, 1, 0, 0) :: (2, .iload_n 2, 1, 2, 0, 0) :: (3, .invokevirtual 193, 3, 180, 3, 0) :: (6, .ifCond .eq 12, 3, 18, 0, 0) :: (9, .aload_n 0, 1, 0, 0, 0) :: (10, .iload_n 1, 1, 1, 0, 0) :: (11, .iload_n 2, 1, 2, 0, 0) :: (12, .invokevirtual 196, 3, 181, 3, 0) :: (15, .goto 9, 3, 24, 0, 0) :: px_c182_18
def px_c183_0 : List px_I := (0, .aload_n 0, 1, 0, 0, 0) :: (1, .iload_n 1, 1, 1, 0, 0) :: (2, .putfield 199, 3, 8, 41, 0) :: (5, .iconst 0, 1, 0, 0, 0) :: (6, .ireturn, 1, 0, 0, 0) :: []
def px_c184_130 : List px_I := (130, .aload_n 0, 1, 0, 0, 0) :: (131, .iload_n 2, 1, 2, 0, 0) :: (132, .putfield 199, 3, 8, 41, 0) :: (135, .iconst (-1), 1, 0, 0, (-1)) :: (136, .ireturn, 1, 0, 0, 0) :: []
def px_c184_121 : List px_I := (121, .iinc 1 1, 3, 1, 0, 1) :: (124, .iinc 3 1, 3, 3, 0, 1) :: (127, .goto (-118), 3, 9, 0, 0) :: px_c184_130
def px_c184_106 : List px_I := (106, .aload_n 0, 1, 0, 0, 0) :: (107, .getfield 99, 3, 8, 36, 0) :: (110, .iload_n 1, 1, 1, 0, 0) :: (111, .iaload, 1, 0, 0, 0) :: (112, .ifCond .eq 9, 3, 121, 0, 0) :: (115, .iinc 1 1, 3, 1, 0, 1) :: (118, .goto (-12), 3, 106, 0, 0) :: px_c184_121
def px_c184_105 : List px_I := (105, .istore_n 2, 1, 2, 0, 0) :: px_c184_106
def px_c184_104 : List px_I := (104, .iload_n 2, 1, 2, 0, 0) :: px_c184_105
def px_c184_93 : List px_I := (93, .iload 4, 2, 4, 0, 0) :: (95, .iload_n 2, 1, 2, 0, 0) :: (96, .if_icmp .le 8, 3, 104, 0, 0) :: (99, .iload 4, 2, 4, 0, 0) :: (101, .goto 4, 3, 105, 0, 0) :: px_c184_104
def px_c184_75 : List px_I := (75, .aload_n 0, 1, 0, 0, 0) :: (76, .getfield 99, 3, 8, 36, 0) :: (79, .iload 5, 2, 5, 0, 0) :: (81, .iaload, 1, 0, 0, 0) :: (82, .ifCond .ne 11, 3, 93, 0, 0) :: (85, .aload_n 0, 1, 0, 0, 0) :: (86, .iload 4, 2, 4, 0, 0) :: (88, .putfield 202, 3, 8, 38, 0) :: (91, .iload_n 3, 1, 3, 0, 0) :: (92, .ireturn, 1, 0, 0, 0) :: px_c184_93
def px_c184_24 : List px_I := (24, .aload_n 0, 1, 0, 0, 0) :: (25, .getfield 99, 3, 8, 36, 0) :: (28, .iload 5, 2, 5, 0, 0) :: (30, .iaload, 1, 0, 0, 0) :: (31, .ifCond .eq 44, 3, 75, 0, 0) :: (34, .iload 4, 2, 4, 0, 0) :: (36, .aload_n 0, 1, 0, 0, 0) :: (37, .getfield 205, 3, 8, 39, 0) :: (40, .if_icmp .ge 35, 3, 75, 0, 0) :: (43, .aload_n 0, 1, 0, 0, 0) :: (44, .getfield 92, 3, 8, 34, 0) :: (47, .aload_n 0, 1, 0, 0, 0) :: (48, .getfield 208, 3, 8, 37, 0) :: (51, .iload 4, 2, 4, 0, 0) :: (53, .iadd, 1, 0, 0, 0) :: (54, .laload, 1, 0, 0, 0) :: (55, .l2i, 1, 0, 0, 0) :: (56, .aload_n 0, 1, 0, 0, 0) :: (57, .getfield 99, 3, 8, 36, 0) :: (60, .iload 5, 2, 5, 0, 0) :: (62, .iaload, 1, 0, 0, 0) :: (63, .if_icmp .ne 12, 3, 75, 0, 0) :: (66, .iinc 4 1, 3, 4, 0, 1) :: (69, .iinc 5 1, 3, 5, 0, 1) :: (72, .goto (-48), 3, 24, 0, 0) :: px_c184_75
def px_c184_9 : List px_I := (9, .iload_n 3, 1, 3, 0, 0) :: (10, .bipush 11, 2, 0, 0, 11) :: (12, .if_icmp .ge 118, 3, 130, 0, 0) :: (15, .aload_n 0, 1, 0, 0, 0) :: (16, .getfield 202, 3, 8, 38, 0) :: (19, .istore 4, 2, 4, 0, 0) :: (21, .iload_n 1, 1, 1, 0, 0) :: (22, .istore 5, 2, 5, 0, 0) :: px_c184_24
def px_c184_0 : List px_I := (0, .iconst 0, 1, 0, 0, 0) :: (1, .istore_n 1, 1, 1, 0, 0) :: (2, .aload_n 0, 1, 0, 0, 0) :: (3, .getfield 202, 3, 8, 38, 0) :: (6, .istore_n 2, 1, 2, 0, 0) :: (7, .iconst 0, 1, 0, 0, 0) :: (8, .istore_n 3, 1, 3, 0, 0) :: px_c184_9
def px_c185_56 : List px_I := (56, .ireturn, 1, 0, 0, 0) :: []
def px_c185_55 : List px_I := (55, .iconst 0, 1, 0, 0, 0) :: px_c185_56
def px_c185_0 : List px_I := (0, .aload_n 0, 1, 0, 0, 0) :: (1, .getfield 202, 3, 8, 38, 0) :: (4, .aload_n 0, 1, 0, 0, 0) :: (5, .getfield 205, 3, 8, 39, 0) :: (8, .if_icmp .ge 47, 3, 55, 0, 0) :: (11, .aload_n 0, 1, 0, 0, 0) :: (12, .getfield 92, 3, 8, 34, 0) :: (15, .aload_n 0, 1, 0, 0, 0) :: (16, .getfield 208, 3, 8, 37, 0) :: (19, .aload_n 0, 1, 0, 0, 0) :: (20, .getfield 202, 3, 8, 38, 0) :: (23, .iadd, 1, 0, 0, 0) :: (24, .laload, 1, 0, 0, 0) :: (25, .l2i, 1, 0, 0, 0) :: (26, .bipush 48, 2, 0, 0, 48) :: (28, .if_icmp .lt 27, 3, 55, 0, 0) :: (31, .aload_n 0, 1, 0, 0, 0) :: (32, .getfield 92, 3, 8, 34, 0) :: (35, .aload_n 0, 1, 0, 0, 0) :: (36, .getfield 208, 3, 8, 37, 0) :: (39, .aload_n 0, 1, 0, 0, 0) :: (40, .getfield 202, 3, 8, 38, 0) :: (43, .iadd, 1, 0, 0, 0) :: (44, .laload, 1, 0, 0, 0) :: (45, .l2i, 1, 0, 0, 0) :: (46, .bipush 57, 2, 0, 0, 57) :: (48, .if_icmp .gt 7, 3, 55, 0, 0) :: (51, .iconst 1, 1, 0, 0, 1) :: (52, .goto 4, 3, 56, 0, 0) :: px_c185_55
def px_c186_117 : List px_I := (117, .ireturn, 1, 0, 0, 0) :: []
def px_c186_116 : List px_I := (116, .iconst 0, 1, 0, 0, 0) :: px_c186_117
def px_c186_112 : List px_I := (112, .iconst 1, 1, 0, 0, 1) :: (113, .goto 4, 3, 117, 0, 0) :: px_c186_116
def px_c186_104 : List px_I := (104, .aload_n 0, 1, 0, 0, 0) :: (105, .iload_n 3, 1, 3, 0, 0) :: (106, .invokevirtual 218, 3, 183, 2, 0) :: (109, .ifCond .eq 7, 3, 116, 0, 0) :: px_c186_112
def px_c186_88 : List px_I := (88, .aload_n 0, 1, 0, 0, 0) :: (89, .getfield 211, 3, 8, 40, 0) :: (92, .iload_n 1, 1, 1, 0, 0) :: (93, .if_icmp .lt 11, 3, 104, 0, 0) :: (96, .aload_n 0, 1, 0, 0, 0) :: (97, .getfield 211, 3, 8, 40, 0) :: (100, .iload_n 2, 1, 2, 0, 0) :: (101, .if_icmp .le 11, 3, 112, 0, 0) :: px_c186_104
def px_c186_29 : List px_I := (29, .iload 4, 2, 4, 0, 0) :: (31, .iconst 3, 1, 0, 0, 3) :: (32, .if_icmp .ge 56, 3, 88, 0, 0) :: (35, .aload_n 0, 1, 0, 0, 0) :: (36, .invokevirtual 214, 3, 185, 1, 0) :: (39, .ifCond .eq 49, 3, 88, 0, 0) :: (42, .aload_n 0, 1, 0, 0, 0) :: (43, .bipush 10, 2, 0, 0, 10) :: (45, .aload_n 0, 1, 0, 0, 0) :: (46, .getfield 211, 3, 8, 40, 0) :: (49, .imul, 1, 0, 0, 0) :: (50, .aload_n 0, 1, 0, 0, 0) :: (51, .getfield 92, 3, 8, 34, 0) :: (54, .aload_n 0, 1, 0, 0, 0) :: (55, .getfield 208, 3, 8, 37, 0) :: (58, .aload_n 0, 1, 0, 0, 0) :: (59, .getfield 202, 3, 8, 38, 0) :: (62, .iadd, 1, 0, 0, 0) :: (63, .laload, 1, 0, 0, 0) :: (64, .l2i, 1, 0, 0, 0) :: (65, .iadd, 1, 0, 0, 0) :: (66, .bipush 48, 2, 0, 0, 48) :: (68, .isub, 1, 0, 0, 0) :: (69, .putfield 211, 3, 8, 40, 0) :: (72, .aload_n 0, 1, 0, 0, 0) :: (73, .dup, 1, 0, 0, 0) :: (74, .getfield 202, 3, 8, 38, 0) :: (77, .iconst 1, 1, 0, 0, 1) :: (78, .iadd, 1, 0, 0, 0) :: (79, .putfield 202, 3, 8, 38, 0) :: (82, .iinc 4 1, 3, 4, 0, 1) :: (85, .goto (-56), 3, 29, 0, 0) :: px_c186_88
def px_c186_26 : List px_I := (26, .iconst 0, 1, 0, 0, 0) :: (27, .istore 4, 2, 4, 0, 0) :: px_c186_29
def px_c186_0 : List px_I := (0, .aload_n 0, 1, 0, 0, 0) :: (1, .getfield 202, 3, 8, 38, 0) :: (4, .istore_n 3, 1, 3, 0, 0) :: (5, .aload_n 0, 1, 0, 0, 0) :: (6, .iconst 0, 1, 0, 0, 0) :: (7, .putfield 211, 3, 8, 40, 0) :: (10, .aload_n 0, 1, 0, 0, 0) :: (11, .invokevirtual 214, 3, 185, 1, 0) :: (14, .ifCond .ne 12, 3, 26, 0, 0) :: (17, .aload_n 0, 1, 0, 0, 0) :: (18, .aload_n 0, 1, 0, 0, 0) :: (19, .getfield 202, 3, 8, 38, 0) :: (22, .invokevirtual 218, 3, 183, 2, 0) :: (25, .ireturn, 1, 0, 0, 0) :: px_c186_26
def px_c187_40 : List px_I := (40, .aload_n 0, 1, 0, 0, 0) :: (41, .dup, 1, 0, 0, 0) :: (42, .getfield 202, 3, 8, 38, 0) :: (45, .iconst 1, 1, 0, 0, 1) :: (46, .iadd, 1, 0, 0, 0) :: (47, .putfield 202, 3, 8, 38, 0) :: (50, .aload_n 0, 1, 0, 0, 0) :: (51, .iload_n 1, 1, 1, 0, 0) :: (52, .iload_n 2, 1, 2, 0, 0) :: (53, .invokevirtual 221, 3, 186, 3, 0) :: (56, .ireturn, 1, 0, 0, 0) :: []
def px_c187_31 : List px_I := (31, .aload_n 0, 1, 0, 0, 0) :: (32, .aload_n 0, 1, 0, 0, 0) :: (33, .getfield 202, 3, 8, 38, 0) :: (36, .invokevirtual 218, 3, 183, 2, 0) :: (39, .ireturn, 1, 0, 0, 0) :: px_c187_40
def px_c187_0 : List px_I := (0, .aload_n 0, 1, 0, 0, 0) :: (1, .getfield 202, 3, 8, 38, 0) :: (4, .aload_n 0, 1, 0, 0, 0) :: (5, .getfield 205, 3, 8, 39, 0) :: (8, .if_icmp .ge 23, 3, 31, 0, 0) :: (11, .aload_n 0, 1, 0, 0, 0) :: (12, .getfield 92, 3, 8, 34, 0) :: (15, .aload_n 0, 1, 0, 0, 0) :: (16, .getfield 208, 3, 8, 37, 0) :: (19, .aload_n 0, 1, 0, 0, 0) :: (20, .getfield 202, 3, 8, 38, 0) :: (23, .iadd, 1, 0, 0, 0) :: (24, .laload, 1, 0, 0, 0) :: (25, .l2i, 1, 0, 0, 0) :: (26, .bipush 32, 2, 0, 0, 32) :: (28, .if_icmp .eq 12, 3, 40, 0, 0) :: px_c187_31
def px_c188_109 : List px_I := (109, .ireturn, 1, 0, 0, 0) :: []
def px_c188_108 : List px_I := (108, .iconst 0, 1, 0, 0, 0) :: px_c188_109
def px_c188_89 : List px_I := (89, .iload_n 1, 1, 1, 0, 0) :: (90, .bipush 10, 2, 0, 0, 10) :: (92, .if_icmp .ne 16, 3, 108, 0, 0) :: (95, .aload_n 0, 1, 0, 0, 0) :: (96, .getfield 188, 3, 8, 5, 0) :: (99, .bipush 8, 2, 0, 0, 8) :: (101, .if_icmp .ne 7, 3, 108, 0, 0) :: (104, .iconst 1, 1, 0, 0, 1) :: (105, .goto 4, 3, 109, 0, 0) :: px_c188_108
def px_c188_85 : List px_I := (85, .iconst 0, 1, 0, 0, 0) :: (86, .goto 23, 3, 109, 0, 0) :: px_c188_89
def px_c188_66 : List px_I := (66, .iload_n 1, 1, 1, 0, 0) :: (67, .bipush 9, 2, 0, 0, 9) :: (69, .if_icmp .ne 20, 3, 89, 0, 0) :: (72, .aload_n 0, 1, 0, 0, 0) :: (73, .getfield 183, 3, 8, 4, 0) :: (76, .bipush 12, 2, 0, 0, 12) :: (78, .if_icmp .ne 7, 3, 85, 0, 0) :: (81, .iconst 1, 1, 0, 0, 1) :: (82, .goto 27, 3, 109, 0, 0) :: px_c188_85
def px_c188_44 : List px_I := (44, .iload_n 1, 1, 1, 0, 0) :: (45, .iconst 5, 1, 0, 0, 5) :: (46, .if_icmp .le 20, 3, 66, 0, 0) :: (49, .iload_n 1, 1, 1, 0, 0) :: (50, .bipush 9, 2, 0, 0, 9) :: (52, .if_icmp .ge 14, 3, 66, 0, 0) :: (55, .aload_n 0, 1, 0, 0, 0) :: (56, .iload_n 1, 1, 1, 0, 0) :: (57, .bipush 6, 2, 0, 0, 6) :: (59, .isub, 1, 0, 0, 0) :: (60, .invokevirtual 177, 3, 173, 2, 0) :: (63, .goto 46, 3, 109, 0, 0) :: px_c188_66
def px_c188_40 : List px_I := (40, .iconst 0, 1, 0, 0, 0) :: (41, .goto 68, 3, 109, 0, 0) :: px_c188_44
def px_c188_22 : List px_I := (22, .iload_n 1, 1, 1, 0, 0) :: (23, .iconst 5, 1, 0, 0, 5) :: (24, .if_icmp .ne 20, 3, 44, 0, 0) :: (27, .aload_n 0, 1, 0, 0, 0) :: (28, .getfield 126, 3, 8, 1, 0) :: (31, .bipush 9, 2, 0, 0, 9) :: (33, .if_icmp .ne 7, 3, 40, 0, 0) :: (36, .iconst 1, 1, 0, 0, 1) :: (37, .goto 72, 3, 109, 0, 0) :: px_c188_40
def px_c188_18 : List px_I := (18, .iconst 0, 1, 0, 0, 0) :: (19, .goto 90, 3, 109, 0, 0) :: px_c188_22
def px_c188_0 : List px_I := (0, .iload_n 1, 1, 1, 0, 0) :: (1, .iconst 4, 1, 0, 0, 4) :: (2, .if_icmp .ne 20, 3, 22, 0, 0) :: (5, .aload_n 0, 1, 0, 0, 0) :: (6, .getfield 123, 3, 8, 0, 0) :: (9, .bipush 6, 2, 0, 0, 6) :: (11, .if_icmp .ne 7, 3, 18, 0, 0) :: (14, .iconst 1, 1, 0, 0, 1) :: (15, .goto 94, 3, 109, 0, 0) :: px_c188_18
def px_c189_102 : List px_I := (102, .ireturn, 1, 0, 0, 0) :: []
def px_c189_101 : List px_I := (101, .iconst 0, 1, 0, 0, 0) :: px_c189_102
def px_c189_86 : List px_I := (86, .aload_n 0, 1, 0, 0, 0) :: (87, .getfield 99, 3, 8, 36, 0) :: (90, .iload_n 2, 1, 2, 0, 0) :: (91, .iaload, 1, 0, 0, 0) :: (92, .bipush 32, 2, 0, 0, 32) :: (94, .if_icmp .gt 7, 3, 101, 0, 0) :: (97, .iconst 1, 1, 0, 0, 1) :: (98, .goto 4, 3, 102, 0, 0) :: px_c189_101
def px_c189_37 : List px_I := (37, .aload_n 0, 1, 0, 0, 0) :: (38, .getfield 99, 3, 8, 36, 0) :: (41, .iload_n 2, 1, 2, 0, 0) :: (42, .iaload, 1, 0, 0, 0) :: (43, .bipush 32, 2, 0, 0, 32) :: (45, .if_icmp .le 41, 3, 86, 0, 0) :: (48, .iload_n 3, 1, 3, 0, 0) :: (49, .aload_n 0, 1, 0, 0, 0) :: (50, .getfield 205, 3, 8, 39, 0) :: (53, .if_icmp .ge 33, 3, 86, 0, 0) :: (56, .aload_n 0, 1, 0, 0, 0) :: (57, .getfield 92, 3, 8, 34, 0) :: (60, .aload_n 0, 1, 0, 0, 0) :: (61, .getfield 208, 3, 8, 37, 0) :: (64, .iload_n 3, 1, 3, 0, 0) :: (65, .iadd, 1, 0, 0, 0) :: (66, .laload, 1, 0, 0, 0) :: (67, .l2i, 1, 0, 0, 0) :: (68, .aload_n 0, 1, 0, 0, 0) :: (69, .getfield 99, 3, 8, 36, 0) :: (72, .iload_n 2, 1, 2, 0, 0) :: (73, .iaload, 1, 0, 0, 0) :: (74, .if_icmp .ne 12, 3, 86, 0, 0) :: (77, .iinc 3 1, 3, 3, 0, 1) :: (80, .iinc 2 1, 3, 2, 0, 1) :: (83, .goto (-46), 3, 37, 0, 0) :: px_c189_86
def px_c189_32 : List px_I := (32, .aload_n 0, 1, 0, 0, 0) :: (33, .getfield 202, 3, 8, 38, 0) :: (36, .istore_n 3, 1, 3, 0, 0) :: px_c189_37
def px_c189_24 : List px_I := (24, .iadd, 1, 0, 0, 0) :: (25, .istore_n 3, 1, 3, 0, 0) :: (26, .iinc 2 1, 3, 2, 0, 1) :: (29, .goto (-25), 3, 4, 0, 0) :: px_c189_32
def px_c189_23 : List px_I := (23, .iconst 0, 1, 0, 0, 0) :: px_c189_24
def px_c189_4 : List px_I := (4, .iload_n 3, 1, 3, 0, 0) :: (5, .iload_n 1, 1, 1, 0, 0) :: (6, .if_icmp .ge 26, 3, 32, 0, 0) :: (9, .iload_n 3, 1, 3, 0, 0) :: (10, .aload_n 0, 1, 0, 0, 0) :: (11, .getfield 99, 3, 8, 36, 0) :: (14, .iload_n 2, 1, 2, 0, 0) :: (15, .iaload, 1, 0, 0, 0) :: (16, .ifCond .ne 7, 3, 23, 0, 0) :: (19, .iconst 1, 1, 0, 0, 1) :: (20, .goto 4, 3, 24, 0, 0) :: px_c189_23
def px_c189_0 : List px_I := (0, .iconst 0, 1, 0, 0, 0) :: (1, .istore_n 2, 1, 2, 0, 0) :: (2, .iconst 0, 1, 0, 0, 0) :: (3, .istore_n 3, 1, 3, 0, 0) :: px_c189_4
def px_c190_457 : List px_I := (457, .iconst 1, 1, 0, 0, 1) :: (458, .ireturn, 1, 0, 0, 0) :: []
def px_c190_442 : List px_I := (442, .aload_n 0, 1, 0, 0, 0) :: (443, .iload 4, 2, 4, 0, 0) :: (445, .iload 5, 2, 5, 0, 0) :: (447, .iload 6, 2, 6, 0, 0) :: (449, .aload_n 0, 1, 0, 0, 0) :: (450, .getfield 211, 3, 8, 40, 0) :: (453, .invokevirtual 159, 3, 169, 5, 0) :: (456, .pop, 1, 0, 0, 0) :: px_c190_457
def px_c190_424 : List px_I := (424, .aload_n 0, 1, 0, 0, 0) :: (425, .getfield 211, 3, 8, 40, 0) :: (428, .istore 6, 2, 6, 0, 0) :: (430, .aload_n 0, 1, 0, 0, 0) :: (431, .iconst 1, 1, 0, 0, 1) :: (432, .bipush 99, 2, 0, 0, 99) :: (434, .invokevirtual 233, 3, 187, 3, 0) :: (437, .ifCond .ne 5, 3, 442, 0, 0) :: (440, .iconst 0, 1, 0, 0, 0) :: (441, .ireturn, 1, 0, 0, 0) :: px_c190_442
def px_c190_412 : List px_I := (412, .aload_n 0, 1, 0, 0, 0) :: (413, .iconst 0, 1, 0, 0, 0) :: (414, .bipush 99, 2, 0, 0, 99) :: (416, .invokevirtual 233, 3, 187, 3, 0) :: (419, .ifCond .ne 5, 3, 424, 0, 0) :: (422, .iconst 0, 1, 0, 0, 0) :: (423, .ireturn, 1, 0, 0, 0) :: px_c190_424
def px_c190_396 : List px_I := (396, .aload_n 0, 1, 0, 0, 0) :: (397, .iload 4, 2, 4, 0, 0) :: (399, .iload 5, 2, 5, 0, 0) :: (401, .aload_n 0, 1, 0, 0, 0) :: (402, .getfield 211, 3, 8, 40, 0) :: (405, .invokevirtual 191, 3, 178, 4, 0) :: (408, .pop, 1, 0, 0, 0) :: (409, .goto 48, 3, 457, 0, 0) :: px_c190_412
def px_c190_378 : List px_I := (378, .iload_n 2, 1, 2, 0, 0) :: (379, .bipush 10, 2, 0, 0, 10) :: (381, .if_icmp .ne 31, 3, 412, 0, 0) :: (384, .aload_n 0, 1, 0, 0, 0) :: (385, .iconst 0, 1, 0, 0, 0) :: (386, .bipush 11, 2, 0, 0, 11) :: (388, .invokevirtual 233, 3, 187, 3, 0) :: (391, .ifCond .ne 5, 3, 396, 0, 0) :: (394, .iconst 0, 1, 0, 0, 0) :: (395, .ireturn, 1, 0, 0, 0) :: px_c190_396
def px_c190_360 : List px_I := (360, .iload_n 2, 1, 2, 0, 0) :: (361, .bipush 9, 2, 0, 0, 9) :: (363, .if_icmp .ne 15, 3, 378, 0, 0) :: (366, .aload_n 0, 1, 0, 0, 0) :: (367, .iload 4, 2, 4, 0, 0) :: (369, .iload 5, 2, 5, 0, 0) :: (371, .invokevirtual 186, 3, 176, 3, 0) :: (374, .pop, 1, 0, 0, 0) :: (375, .goto 82, 3, 457, 0, 0) :: px_c190_378
def px_c190_337 : List px_I := (337, .aload_n 0, 1, 0, 0, 0) :: (338, .getfield 211, 3, 8, 40, 0) :: (341, .istore 5, 2, 5, 0, 0) :: (343, .iload_n 2, 1, 2, 0, 0) :: (344, .iconst 5, 1, 0, 0, 5) :: (345, .if_icmp .ne 15, 3, 360, 0, 0) :: (348, .aload_n 0, 1, 0, 0, 0) :: (349, .iload 4, 2, 4, 0, 0) :: (351, .iload 5, 2, 5, 0, 0) :: (353, .invokevirtual 165, 3, 171, 3, 0) :: (356, .pop, 1, 0, 0, 0) :: (357, .goto 100, 3, 457, 0, 0) :: px_c190_360
def px_c190_329 : List px_I := (329, .invokevirtual 233, 3, 187, 3, 0) :: (332, .ifCond .ne 5, 3, 337, 0, 0) :: (335, .iconst 0, 1, 0, 0, 0) :: (336, .ireturn, 1, 0, 0, 0) :: px_c190_337
def px_c190_326 : List px_I := (326, .sipush 999, 3, 0, 0, 999) :: px_c190_329
def px_c190_321 : List px_I := (321, .bipush 99, 2, 0, 0, 99) :: (323, .goto 6, 3, 329, 0, 0) :: px_c190_326
def px_c190_311 : List px_I := (311, .iload_n 2, 1, 2, 0, 0) :: (312, .iconst 4, 1, 0, 0, 4) :: (313, .if_icmp .eq 8, 3, 321, 0, 0) :: (316, .iload_n 2, 1, 2, 0, 0) :: (317, .iconst 5, 1, 0, 0, 5) :: (318, .if_icmp .ne 8, 3, 326, 0, 0) :: px_c190_321
def px_c190_310 : List px_I := (310, .iconst 0, 1, 0, 0, 0) :: px_c190_311
def px_c190_306 : List px_I := (306, .iconst 1, 1, 0, 0, 1) :: (307, .goto 4, 3, 311, 0, 0) :: px_c190_310
def px_c190_294 : List px_I := (294, .aload_n 0, 1, 0, 0, 0) :: (295, .iload_n 2, 1, 2, 0, 0) :: (296, .iconst 4, 1, 0, 0, 4) :: (297, .if_icmp .eq 9, 3, 306, 0, 0) :: (300, .iload_n 2, 1, 2, 0, 0) :: (301, .bipush 10, 2, 0, 0, 10) :: (303, .if_icmp .ne 7, 3, 310, 0, 0) :: px_c190_306
def px_c190_263 : List px_I := (263, .aload_n 0, 1, 0, 0, 0) :: (264, .getfield 211, 3, 8, 40, 0) :: (267, .istore 4, 2, 4, 0, 0) :: (269, .iload_n 2, 1, 2, 0, 0) :: (270, .bipush 6, 2, 0, 0, 6) :: (272, .if_icmp .lt 22, 3, 294, 0, 0) :: (275, .iload_n 2, 1, 2, 0, 0) :: (276, .bipush 9, 2, 0, 0, 9) :: (278, .if_icmp .ge 16, 3, 294, 0, 0) :: (281, .aload_n 0, 1, 0, 0, 0) :: (282, .iload_n 2, 1, 2, 0, 0) :: (283, .bipush 6, 2, 0, 0, 6) :: (285, .isub, 1, 0, 0, 0) :: (286, .iload 4, 2, 4, 0, 0) :: (288, .invokevirtual 180, 3, 174, 3, 0) :: (291, .pop, 1, 0, 0, 0) :: (292, .iconst 1, 1, 0, 0, 1) :: (293, .ireturn, 1, 0, 0, 0) :: px_c190_294
def px_c190_255 : List px_I := (255, .invokevirtual 221, 3, 186, 3, 0) :: (258, .ifCond .ne 5, 3, 263, 0, 0) :: (261, .iconst 0, 1, 0, 0, 0) :: (262, .ireturn, 1, 0, 0, 0) :: px_c190_263
def px_c190_253 : List px_I := (253, .bipush 119, 2, 0, 0, 119) :: px_c190_255
def px_c190_243 : List px_I := (243, .iload_n 2, 1, 2, 0, 0) :: (244, .iconst 4, 1, 0, 0, 4) :: (245, .if_icmp .ne 8, 3, 253, 0, 0) :: (248, .bipush 12, 2, 0, 0, 12) :: (250, .goto 5, 3, 255, 0, 0) :: px_c190_253
def px_c190_242 : List px_I := (242, .iconst 0, 1, 0, 0, 0) :: px_c190_243
def px_c190_232 : List px_I := (232, .aload_n 0, 1, 0, 0, 0) :: (233, .iload_n 2, 1, 2, 0, 0) :: (234, .iconst 4, 1, 0, 0, 4) :: (235, .if_icmp .ne 7, 3, 242, 0, 0) :: (238, .iconst 1, 1, 0, 0, 1) :: (239, .goto 4, 3, 243, 0, 0) :: px_c190_242
def px_c190_221 : List px_I := (221, .istore_n 3, 1, 3, 0, 0) :: (222, .iload_n 3, 1, 3, 0, 0) :: (223, .ifCond .eq 9, 3, 232, 0, 0) :: (226, .aload_n 0, 1, 0, 0, 0) :: (227, .iload_n 1, 1, 1, 0, 0) :: (228, .invokevirtual 218, 3, 183, 2, 0) :: (231, .ireturn, 1, 0, 0, 0) :: px_c190_232
def px_c190_220 : List px_I := (220, .iconst 0, 1, 0, 0, 0) :: px_c190_221
def px_c190_207 : List px_I := (207, .aload_n 0, 1, 0, 0, 0) :: (208, .getfield 188, 3, 8, 5, 0) :: (211, .bipush 8, 2, 0, 0, 8) :: (213, .if_icmp .ne 7, 3, 220, 0, 0) :: (216, .iconst 1, 1, 0, 0, 1) :: (217, .goto 4, 3, 221, 0, 0) :: px_c190_220
def px_c190_203 : List px_I := (203, .iconst 0, 1, 0, 0, 0) :: (204, .goto 17, 3, 221, 0, 0) :: px_c190_207
def px_c190_184 : List px_I := (184, .iload_n 2, 1, 2, 0, 0) :: (185, .bipush 9, 2, 0, 0, 9) :: (187, .if_icmp .ne 20, 3, 207, 0, 0) :: (190, .aload_n 0, 1, 0, 0, 0) :: (191, .getfield 183, 3, 8, 4, 0) :: (194, .bipush 12, 2, 0, 0, 12) :: (196, .if_icmp .ne 7, 3, 203, 0, 0) :: (199, .iconst 1, 1, 0, 0, 1) :: (200, .goto 21, 3, 221, 0, 0) :: px_c190_203
def px_c190_167 : List px_I := (167, .iload_n 2, 1, 2, 0, 0) :: (168, .bipush 9, 2, 0, 0, 9) :: (170, .if_icmp .ge 14, 3, 184, 0, 0) :: (173, .aload_n 0, 1, 0, 0, 0) :: (174, .iload_n 2, 1, 2, 0, 0) :: (175, .bipush 6, 2, 0, 0, 6) :: (177, .isub, 1, 0, 0, 0) :: (178, .invokevirtual 177, 3, 173, 2, 0) :: (181, .goto 40, 3, 221, 0, 0) :: px_c190_184
def px_c190_163 : List px_I := (163, .iconst 0, 1, 0, 0, 0) :: (164, .goto 57, 3, 221, 0, 0) :: px_c190_167
def px_c190_145 : List px_I := (145, .iload_n 2, 1, 2, 0, 0) :: (146, .iconst 5, 1, 0, 0, 5) :: (147, .if_icmp .ne 20, 3, 167, 0, 0) :: (150, .aload_n 0, 1, 0, 0, 0) :: (151, .getfield 126, 3, 8, 1, 0) :: (154, .bipush 9, 2, 0, 0, 9) :: (156, .if_icmp .ne 7, 3, 163, 0, 0) :: (159, .iconst 1, 1, 0, 0, 1) :: (160, .goto 61, 3, 221, 0, 0) :: px_c190_163
def px_c190_141 : List px_I := (141, .iconst 0, 1, 0, 0, 0) :: (142, .goto 79, 3, 221, 0, 0) :: px_c190_145
def px_c190_123 : List px_I := (123, .iload_n 2, 1, 2, 0, 0) :: (124, .iconst 4, 1, 0, 0, 4) :: (125, .if_icmp .ne 20, 3, 145, 0, 0) :: (128, .aload_n 0, 1, 0, 0, 0) :: (129, .getfield 123, 3, 8, 0, 0) :: (132, .bipush 6, 2, 0, 0, 6) :: (134, .if_icmp .ne 7, 3, 141, 0, 0) :: (137, .iconst 1, 1, 0, 0, 1) :: (138, .goto 83, 3, 221, 0, 0) :: px_c190_141
def px_c190_111 : List px_I := (111, .aload_n 0, 1, 0, 0, 0) :: (112, .iload_n 2, 1, 2, 0, 0) :: (113, .aload_n 0, 1, 0, 0, 0) :: (114, .getfield 211, 3, 8, 40, 0) :: (117, .invokevirtual 196, 3, 181, 3, 0) :: (120, .pop, 1, 0, 0, 0) :: (121, .iconst 1, 1, 0, 0, 1) :: (122, .ireturn, 1, 0, 0, 0) :: px_c190_123
def px_c190_103 : List px_I := (103, .invokevirtual 221, 3, 186, 3, 0) :: (106, .ifCond .ne 5, 3, 111, 0, 0) :: (109, .iconst 0, 1, 0, 0, 0) :: (110, .ireturn, 1, 0, 0, 0) :: px_c190_111
def px_c190_101 : List px_I := (101, .bipush 60, 2, 0, 0, 60) :: px_c190_103
def px_c190_91 : List px_I := (91, .iload_n 2, 1, 2, 0, 0) :: (92, .iconst 2, 1, 0, 0, 2) :: (93, .if_icmp .ne 8, 3, 101, 0, 0) :: (96, .bipush 12, 2, 0, 0, 12) :: (98, .goto 5, 3, 103, 0, 0) :: px_c190_101
def px_c190_81 : List px_I := (81, .iload_n 2, 1, 2, 0, 0) :: (82, .iconst 1, 1, 0, 0, 1) :: (83, .if_icmp .ne 8, 3, 91, 0, 0) :: (86, .bipush 99, 2, 0, 0, 99) :: (88, .goto 15, 3, 103, 0, 0) :: px_c190_91
def px_c190_71 : List px_I := (71, .iload_n 2, 1, 2, 0, 0) :: (72, .ifCond .ne 9, 3, 81, 0, 0) :: (75, .sipush 999, 3, 0, 0, 999) :: (78, .goto 25, 3, 103, 0, 0) :: px_c190_81
def px_c190_70 : List px_I := (70, .iconst 1, 1, 0, 0, 1) :: px_c190_71
def px_c190_56 : List px_I := (56, .iload_n 2, 1, 2, 0, 0) :: (57, .iconst 4, 1, 0, 0, 4) :: (58, .if_icmp .ge 65, 3, 123, 0, 0) :: (61, .aload_n 0, 1, 0, 0, 0) :: (62, .iload_n 2, 1, 2, 0, 0) :: (63, .ifCond .ne 7, 3, 70, 0, 0) :: (66, .iconst 0, 1, 0, 0, 0) :: (67, .goto 4, 3, 71, 0, 0) :: px_c190_70
def px_c190_39 : List px_I := (39, .aload_n 0, 1, 0, 0, 0) :: (40, .getfield 202, 3, 8, 38, 0) :: (43, .istore_n 1, 1, 1, 0, 0) :: (44, .aload_n 0, 1, 0, 0, 0) :: (45, .invokevirtual 230, 3, 184, 1, 0) :: (48, .istore_n 2, 1, 2, 0, 0) :: (49, .iload_n 2, 1, 2, 0, 0) :: (50, .iconst (-1), 1, 0, 0, (-1)) :: (51, .if_icmp .ne 5, 3, 56, 0, 0) :: (54, .iconst 0, 1, 0, 0, 0) :: (55, .ireturn, 1, 0, 0, 0) :: px_c190_56
def px_c190_33 : List px_I := (33, .iinc 1 1, 3, 1, 0, 1) :: (36, .goto (-34), 3, 2, 0, 0) :: px_c190_39
def px_c190_2 : List px_I := (2, .iload_n 1, 1, 1, 0, 0) :: (3, .bipush 11, 2, 0, 0, 11) :: (5, .if_icmp .ge 34, 3, 39, 0, 0) :: (8, .aload_n 0, 1, 0, 0, 0) :: (9, .iload_n 1, 1, 1, 0, 0) :: (10, .invokevirtual 224, 3, 189, 2, 0) :: (13, .ifCond .eq 20, 3, 33, 0, 0) :: (16, .aload_n 0, 1, 0, 0, 0) :: (17, .iload_n 1, 1, 1, 0, 0) :: (18, .invokevirtual 227, 3, 188, 2, 0) :: (21, .ifCond .eq 12, 3, 33, 0, 0) :: (24, .aload_n 0, 1, 0, 0, 0) :: (25, .aload_n 0, 1, 0, 0, 0) :: (26, .getfield 202, 3, 8, 38, 0) :: (29, .invokevirtual 218, 3, 183, 2, 0) :: (32, .ireturn, 1, 0, 0, 0) :: px_c190_33
def px_c190_0 : List px_I := (0, .iconst 4, 1, 0, 0, 4) :: (1, .istore_n 1, 1, 1, 0, 0) :: px_c190_2
def px_c191_87 : List px_I := (87, .aload_n 0, 1, 0, 0, 0) :: (88, .aload_n 1, 1, 1, 0, 0) :: (89, .iconst 0, 1, 0, 0, 0) :: (90, .iaload, 1, 0, 0, 0) :: (91, .putfield 123, 3, 8, 0, 0) :: (94, .aload_n 0, 1, 0, 0, 0) :: (95, .aload_n 1, 1, 1, 0, 0) :: (96, .iconst 1, 1, 0, 0, 1) :: (97, .iaload, 1, 0, 0, 0) :: (98, .putfield 126, 3, 8, 1, 0) :: (101, .aload_n 0, 1, 0, 0, 0) :: (102, .aload_n 1, 1, 1, 0, 0) :: (103, .iconst 2, 1, 0, 0, 2) :: (104, .iaload, 1, 0, 0, 0) :: (105, .putfield 168, 3, 8, 2, 0) :: (108, .aload_n 0, 1, 0, 0, 0) :: (109, .aload_n 1, 1, 1, 0, 0) :: (110, .iconst 3, 1, 0, 0, 3) :: (111, .iaload, 1, 0, 0, 0) :: (112, .putfield 171, 3, 8, 3, 0) :: (115, .aload_n 0, 1, 0, 0, 0) :: (116, .aload_n 1, 1, 1, 0, 0) :: (117, .iconst 4, 1, 0, 0, 4) :: (118, .iaload, 1, 0, 0, 0) :: (119, .putfield 183, 3, 8, 4, 0) :: (122, .aload_n 0, 1, 0, 0, 0) :: (123, .aload_n 1, 1, 1, 0, 0) :: (124, .iconst 5, 1, 0, 0, 5) :: (125, .iaload, 1, 0, 0, 0) :: (126, .putfield 188, 3, 8, 5, 0) :: (129, .aload_n 0, 1, 0, 0, 0) :: (130, .aload_n 1, 1, 1, 0, 0) :: (131, .bipush 6, 2, 0, 0, 6) :: (133, .iaload, 1, 0, 0, 0) :: (134, .putfield 174, 3, 8, 6, 0) :: (137, .aload_n 0, 1, 0, 0, 0) :: (138, .aload_n 1, 1, 1, 0, 0) :: (139, .bipush 7, 2, 0, 0, 7) :: (141, .iaload, 1, 0, 0, 0) :: (142, .putfield 7, 3, 8, 7, 0) :: (145, .aload_n 0, 1, 0, 0, 0) :: (146, .aload_n 1, 1, 1, 0, 0) :: (147, .bipush 8, 2, 0, 0, 8) :: (149, .iaload, 1, 0, 0, 0) :: (150, .putfield 13, 3, 8, 8, 0) :: (153, .aload_n 0, 1, 0, 0, 0) :: (154, .aload_n 1, 1, 1, 0, 0) :: (155, .bipush 9, 2, 0, 0, 9) :: (157, .iaload, 1, 0, 0, 0) :: (158, .putfield 16, 3, 8, 9, 0) :: (161, .aload_n 0, 1, 0, 0, 0) :: (162, .aload_n 1, 1, 1, 0, 0) :: (163, .bipush 10, 2, 0, 0, 10) :: (165, .iaload, 1, 0, 0, 0) :: (166, .putfield 19, 3, 8, 10, 0) :: (169, .return_, 1, 0, 0, 0) :: []
def px_c191_0 : List px_I := (0, .iload_n 2, 1, 2, 0, 0) :: (1, .ifCond .ne 86, 3, 87, 0, 0) :: (4, .aload_n 1, 1, 1, 0, 0) :: (5, .iconst 0, 1, 0, 0, 0) :: (6, .aload_n 0, 1, 0, 0, 0) :: (7, .getfield 123, 3, 8, 0, 0) :: (10, .iastore, 1, 0, 0, 0) :: (11, .aload_n 1, 1, 1, 0, 0) :: (12, .iconst 1, 1, 0, 0, 1) :: (13, .aload_n 0, 1, 0, 0, 0) :: (14, .getfield 126, 3, 8, 1, 0) :: (17, .iastore, 1, 0, 0, 0) :: (18, .aload_n 1, 1, 1, 0, 0) :: (19, .iconst 2, 1, 0, 0, 2) :: (20, .aload_n 0, 1, 0, 0, 0) :: (21, .getfield 168, 3, 8, 2, 0) :: (24, .iastore, 1, 0, 0, 0) :: (25, .aload_n 1, 1, 1, 0, 0) :: (26, .iconst 3, 1, 0, 0, 3) :: (27, .aload_n 0, 1, 0, 0, 0) :: (28, .getfield 171, 3, 8, 3, 0) :: (31, .iastore, 1, 0, 0, 0) :: (32, .aload_n 1, 1, 1, 0, 0) :: (33, .iconst 4, 1, 0, 0, 4) :: (34, .aload_n 0, 1, 0, 0, 0) :: (35, .getfield 183, 3, 8, 4, 0) :: (38, .iastore, 1, 0, 0, 0) :: (39, .aload_n 1, 1, 1, 0, 0) :: (40, .iconst 5, 1, 0, 0, 5) :: (41, .aload_n 0, 1, 0, 0, 0) :: (42, .getfield 188, 3, 8, 5, 0) :: (45, .iastore, 1, 0, 0, 0) :: (46, .aload_n 1, 1, 1, 0, 0) :: (47, .bipush 6, 2, 0, 0, 6) :: (49, .aload_n 0, 1, 0, 0, 0) :: (50, .getfield 174, 3, 8, 6, 0) :: (53, .iastore, 1, 0, 0, 0) :: (54, .aload_n 1, 1, 1, 0, 0) :: (55, .bipush 7, 2, 0, 0, 7) :: (57, .aload_n 0, 1, 0, 0, 0) :: (58, .getfield 7, 3, 8, 7, 0) :: (61, .iastore, 1, 0, 0, 0) :: (62, .aload_n 1, 1, 1, 0, 0) :: (63, .bipush 8, 2, 0, 0, 8) :: (65, .aload_n 0, 1, 0, 0, 0) :: (66, .getfield 13, 3, 8, 8, 0) :: (69, .iastore, 1, 0, 0, 0) :: (70, .aload_n 1, 1, 1, 0, 0) :: (71, .bipush 9, 2, 0, 0, 9) :: (73, .aload_n 0, 1, 0, 0, 0) :: (74, .getfield 16, 3, 8, 9, 0) :: (77, .iastore, 1, 0, 0, 0) :: (78, .aload_n 1, 1, 1, 0, 0) :: (79, .bipush 10, 2, 0, 0, 10) :: (81, .aload_n 0, 1, 0, 0, 0) :: (82, .getfield 19, 3, 8, 10, 0) :: (85, .iastore, 1, 0, 0, 0) :: (86, .return_, 1, 0, 0, 0) :: px_c191_87
def px_c192_140 : List px_I := (140, .aload_n 0, 1, 0, 0, 0) :: (141, .aload_n 0, 1, 0, 0, 0) :: (142, .getfield 102, 3, 8, 42, 0) :: (145, .iconst 1, 1, 0, 0, 1) :: (146, .invokevirtual 239, 3, 191, 3, 0) :: (149, .aload_n 0, 1, 0, 0, 0) :: (150, .aload_n 0, 1, 0, 0, 0) :: (151, .getfield 199, 3, 8, 41, 0) :: (154, .putfield 22, 3, 8, 11, 0) :: (157, .aload_n 0, 1, 0, 0, 0) :: (158, .bipush (-6), 2, 0, 0, (-6)) :: (160, .invokevirtual 133, 3, 149, 2, 0) :: (163, .ireturn, 1, 0, 0, 0) :: []
def px_c192_133 : List px_I := (133, .iload 4, 2, 4, 0, 0) :: (135, .ifCond .eq 5, 3, 140, 0, 0) :: (138, .iload_n 3, 1, 3, 0, 0) :: (139, .ireturn, 1, 0, 0, 0) :: px_c192_140
def px_c192_111 : List px_I := (111, .aload_n 0, 1, 0, 0, 0) :: (112, .dup, 1, 0, 0, 0) :: (113, .getfield 202, 3, 8, 38, 0) :: (116, .iconst 1, 1, 0, 0, 1) :: (117, .iadd, 1, 0, 0, 0) :: (118, .putfield 202, 3, 8, 38, 0) :: (121, .iinc 3 1, 3, 3, 0, 1) :: (124, .aload_n 0, 1, 0, 0, 0) :: (125, .invokevirtual 243, 3, 190, 1, 0) :: (128, .istore 4, 2, 4, 0, 0) :: (130, .goto (-68), 3, 62, 0, 0) :: px_c192_133
def px_c192_62 : List px_I := (62, .iload 4, 2, 4, 0, 0) :: (64, .ifCond .eq 69, 3, 133, 0, 0) :: (67, .aload_n 0, 1, 0, 0, 0) :: (68, .getfield 202, 3, 8, 38, 0) :: (71, .aload_n 0, 1, 0, 0, 0) :: (72, .getfield 205, 3, 8, 39, 0) :: (75, .if_icmp .ge 58, 3, 133, 0, 0) :: (78, .aload_n 0, 1, 0, 0, 0) :: (79, .getfield 92, 3, 8, 34, 0) :: (82, .aload_n 0, 1, 0, 0, 0) :: (83, .getfield 208, 3, 8, 37, 0) :: (86, .aload_n 0, 1, 0, 0, 0) :: (87, .getfield 202, 3, 8, 38, 0) :: (90, .iadd, 1, 0, 0, 0) :: (91, .laload, 1, 0, 0, 0) :: (92, .l2i, 1, 0, 0, 0) :: (93, .bipush 59, 2, 0, 0, 59) :: (95, .if_icmp .eq 16, 3, 111, 0, 0) :: (98, .aload_n 0, 1, 0, 0, 0) :: (99, .aload_n 0, 1, 0, 0, 0) :: (100, .getfield 202, 3, 8, 38, 0) :: (103, .invokevirtual 218, 3, 183, 2, 0) :: (106, .istore 4, 2, 4, 0, 0) :: (108, .goto (-46), 3, 62, 0, 0) :: px_c192_111
def px_c192_17 : List px_I := (17, .aload_n 0, 1, 0, 0, 0) :: (18, .aload_n 0, 1, 0, 0, 0) :: (19, .getfield 102, 3, 8, 42, 0) :: (22, .iconst 0, 1, 0, 0, 0) :: (23, .invokevirtual 239, 3, 191, 3, 0) :: (26, .aload_n 0, 1, 0, 0, 0) :: (27, .bipush 120, 2, 0, 0, 120) :: (29, .iload_n 1, 1, 1, 0, 0) :: (30, .imul, 1, 0, 0, 0) :: (31, .putfield 208, 3, 8, 37, 0) :: (34, .aload_n 0, 1, 0, 0, 0) :: (35, .iconst 0, 1, 0, 0, 0) :: (36, .putfield 202, 3, 8, 38, 0) :: (39, .aload_n 0, 1, 0, 0, 0) :: (40, .aload_n 0, 1, 0, 0, 0) :: (41, .getfield 83, 3, 8, 31, 0) :: (44, .iload_n 1, 1, 1, 0, 0) :: (45, .iaload, 1, 0, 0, 0) :: (46, .putfield 205, 3, 8, 39, 0) :: (49, .aload_n 0, 1, 0, 0, 0) :: (50, .iconst (-1), 1, 0, 0, (-1)) :: (51, .putfield 22, 3, 8, 11, 0) :: (54, .iconst 1, 1, 0, 0, 1) :: (55, .istore_n 3, 1, 3, 0, 0) :: (56, .aload_n 0, 1, 0, 0, 0) :: (57, .invokevirtual 243, 3, 190, 1, 0) :: (60, .istore 4, 2, 4, 0, 0) :: px_c192_62
def px_c192_0 : List px_I := (0, .aload_n 0, 1, 0, 0, 0) :: (1, .iload_n 1, 1, 1, 0, 0) :: (2, .iconst 1, 1, 0, 0, 1) :: (3, .invokevirtual 236, 3, 166, 3, 0) :: (6, .istore_n 2, 1, 2, 0, 0) :: (7, .iload_n 2, 1, 2, 0, 0) :: (8, .ifCond .eq 9, 3, 17, 0, 0) :: (11, .aload_n 0, 1, 0, 0, 0) :: (12, .iload_n 2, 1, 2, 0, 0) :: (13, .invokevirtual 133, 3, 149, 2, 0) :: (16, .ireturn, 1, 0, 0, 0) :: px_c192_17
def px_c193_0 : List px_I := (0, .aload_n 0, 1, 0, 0, 0) :: (1, .getfield 22, 3, 8, 11, 0) :: (4, .ireturn, 1, 0, 0, 0) :: []
def px_c194_71 : List px_I := (71, .ireturn, 1, 0, 0, 0) :: []
def px_c194_65 : List px_I := (65, .aload_n 0, 1, 0, 0, 0) :: (66, .getfield 38, 3, 8, 16, 0) :: (69, .iload_n 1, 1, 1, 0, 0) :: (70, .iaload, 1, 0, 0, 0) :: px_c194_71
def px_c194_51 : List px_I := (51, .iload_n 2, 1, 2, 0, 0) :: (52, .iconst 2, 1, 0, 0, 2) :: (53, .if_icmp .ne 12, 3, 65, 0, 0) :: (56, .aload_n 0, 1, 0, 0, 0) :: (57, .getfield 35, 3, 8, 15, 0) :: (60, .iload_n 1, 1, 1, 0, 0) :: (61, .iaload, 1, 0, 0, 0) :: (62, .goto 9, 3, 71, 0, 0) :: px_c194_65
def px_c194_37 : List px_I := (37, .iload_n 2, 1, 2, 0, 0) :: (38, .iconst 1, 1, 0, 0, 1) :: (39, .if_icmp .ne 12, 3, 51, 0, 0) :: (42, .aload_n 0, 1, 0, 0, 0) :: (43, .getfield 32, 3, 8, 14, 0) :: (46, .iload_n 1, 1, 1, 0, 0) :: (47, .iaload, 1, 0, 0, 0) :: (48, .goto 23, 3, 71, 0, 0) :: px_c194_51
def px_c194_24 : List px_I := (24, .iload_n 2, 1, 2, 0, 0) :: (25, .ifCond .ne 12, 3, 37, 0, 0) :: (28, .aload_n 0, 1, 0, 0, 0) :: (29, .getfield 29, 3, 8, 13, 0) :: (32, .iload_n 1, 1, 1, 0, 0) :: (33, .iaload, 1, 0, 0, 0) :: (34, .goto 37, 3, 71, 0, 0) :: px_c194_37
def px_c194_17 : List px_I := (17, .aload_n 0, 1, 0, 0, 0) :: (18, .bipush (-5), 2, 0, 0, (-5)) :: (20, .invokevirtual 133, 3, 149, 2, 0) :: (23, .ireturn, 1, 0, 0, 0) :: px_c194_24
def px_c194_0 : List px_I := (0, .aload_n 0, 1, 0, 0, 0) :: (1, .iload_n 1, 1, 1, 0, 0) :: (2, .invokevirtual 246, 3, 153, 2, 0) :: (5, .ifCond .eq 12, 3, 17, 0, 0) :: (8, .iload_n 2, 1, 2, 0, 0) :: (9, .ifCond .lt 8, 3, 17, 0, 0) :: (12, .iload_n 2, 1, 2, 0, 0) :: (13, .iconst 3, 1, 0, 0, 3) :: (14, .if_icmp .le 10, 3, 24, 0, 0) :: px_c194_17
def px_c195_71 : List px_I := (71, .ireturn, 1, 0, 0, 0) :: []
def px_c195_65 : List px_I := (65, .aload_n 0, 1, 0, 0, 0) :: (66, .getfield 50, 3, 8, 20, 0) :: (69, .iload_n 1, 1, 1, 0, 0) :: (70, .iaload, 1, 0, 0, 0) :: px_c195_71
def px_c195_51 : List px_I := (51, .iload_n 2, 1, 2, 0, 0) :: (52, .iconst 2, 1, 0, 0, 2) :: (53, .if_icmp .ne 12, 3, 65, 0, 0) :: (56, .aload_n 0, 1, 0, 0, 0) :: (57, .getfield 47, 3, 8, 19, 0) :: (60, .iload_n 1, 1, 1, 0, 0) :: (61, .iaload, 1, 0, 0, 0) :: (62, .goto 9, 3, 71, 0, 0) :: px_c195_65
def px_c195_37 : List px_I := (37, .iload_n 2, 1, 2, 0, 0) :: (38, .iconst 1, 1, 0, 0, 1) :: (39, .if_icmp .ne 12, 3, 51, 0, 0) :: (42, .aload_n 0, 1, 0, 0, 0) :: (43, .getfield 44, 3, 8, 18, 0) :: (46, .iload_n 1, 1, 1, 0, 0) :: (47, .iaload, 1, 0, 0, 0) :: (48, .goto 23, 3, 71, 0, 0) :: px_c195_51
def px_c195_24 : List px_I := (24, .iload_n 2, 1, 2, 0, 0) :: (25, .ifCond .ne 12, 3, 37, 0, 0) :: (28, .aload_n 0, 1, 0, 0, 0) :: (29, .getfield 41, 3, 8, 17, 0) :: (32, .iload_n 1, 1, 1, 0, 0) :: (33, .iaload, 1, 0, 0, 0) :: (34, .goto 37, 3, 71, 0, 0) :: px_c195_37
def px_c195_17 : List px_I := (17, .aload_n 0, 1, 0, 0, 0) :: (18, .bipush (-5), 2, 0, 0, (-5)) :: (20, .invokevirtual 133, 3, 149, 2, 0) :: (23, .ireturn, 1, 0, 0, 0) :: px_c195_24
def px_c195_0 : List px_I := (0, .aload_n 0, 1, 0, 0, 0) :: (1, .iload_n 1, 1, 1, 0, 0) :: (2, .invokevirtual 249, 3, 154, 2, 0) :: (5, .ifCond .eq 12, 3, 17, 0, 0) :: (8, .iload_n 2, 1, 2, 0, 0) :: (9, .ifCond .lt 8, 3, 17, 0, 0) :: (12, .iload_n 2, 1, 2, 0, 0) :: (13, .iconst 3, 1, 0, 0, 3) :: (14, .if_icmp .le 10, 3, 24, 0, 0) :: px_c195_17
def px_c196_27 : List px_I := (27, .aload_n 0, 1, 0, 0, 0) :: (28, .getfield 47, 3, 8, 19, 0) :: (31, .iload_n 1, 1, 1, 0, 0) :: (32, .iaload, 1, 0, 0, 0) :: (33, .istore_n 3, 1, 3, 0, 0) :: (34, .aload_n 0, 1, 0, 0, 0) :: (35, .getfield 47, 3, 8, 19, 0) :: (38, .iload_n 1, 1, 1, 0, 0) :: (39, .iload_n 2, 1, 2, 0, 0) :: (40, .iastore, 1, 0, 0, 0) :: (41, .aload_n 0, 1, 0, 0, 0) :: (42, .getfield 50, 3, 8, 20, 0) :: (45, .iload_n 1, 1, 1, 0, 0) :: (46, .iconst 0, 1, 0, 0, 0) :: (47, .iastore, 1, 0, 0, 0) :: (48, .iload_n 3, 1, 3, 0, 0) :: (49, .ireturn, 1, 0, 0, 0) :: []
def px_c196_21 : List px_I := (21, .aload_n 0, 1, 0, 0, 0) :: (22, .iconst (-1), 1, 0, 0, (-1)) :: (23, .invokevirtual 252, 3, 150, 2, 0) :: (26, .ireturn, 1, 0, 0, 0) :: px_c196_27
def px_c196_0 : List px_I := (0, .aload_n 0, 1, 0, 0, 0) :: (1, .iload_n 1, 1, 1, 0, 0) :: (2, .invokevirtual 249, 3, 154, 2, 0) :: (5, .ifCond .eq 16, 3, 21, 0, 0) :: (8, .iload_n 2, 1, 2, 0, 0) :: (9, .iconst (-1), 1, 0, 0, (-1)) :: (10, .if_icmp .eq 17, 3, 27, 0, 0) :: (13, .aload_n 0, 1, 0, 0, 0) :: (14, .iload_n 2, 1, 2, 0, 0) :: (15, .invokevirtual 246, 3, 153, 2, 0) :: (18, .ifCond .ne 9, 3, 27, 0, 0) :: px_c196_21
def px_c197_53 : List px_I := (53, .aload_n 0, 1, 0, 0, 0) :: (54, .getfield 50, 3, 8, 20, 0) :: (57, .iload_n 1, 1, 1, 0, 0) :: (58, .iload_n 3, 1, 3, 0, 0) :: (59, .iastore, 1, 0, 0, 0) :: (60, .iconst 1, 1, 0, 0, 1) :: (61, .ireturn, 1, 0, 0, 0) :: []
def px_c197_40 : List px_I := (40, .istore_n 3, 1, 3, 0, 0) :: (41, .aload_n 0, 1, 0, 0, 0) :: (42, .getfield 50, 3, 8, 20, 0) :: (45, .iload_n 1, 1, 1, 0, 0) :: (46, .iaload, 1, 0, 0, 0) :: (47, .iload_n 3, 1, 3, 0, 0) :: (48, .if_icmp .ne 5, 3, 53, 0, 0) :: (51, .iconst 0, 1, 0, 0, 0) :: (52, .ireturn, 1, 0, 0, 0) :: px_c197_53
def px_c197_39 : List px_I := (39, .iconst 0, 1, 0, 0, 0) :: px_c197_40
def px_c197_31 : List px_I := (31, .iload_n 2, 1, 2, 0, 0) :: (32, .ifCond .eq 7, 3, 39, 0, 0) :: (35, .iconst 1, 1, 0, 0, 1) :: (36, .goto 4, 3, 40, 0, 0) :: px_c197_39
def px_c197_14 : List px_I := (14, .aload_n 0, 1, 0, 0, 0) :: (15, .getfield 47, 3, 8, 19, 0) :: (18, .iload_n 1, 1, 1, 0, 0) :: (19, .iaload, 1, 0, 0, 0) :: (20, .iconst (-1), 1, 0, 0, (-1)) :: (21, .if_icmp .ne 10, 3, 31, 0, 0) :: (24, .aload_n 0, 1, 0, 0, 0) :: (25, .bipush (-6), 2, 0, 0, (-6)) :: (27, .invokevirtual 133, 3, 149, 2, 0) :: (30, .ireturn, 1, 0, 0, 0) :: px_c197_31
def px_c197_0 : List px_I := (0, .aload_n 0, 1, 0, 0, 0) :: (1, .iload_n 1, 1, 1, 0, 0) :: (2, .invokevirtual 249, 3, 154, 2, 0) :: (5, .ifCond .ne 9, 3, 14, 0, 0) :: (8, .aload_n 0, 1, 0, 0, 0) :: (9, .iconst (-1), 1, 0, 0, (-1)) :: (10, .invokevirtual 133, 3, 149, 2, 0) :: (13, .ireturn, 1, 0, 0, 0) :: px_c197_14
def px_c198_34 : List px_I := (34, .iload_n 1, 1, 1, 0, 0) :: (35, .ireturn, 1, 0, 0, 0) :: []
def px_c198_28 : List px_I := (28, .iinc 2 1, 3, 2, 0, 1) :: (31, .goto (-27), 3, 4, 0, 0) :: px_c198_34
def px_c198_4 : List px_I := (4, .iload_n 2, 1, 2, 0, 0) :: (5, .aload_n 0, 1, 0, 0, 0) :: (6, .getfield 126, 3, 8, 1, 0) :: (9, .if_icmp .ge 25, 3, 34, 0, 0) :: (12, .aload_n 0, 1, 0, 0, 0) :: (13, .getfield 47, 3, 8, 19, 0) :: (16, .iload_n 2, 1, 2, 0, 0) :: (17, .iaload, 1, 0, 0, 0) :: (18, .iconst (-1), 1, 0, 0, (-1)) :: (19, .if_icmp .eq 9, 3, 28, 0, 0) :: (22, .iload_n 1, 1, 1, 0, 0) :: (23, .iconst 1, 1, 0, 0, 1) :: (24, .iload_n 2, 1, 2, 0, 0) :: (25, .ishl, 1, 0, 0, 0) :: (26, .ior, 1, 0, 0, 0) :: (27, .istore_n 1, 1, 1, 0, 0) :: px_c198_28
def px_c198_0 : List px_I := (0, .iconst 0, 1, 0, 0, 0) :: (1, .istore_n 1, 1, 1, 0, 0) :: (2, .iconst 0, 1, 0, 0, 0) :: (3, .istore_n 2, 1, 2, 0, 0) :: px_c198_4
def px_c199_46 : List px_I := (46, .ireturn, 1, 0, 0, 0) :: []
def px_c199_45 : List px_I := (45, .iconst 0, 1, 0, 0, 0) :: px_c199_46
def px_c199_30 : List px_I := (30, .iload_n 1, 1, 1, 0, 0) :: (31, .iconst 5, 1, 0, 0, 5) :: (32, .if_icmp .lt 13, 3, 45, 0, 0) :: (35, .iload_n 1, 1, 1, 0, 0) :: (36, .bipush 7, 2, 0, 0, 7) :: (38, .if_icmp .gt 7, 3, 45, 0, 0) :: (41, .iconst 3, 1, 0, 0, 3) :: (42, .goto 4, 3, 46, 0, 0) :: px_c199_45
def px_c199_26 : List px_I := (26, .iconst 2, 1, 0, 0, 2) :: (27, .goto 19, 3, 46, 0, 0) :: px_c199_30
def px_c199_15 : List px_I := (15, .iload_n 1, 1, 1, 0, 0) :: (16, .iconst 4, 1, 0, 0, 4) :: (17, .if_icmp .eq 9, 3, 26, 0, 0) :: (20, .iload_n 1, 1, 1, 0, 0) :: (21, .bipush 8, 2, 0, 0, 8) :: (23, .if_icmp .ne 7, 3, 30, 0, 0) :: px_c199_26
def px_c199_11 : List px_I := (11, .iconst 1, 1, 0, 0, 1) :: (12, .goto 34, 3, 46, 0, 0) :: px_c199_15
def px_c199_0 : List px_I := (0, .iload_n 1, 1, 1, 0, 0) :: (1, .iconst 3, 1, 0, 0, 3) :: (2, .if_icmp .eq 9, 3, 11, 0, 0) :: (5, .iload_n 1, 1, 1, 0, 0) :: (6, .bipush 9, 2, 0, 0, 9) :: (8, .if_icmp .ne 7, 3, 15, 0, 0) :: px_c199_11
def px_c200_57 : List px_I := (57, .ireturn, 1, 0, 0, 0) :: []
def px_c200_56 : List px_I := (56, .iconst 0, 1, 0, 0, 0) :: px_c200_57
def px_c200_52 : List px_I := (52, .iconst 1, 1, 0, 0, 1) :: (53, .goto 4, 3, 57, 0, 0) :: px_c200_56
def px_c200_38 : List px_I := (38, .iload 6, 2, 6, 0, 0) :: (40, .iload 4, 2, 4, 0, 0) :: (42, .if_icmp .ge 14, 3, 56, 0, 0) :: (45, .iload 4, 2, 4, 0, 0) :: (47, .iload 5, 2, 5, 0, 0) :: (49, .if_icmp .ge 7, 3, 56, 0, 0) :: px_c200_52
def px_c200_0 : List px_I := (0, .iload_n 1, 1, 1, 0, 0) :: (1, .iconst 2, 1, 0, 0, 2) :: (2, .idiv, 1, 0, 0, 0) :: (3, .istore 4, 2, 4, 0, 0) :: (5, .iload_n 2, 1, 2, 0, 0) :: (6, .iconst 2, 1, 0, 0, 2) :: (7, .idiv, 1, 0, 0, 0) :: (8, .istore 5, 2, 5, 0, 0) :: (10, .iload_n 3, 1, 3, 0, 0) :: (11, .iconst 2, 1, 0, 0, 2) :: (12, .idiv, 1, 0, 0, 0) :: (13, .istore 6, 2, 6, 0, 0) :: (15, .iload_n 1, 1, 1, 0, 0) :: (16, .iconst 2, 1, 0, 0, 2) :: (17, .irem, 1, 0, 0, 0) :: (18, .iload_n 2, 1, 2, 0, 0) :: (19, .iconst 2, 1, 0, 0, 2) :: (20, .irem, 1, 0, 0, 0) :: (21, .if_icmp .ne 35, 3, 56, 0, 0) :: (24, .iload 5, 2, 5, 0, 0) :: (26, .iload 4, 2, 4, 0, 0) :: (28, .if_icmp .ge 10, 3, 38, 0, 0) :: (31, .iload 4, 2, 4, 0, 0) :: (33, .iload 6, 2, 6, 0, 0) :: (35, .if_icmp .lt 17, 3, 52, 0, 0) :: px_c200_38
def px_c201_174 : List px_I := (174, .iload 7, 2, 7, 0, 0) :: (176, .ireturn, 1, 0, 0, 0) :: []
def px_c201_168 : List px_I := (168, .iinc 8 1, 3, 8, 0, 1) :: (171, .goto (-36), 3, 135, 0, 0) :: px_c201_174
def px_c201_135 : List px_I := (135, .iload 8, 2, 8, 0, 0) :: (137, .aload_n 0, 1, 0, 0, 0) :: (138, .getfield 171, 3, 8, 3, 0) :: (141, .if_icmp .ge 33, 3, 174, 0, 0) :: (144, .aload_n 0, 1, 0, 0, 0) :: (145, .aload_n 0, 1, 0, 0, 0) :: (146, .getfield 56, 3, 8, 22, 0) :: (149, .iload 8, 2, 8, 0, 0) :: (151, .iaload, 1, 0, 0, 0) :: (152, .aload_n 0, 1, 0, 0, 0) :: (153, .getfield 41, 3, 8, 17, 0) :: (156, .iload_n 2, 1, 2, 0, 0) :: (157, .iaload, 1, 0, 0, 0) :: (158, .iload_n 3, 1, 3, 0, 0) :: (159, .invokevirtual 255, 3, 200, 4, 0) :: (162, .ifCond .eq 6, 3, 168, 0, 0) :: (165, .iconst 0, 1, 0, 0, 0) :: (166, .istore 7, 2, 7, 0, 0) :: px_c201_168
def px_c201_132 : List px_I := (132, .iconst 0, 1, 0, 0, 0) :: (133, .istore 8, 2, 8, 0, 0) :: px_c201_135
def px_c201_126 : List px_I := (126, .iinc 8 1, 3, 8, 0, 1) :: (129, .goto (-48), 3, 81, 0, 0) :: px_c201_132
def px_c201_81 : List px_I := (81, .iload 8, 2, 8, 0, 0) :: (83, .aload_n 0, 1, 0, 0, 0) :: (84, .getfield 168, 3, 8, 2, 0) :: (87, .if_icmp .ge 45, 3, 132, 0, 0) :: (90, .aload_n 0, 1, 0, 0, 0) :: (91, .aload_n 0, 1, 0, 0, 0) :: (92, .getfield 53, 3, 8, 21, 0) :: (95, .iload 8, 2, 8, 0, 0) :: (97, .iaload, 1, 0, 0, 0) :: (98, .aload_n 0, 1, 0, 0, 0) :: (99, .getfield 41, 3, 8, 17, 0) :: (102, .iload_n 2, 1, 2, 0, 0) :: (103, .iaload, 1, 0, 0, 0) :: (104, .iload_n 3, 1, 3, 0, 0) :: (105, .invokevirtual 255, 3, 200, 4, 0) :: (108, .ifCond .eq 18, 3, 126, 0, 0) :: (111, .iload 7, 2, 7, 0, 0) :: (113, .iconst 4, 1, 0, 0, 4) :: (114, .aload_n 0, 1, 0, 0, 0) :: (115, .iload 4, 2, 4, 0, 0) :: (117, .invokevirtual 259, 3, 199, 2, 0) :: (120, .isub, 1, 0, 0, 0) :: (121, .imul, 1, 0, 0, 0) :: (122, .iconst 4, 1, 0, 0, 4) :: (123, .idiv, 1, 0, 0, 0) :: (124, .istore 7, 2, 7, 0, 0) :: px_c201_126
def px_c201_63 : List px_I := (63, .sipush 1000, 3, 0, 0, 1000) :: (66, .aload_n 0, 1, 0, 0, 0) :: (67, .getfield 32, 3, 8, 14, 0) :: (70, .iload_n 1, 1, 1, 0, 0) :: (71, .iaload, 1, 0, 0, 0) :: (72, .imul, 1, 0, 0, 0) :: (73, .iload 6, 2, 6, 0, 0) :: (75, .idiv, 1, 0, 0, 0) :: (76, .istore 7, 2, 7, 0, 0) :: (78, .iconst 0, 1, 0, 0, 0) :: (79, .istore 8, 2, 8, 0, 0) :: px_c201_81
def px_c201_0 : List px_I := (0, .aload_n 0, 1, 0, 0, 0) :: (1, .getfield 41, 3, 8, 17, 0) :: (4, .iload_n 2, 1, 2, 0, 0) :: (5, .iaload, 1, 0, 0, 0) :: (6, .iconst 2, 1, 0, 0, 2) :: (7, .idiv, 1, 0, 0, 0) :: (8, .iload_n 3, 1, 3, 0, 0) :: (9, .iconst 2, 1, 0, 0, 2) :: (10, .idiv, 1, 0, 0, 0) :: (11, .isub, 1, 0, 0, 0) :: (12, .istore 5, 2, 5, 0, 0) :: (14, .aload_n 0, 1, 0, 0, 0) :: (15, .getfield 29, 3, 8, 13, 0) :: (18, .iload_n 1, 1, 1, 0, 0) :: (19, .iaload, 1, 0, 0, 0) :: (20, .aload_n 0, 1, 0, 0, 0) :: (21, .getfield 29, 3, 8, 13, 0) :: (24, .iload_n 1, 1, 1, 0, 0) :: (25, .iaload, 1, 0, 0, 0) :: (26, .imul, 1, 0, 0, 0) :: (27, .iload 5, 2, 5, 0, 0) :: (29, .iload 5, 2, 5, 0, 0) :: (31, .imul, 1, 0, 0, 0) :: (32, .iadd, 1, 0, 0, 0) :: (33, .istore 6, 2, 6, 0, 0) :: (35, .aload_n 0, 1, 0, 0, 0) :: (36, .getfield 41, 3, 8, 17, 0) :: (39, .iload_n 2, 1, 2, 0, 0) :: (40, .iaload, 1, 0, 0, 0) :: (41, .iconst 2, 1, 0, 0, 2) :: (42, .irem, 1, 0, 0, 0) :: (43, .iload_n 3, 1, 3, 0, 0) :: (44, .iconst 2, 1, 0, 0, 2) :: (45, .irem, 1, 0, 0, 0) :: (46, .if_icmp .eq 17, 3, 63, 0, 0) :: (49, .iload 6, 2, 6, 0, 0) :: (51, .aload_n 0, 1, 0, 0, 0) :: (52, .getfield 16, 3, 8, 9, 0) :: (55, .aload_n 0, 1, 0, 0, 0) :: (56, .getfield 16, 3, 8, 9, 0) :: (59, .imul, 1, 0, 0, 0) :: (60, .iadd, 1, 0, 0, 0) :: (61, .istore 6, 2, 6, 0, 0) :: px_c201_63
def px_c202_263 : List px_I := (263, .iload 4, 2, 4, 0, 0) :: (265, .ireturn, 1, 0, 0, 0) :: []
def px_c202_257 : List px_I := (257, .iinc 7 1, 3, 7, 0, 1) :: (260, .goto (-246), 3, 14, 0, 0) :: px_c202_263
def px_c202_243 : List px_I := (243, .iload 9, 2, 9, 0, 0) :: (245, .ifCond .eq 12, 3, 257, 0, 0) :: (248, .iload 4, 2, 4, 0, 0) :: (250, .iconst 1, 1, 0, 0, 1) :: (251, .iload 8, 2, 8, 0, 0) :: (253, .ishl, 1, 0, 0, 0) :: (254, .ior, 1, 0, 0, 0) :: (255, .istore 4, 2, 4, 0, 0) :: px_c202_257
def px_c202_225 : List px_I := (225, .istore 9, 2, 9, 0, 0) :: (227, .iload 9, 2, 9, 0, 0) :: (229, .ifCond .eq 14, 3, 243, 0, 0) :: (232, .aload_n 0, 1, 0, 0, 0) :: (233, .getfield 41, 3, 8, 17, 0) :: (236, .iload 8, 2, 8, 0, 0) :: (238, .iaload, 1, 0, 0, 0) :: (239, .iconst 2, 1, 0, 0, 2) :: (240, .irem, 1, 0, 0, 0) :: (241, .istore 5, 2, 5, 0, 0) :: px_c202_243
def px_c202_224 : List px_I := (224, .iconst 0, 1, 0, 0, 0) :: px_c202_225
def px_c202_201 : List px_I := (201, .iload_n 1, 1, 1, 0, 0) :: (202, .iconst 3, 1, 0, 0, 3) :: (203, .if_icmp .ne 40, 3, 243, 0, 0) :: (206, .aload_n 0, 1, 0, 0, 0) :: (207, .getfield 41, 3, 8, 17, 0) :: (210, .iload 8, 2, 8, 0, 0) :: (212, .iaload, 1, 0, 0, 0) :: (213, .iconst 2, 1, 0, 0, 2) :: (214, .irem, 1, 0, 0, 0) :: (215, .iload 5, 2, 5, 0, 0) :: (217, .if_icmp .eq 7, 3, 224, 0, 0) :: (220, .iconst 1, 1, 0, 0, 1) :: (221, .goto 4, 3, 225, 0, 0) :: px_c202_224
def px_c202_199 : List px_I := (199, .istore 9, 2, 9, 0, 0) :: px_c202_201
def px_c202_198 : List px_I := (198, .iconst 0, 1, 0, 0, 0) :: px_c202_199
def px_c202_178 : List px_I := (178, .iload_n 1, 1, 1, 0, 0) :: (179, .bipush 6, 2, 0, 0, 6) :: (181, .if_icmp .ne 20, 3, 201, 0, 0) :: (184, .iload_n 2, 1, 2, 0, 0) :: (185, .iload 8, 2, 8, 0, 0) :: (187, .ishr, 1, 0, 0, 0) :: (188, .iconst 1, 1, 0, 0, 1) :: (189, .iand, 1, 0, 0, 0) :: (190, .iconst 1, 1, 0, 0, 1) :: (191, .if_icmp .ne 7, 3, 198, 0, 0) :: (194, .iconst 1, 1, 0, 0, 1) :: (195, .goto 4, 3, 199, 0, 0) :: px_c202_198
def px_c202_176 : List px_I := (176, .istore 9, 2, 9, 0, 0) :: px_c202_178
def px_c202_175 : List px_I := (175, .iconst 0, 1, 0, 0, 0) :: px_c202_176
def px_c202_156 : List px_I := (156, .iload_n 1, 1, 1, 0, 0) :: (157, .iconst 5, 1, 0, 0, 5) :: (158, .if_icmp .ne 20, 3, 178, 0, 0) :: (161, .iload_n 3, 1, 3, 0, 0) :: (162, .iload 8, 2, 8, 0, 0) :: (164, .ishr, 1, 0, 0, 0) :: (165, .iconst 1, 1, 0, 0, 1) :: (166, .iand, 1, 0, 0, 0) :: (167, .iconst 1, 1, 0, 0, 1) :: (168, .if_icmp .ne 7, 3, 175, 0, 0) :: (171, .iconst 1, 1, 0, 0, 1) :: (172, .goto 4, 3, 176, 0, 0) :: px_c202_175
def px_c202_154 : List px_I := (154, .istore 9, 2, 9, 0, 0) :: px_c202_156
def px_c202_153 : List px_I := (153, .iconst 0, 1, 0, 0, 0) :: px_c202_154
def px_c202_128 : List px_I := (128, .iconst 1, 1, 0, 0, 1) :: (129, .istore 9, 2, 9, 0, 0) :: (131, .iload_n 1, 1, 1, 0, 0) :: (132, .iconst 1, 1, 0, 0, 1) :: (133, .if_icmp .ne 23, 3, 156, 0, 0) :: (136, .aload_n 0, 1, 0, 0, 0) :: (137, .getfield 41, 3, 8, 17, 0) :: (140, .iload 8, 2, 8, 0, 0) :: (142, .iaload, 1, 0, 0, 0) :: (143, .iconst 2, 1, 0, 0, 2) :: (144, .irem, 1, 0, 0, 0) :: (145, .iload_n 2, 1, 2, 0, 0) :: (146, .if_icmp .ne 7, 3, 153, 0, 0) :: (149, .iconst 1, 1, 0, 0, 1) :: (150, .goto 4, 3, 154, 0, 0) :: px_c202_153
def px_c202_103 : List px_I := (103, .aload_n 0, 1, 0, 0, 0) :: (104, .getfield 47, 3, 8, 19, 0) :: (107, .iload 8, 2, 8, 0, 0) :: (109, .iaload, 1, 0, 0, 0) :: (110, .iconst (-1), 1, 0, 0, (-1)) :: (111, .if_icmp .eq 146, 3, 257, 0, 0) :: (114, .aload_n 0, 1, 0, 0, 0) :: (115, .getfield 50, 3, 8, 20, 0) :: (118, .iload 8, 2, 8, 0, 0) :: (120, .iaload, 1, 0, 0, 0) :: (121, .iconst 1, 1, 0, 0, 1) :: (122, .if_icmp .ne 6, 3, 128, 0, 0) :: (125, .goto 132, 3, 257, 0, 0) :: px_c202_128
def px_c202_94 : List px_I := (94, .iload 6, 2, 6, 0, 0) :: (96, .iconst 1, 1, 0, 0, 1) :: (97, .iload 8, 2, 8, 0, 0) :: (99, .ishl, 1, 0, 0, 0) :: (100, .ior, 1, 0, 0, 0) :: (101, .istore 6, 2, 6, 0, 0) :: px_c202_103
def px_c202_88 : List px_I := (88, .iinc 9 1, 3, 9, 0, 1) :: (91, .goto (-53), 3, 38, 0, 0) :: px_c202_94
def px_c202_84 : List px_I := (84, .iload 9, 2, 9, 0, 0) :: (86, .istore 8, 2, 8, 0, 0) :: px_c202_88
def px_c202_38 : List px_I := (38, .iload 9, 2, 9, 0, 0) :: (40, .aload_n 0, 1, 0, 0, 0) :: (41, .getfield 126, 3, 8, 1, 0) :: (44, .if_icmp .ge 50, 3, 94, 0, 0) :: (47, .iload 6, 2, 6, 0, 0) :: (49, .iload 9, 2, 9, 0, 0) :: (51, .ishr, 1, 0, 0, 0) :: (52, .iconst 1, 1, 0, 0, 1) :: (53, .iand, 1, 0, 0, 0) :: (54, .ifCond .ne 34, 3, 88, 0, 0) :: (57, .iload 8, 2, 8, 0, 0) :: (59, .iconst (-1), 1, 0, 0, (-1)) :: (60, .if_icmp .eq 24, 3, 84, 0, 0) :: (63, .aload_n 0, 1, 0, 0, 0) :: (64, .getfield 41, 3, 8, 17, 0) :: (67, .iload 9, 2, 9, 0, 0) :: (69, .iaload, 1, 0, 0, 0) :: (70, .iconst 2, 1, 0, 0, 2) :: (71, .idiv, 1, 0, 0, 0) :: (72, .aload_n 0, 1, 0, 0, 0) :: (73, .getfield 41, 3, 8, 17, 0) :: (76, .iload 8, 2, 8, 0, 0) :: (78, .iaload, 1, 0, 0, 0) :: (79, .iconst 2, 1, 0, 0, 2) :: (80, .idiv, 1, 0, 0, 0) :: (81, .if_icmp .ge 7, 3, 88, 0, 0) :: px_c202_84
def px_c202_14 : List px_I := (14, .iload 7, 2, 7, 0, 0) :: (16, .aload_n 0, 1, 0, 0, 0) :: (17, .getfield 126, 3, 8, 1, 0) :: (20, .if_icmp .ge 243, 3, 263, 0, 0) :: (23, .iload 7, 2, 7, 0, 0) :: (25, .istore 8, 2, 8, 0, 0) :: (27, .iload_n 1, 1, 1, 0, 0) :: (28, .iconst 3, 1, 0, 0, 3) :: (29, .if_icmp .ne 74, 3, 103, 0, 0) :: (32, .iconst (-1), 1, 0, 0, (-1)) :: (33, .istore 8, 2, 8, 0, 0) :: (35, .iconst 0, 1, 0, 0, 0) :: (36, .istore 9, 2, 9, 0, 0) :: px_c202_38
def px_c202_0 : List px_I := (0, .iconst 0, 1, 0, 0, 0) :: (1, .istore 4, 2, 4, 0, 0) :: (3, .iconst 1, 1, 0, 0, 1) :: (4, .iload_n 2, 1, 2, 0, 0) :: (5, .isub, 1, 0, 0, 0) :: (6, .istore 5, 2, 5, 0, 0) :: (8, .iconst 0, 1, 0, 0, 0) :: (9, .istore 6, 2, 6, 0, 0) :: (11, .iconst 0, 1, 0, 0, 0) :: (12, .istore 7, 2, 7, 0, 0) :: px_c202_14
def px_c203_41 : List px_I := (41, .iload_n 3, 1, 3, 0, 0) :: (42, .ireturn, 1, 0, 0, 0) :: []
def px_c203_35 : List px_I := (35, .iinc 4 1, 3, 4, 0, 1) :: (38, .goto (-33), 3, 5, 0, 0) :: px_c203_41
def px_c203_5 : List px_I := (5, .iload 4, 2, 4, 0, 0) :: (7, .aload_n 0, 1, 0, 0, 0) :: (8, .getfield 188, 3, 8, 5, 0) :: (11, .if_icmp .ge 30, 3, 41, 0, 0) :: (14, .iload_n 2, 1, 2, 0, 0) :: (15, .aload_n 0, 1, 0, 0, 0) :: (16, .getfield 71, 3, 8, 27, 0) :: (19, .iload 4, 2, 4, 0, 0) :: (21, .iaload, 1, 0, 0, 0) :: (22, .if_icmp .ge 13, 3, 35, 0, 0) :: (25, .iload_n 3, 1, 3, 0, 0) :: (26, .aload_n 0, 1, 0, 0, 0) :: (27, .iload 4, 2, 4, 0, 0) :: (29, .iload_n 1, 1, 1, 0, 0) :: (30, .invokevirtual 262, 3, 204, 3, 0) :: (33, .iadd, 1, 0, 0, 0) :: (34, .istore_n 3, 1, 3, 0, 0) :: px_c203_35
def px_c203_0 : List px_I := (0, .iconst 0, 1, 0, 0, 0) :: (1, .istore_n 3, 1, 3, 0, 0) :: (2, .iconst 0, 1, 0, 0, 0) :: (3, .istore 4, 2, 4, 0, 0) :: px_c203_5
def px_c204_82 : List px_I := (82, .ireturn, 1, 0, 0, 0) :: []
def px_c204_74 : List px_I := (74, .aload_n 0, 1, 0, 0, 0) :: (75, .getfield 68, 3, 8, 26, 0) :: (78, .iload_n 1, 1, 1, 0, 0) :: (79, .iaload, 1, 0, 0, 0) :: (80, .iconst 4, 1, 0, 0, 4) :: (81, .idiv, 1, 0, 0, 0) :: px_c204_82
def px_c204_58 : List px_I := (58, .iload_n 3, 1, 3, 0, 0) :: (59, .iconst 1, 1, 0, 0, 1) :: (60, .if_icmp .ne 14, 3, 74, 0, 0) :: (63, .aload_n 0, 1, 0, 0, 0) :: (64, .getfield 68, 3, 8, 26, 0) :: (67, .iload_n 1, 1, 1, 0, 0) :: (68, .iaload, 1, 0, 0, 0) :: (69, .iconst 2, 1, 0, 0, 2) :: (70, .idiv, 1, 0, 0, 0) :: (71, .goto 11, 3, 82, 0, 0) :: px_c204_74
def px_c204_45 : List px_I := (45, .iload_n 3, 1, 3, 0, 0) :: (46, .ifCond .ne 12, 3, 58, 0, 0) :: (49, .aload_n 0, 1, 0, 0, 0) :: (50, .getfield 68, 3, 8, 26, 0) :: (53, .iload_n 1, 1, 1, 0, 0) :: (54, .iaload, 1, 0, 0, 0) :: (55, .goto 27, 3, 82, 0, 0) :: px_c204_58
def px_c204_43 : List px_I := (43, .iconst 0, 1, 0, 0, 0) :: (44, .ireturn, 1, 0, 0, 0) :: px_c204_45
def px_c204_23 : List px_I := (23, .istore_n 3, 1, 3, 0, 0) :: (24, .aload_n 0, 1, 0, 0, 0) :: (25, .getfield 65, 3, 8, 25, 0) :: (28, .iload_n 1, 1, 1, 0, 0) :: (29, .iaload, 1, 0, 0, 0) :: (30, .iconst 2, 1, 0, 0, 2) :: (31, .irem, 1, 0, 0, 0) :: (32, .iload_n 2, 1, 2, 0, 0) :: (33, .iconst 2, 1, 0, 0, 2) :: (34, .irem, 1, 0, 0, 0) :: (35, .if_icmp .ne 8, 3, 43, 0, 0) :: (38, .iload_n 3, 1, 3, 0, 0) :: (39, .iconst 2, 1, 0, 0, 2) :: (40, .if_icmp .le 5, 3, 45, 0, 0) :: px_c204_43
def px_c204_22 : List px_I := (22, .iload_n 3, 1, 3, 0, 0) :: px_c204_23
def px_c204_0 : List px_I := (0, .aload_n 0, 1, 0, 0, 0) :: (1, .getfield 65, 3, 8, 25, 0) :: (4, .iload_n 1, 1, 1, 0, 0) :: (5, .iaload, 1, 0, 0, 0) :: (6, .iconst 2, 1, 0, 0, 2) :: (7, .idiv, 1, 0, 0, 0) :: (8, .iload_n 2, 1, 2, 0, 0) :: (9, .iconst 2, 1, 0, 0, 2) :: (10, .idiv, 1, 0, 0, 0) :: (11, .isub, 1, 0, 0, 0) :: (12, .istore_n 3, 1, 3, 0, 0) :: (13, .iload_n 3, 1, 3, 0, 0) :: (14, .ifCond .ge 8, 3, 22, 0, 0) :: (17, .iload_n 3, 1, 3, 0, 0) :: (18, .ineg, 1, 0, 0, 0) :: (19, .goto 4, 3, 23, 0, 0) :: px_c204_22
def px_c205_29 : List px_I := (29, .ireturn, 1, 0, 0, 0) :: []
def px_c205_27 : List px_I := (27, .iload 5, 2, 5, 0, 0) :: px_c205_29
def px_c205_0 : List px_I := (0, .aload_n 0, 1, 0, 0, 0) :: (1, .aload_n 0, 1, 0, 0, 0) :: (2, .getfield 47, 3, 8, 19, 0) :: (5, .iload_n 1, 1, 1, 0, 0) :: (6, .iaload, 1, 0, 0, 0) :: (7, .iload_n 1, 1, 1, 0, 0) :: (8, .iload_n 2, 1, 2, 0, 0) :: (9, .iload_n 3, 1, 3, 0, 0) :: (10, .invokevirtual 265, 3, 201, 5, 0) :: (13, .istore 5, 2, 5, 0, 0) :: (15, .iload 4, 2, 4, 0, 0) :: (17, .ifCond .eq 10, 3, 27, 0, 0) :: (20, .iload 5, 2, 5, 0, 0) :: (22, .iconst 2, 1, 0, 0, 2) :: (23, .idiv, 1, 0, 0, 0) :: (24, .goto 5, 3, 29, 0, 0) :: px_c205_27
def px_c206_79 : List px_I := (79, .iload 8, 2, 8, 0, 0) :: (81, .ireturn, 1, 0, 0, 0) :: []
def px_c206_73 : List px_I := (73, .iinc 9 1, 3, 9, 0, 1) :: (76, .goto (-54), 3, 22, 0, 0) :: px_c206_79
def px_c206_67 : List px_I := (67, .invokevirtual 271, 3, 205, 5, 0) :: (70, .iadd, 1, 0, 0, 0) :: (71, .istore 8, 2, 8, 0, 0) :: px_c206_73
def px_c206_66 : List px_I := (66, .iconst 0, 1, 0, 0, 0) :: px_c206_67
def px_c206_22 : List px_I := (22, .iload 9, 2, 9, 0, 0) :: (24, .aload_n 0, 1, 0, 0, 0) :: (25, .getfield 126, 3, 8, 1, 0) :: (28, .if_icmp .ge 51, 3, 79, 0, 0) :: (31, .iload 7, 2, 7, 0, 0) :: (33, .iload 9, 2, 9, 0, 0) :: (35, .ishr, 1, 0, 0, 0) :: (36, .iconst 1, 1, 0, 0, 1) :: (37, .iand, 1, 0, 0, 0) :: (38, .iconst 1, 1, 0, 0, 1) :: (39, .if_icmp .ne 34, 3, 73, 0, 0) :: (42, .iload 8, 2, 8, 0, 0) :: (44, .aload_n 0, 1, 0, 0, 0) :: (45, .iload 9, 2, 9, 0, 0) :: (47, .iload 4, 2, 4, 0, 0) :: (49, .iload 5, 2, 5, 0, 0) :: (51, .iload_n 1, 1, 1, 0, 0) :: (52, .iconst 4, 1, 0, 0, 4) :: (53, .if_icmp .ne 13, 3, 66, 0, 0) :: (56, .iload 6, 2, 6, 0, 0) :: (58, .iload_n 2, 1, 2, 0, 0) :: (59, .if_icmp .lt 7, 3, 66, 0, 0) :: (62, .iconst 1, 1, 0, 0, 1) :: (63, .goto 4, 3, 67, 0, 0) :: px_c206_66
def px_c206_0 : List px_I := (0, .aload_n 0, 1, 0, 0, 0) :: (1, .iload_n 1, 1, 1, 0, 0) :: (2, .iload_n 2, 1, 2, 0, 0) :: (3, .iload_n 3, 1, 3, 0, 0) :: (4, .invokevirtual 148, 3, 202, 4, 0) :: (7, .istore 7, 2, 7, 0, 0) :: (9, .aload_n 0, 1, 0, 0, 0) :: (10, .iload 4, 2, 4, 0, 0) :: (12, .iload 6, 2, 6, 0, 0) :: (14, .invokevirtual 268, 3, 203, 3, 0) :: (17, .istore 8, 2, 8, 0, 0) :: (19, .iconst 0, 1, 0, 0, 0) :: (20, .istore 9, 2, 9, 0, 0) :: px_c206_22
def px_c207_0 : List px_I := (0, .aload_n 0, 1, 0, 0, 0) :: (1, .aload_n 0, 1, 0, 0, 0) :: (2, .getfield 86, 3, 8, 32, 0) :: (5, .iload_n 1, 1, 1, 0, 0) :: (6, .iaload, 1, 0, 0, 0) :: (7, .aload_n 0, 1, 0, 0, 0) :: (8, .getfield 89, 3, 8, 33, 0) :: (11, .iload_n 1, 1, 1, 0, 0) :: (12, .iaload, 1, 0, 0, 0) :: (13, .aload_n 0, 1, 0, 0, 0) :: (14, .getfield 83, 3, 8, 31, 0) :: (17, .iload_n 1, 1, 1, 0, 0) :: (18, .iaload, 1, 0, 0, 0) :: (19, .iload_n 2, 1, 2, 0, 0) :: (20, .iload_n 3, 1, 3, 0, 0) :: (21, .iload 4, 2, 4, 0, 0) :: (23, .invokevirtual 275, 3, 206, 7, 0) :: (26, .ireturn, 1, 0, 0, 0) :: []
def px_c208_66 : List px_I := (66, .aload_n 0, 1, 0, 0, 0) :: (67, .iload_n 1, 1, 1, 0, 0) :: (68, .iload_n 2, 1, 2, 0, 0) :: (69, .iload_n 3, 1, 3, 0, 0) :: (70, .iload 4, 2, 4, 0, 0) :: (72, .invokevirtual 279, 3, 207, 5, 0) :: (75, .ireturn, 1, 0, 0, 0) :: []
def px_c208_59 : List px_I := (59, .aload_n 0, 1, 0, 0, 0) :: (60, .bipush (-6), 2, 0, 0, (-6)) :: (62, .invokevirtual 133, 3, 149, 2, 0) :: (65, .ireturn, 1, 0, 0, 0) :: px_c208_66
def px_c208_42 : List px_I := (42, .aload_n 0, 1, 0, 0, 0) :: (43, .iload_n 3, 1, 3, 0, 0) :: (44, .invokevirtual 137, 3, 156, 2, 0) :: (47, .ifCond .eq 12, 3, 59, 0, 0) :: (50, .aload_n 0, 1, 0, 0, 0) :: (51, .iload 4, 2, 4, 0, 0) :: (53, .invokevirtual 137, 3, 156, 2, 0) :: (56, .ifCond .ne 10, 3, 66, 0, 0) :: px_c208_59
def px_c208_22 : List px_I := (22, .aload_n 0, 1, 0, 0, 0) :: (23, .iload_n 1, 1, 1, 0, 0) :: (24, .iconst 2, 1, 0, 0, 2) :: (25, .invokevirtual 236, 3, 166, 3, 0) :: (28, .istore 5, 2, 5, 0, 0) :: (30, .iload 5, 2, 5, 0, 0) :: (32, .ifCond .eq 10, 3, 42, 0, 0) :: (35, .aload_n 0, 1, 0, 0, 0) :: (36, .iload 5, 2, 5, 0, 0) :: (38, .invokevirtual 133, 3, 149, 2, 0) :: (41, .ireturn, 1, 0, 0, 0) :: px_c208_42
def px_c208_16 : List px_I := (16, .aload_n 0, 1, 0, 0, 0) :: (17, .iconst (-1), 1, 0, 0, (-1)) :: (18, .invokevirtual 133, 3, 149, 2, 0) :: (21, .ireturn, 1, 0, 0, 0) :: px_c208_22
def px_c208_0 : List px_I := (0, .aload_n 0, 1, 0, 0, 0) :: (1, .iload_n 1, 1, 1, 0, 0) :: (2, .invokevirtual 129, 3, 151, 2, 0) :: (5, .ifCond .eq 11, 3, 16, 0, 0) :: (8, .aload_n 0, 1, 0, 0, 0) :: (9, .iload_n 2, 1, 2, 0, 0) :: (10, .invokevirtual 162, 3, 152, 2, 0) :: (13, .ifCond .ne 9, 3, 22, 0, 0) :: px_c208_16
def px_c209_178 : List px_I := (178, .iload 7, 2, 7, 0, 0) :: (180, .ireturn, 1, 0, 0, 0) :: []
def px_c209_172 : List px_I := (172, .iinc 8 1, 3, 8, 0, 1) :: (175, .goto (-79), 3, 96, 0, 0) :: px_c209_178
def px_c209_164 : List px_I := (164, .invokevirtual 271, 3, 205, 5, 0) :: (167, .iconst 2, 1, 0, 0, 2) :: (168, .idiv, 1, 0, 0, 0) :: (169, .iadd, 1, 0, 0, 0) :: (170, .istore 7, 2, 7, 0, 0) :: px_c209_172
def px_c209_163 : List px_I := (163, .iconst 0, 1, 0, 0, 0) :: px_c209_164
def px_c209_96 : List px_I := (96, .iload 8, 2, 8, 0, 0) :: (98, .aload_n 0, 1, 0, 0, 0) :: (99, .getfield 126, 3, 8, 1, 0) :: (102, .if_icmp .ge 76, 3, 178, 0, 0) :: (105, .iload 6, 2, 6, 0, 0) :: (107, .iload 8, 2, 8, 0, 0) :: (109, .ishr, 1, 0, 0, 0) :: (110, .iconst 1, 1, 0, 0, 1) :: (111, .iand, 1, 0, 0, 0) :: (112, .iconst 1, 1, 0, 0, 1) :: (113, .if_icmp .ne 59, 3, 172, 0, 0) :: (116, .aload_n 0, 1, 0, 0, 0) :: (117, .getfield 41, 3, 8, 17, 0) :: (120, .iload 8, 2, 8, 0, 0) :: (122, .iaload, 1, 0, 0, 0) :: (123, .iconst 2, 1, 0, 0, 2) :: (124, .idiv, 1, 0, 0, 0) :: (125, .iload_n 2, 1, 2, 0, 0) :: (126, .iconst 2, 1, 0, 0, 2) :: (127, .idiv, 1, 0, 0, 0) :: (128, .if_icmp .le 44, 3, 172, 0, 0) :: (131, .iload 7, 2, 7, 0, 0) :: (133, .aload_n 0, 1, 0, 0, 0) :: (134, .iload 8, 2, 8, 0, 0) :: (136, .iload_n 2, 1, 2, 0, 0) :: (137, .iload_n 3, 1, 3, 0, 0) :: (138, .aload_n 0, 1, 0, 0, 0) :: (139, .getfield 86, 3, 8, 32, 0) :: (142, .iload_n 1, 1, 1, 0, 0) :: (143, .iaload, 1, 0, 0, 0) :: (144, .iconst 4, 1, 0, 0, 4) :: (145, .if_icmp .ne 18, 3, 163, 0, 0) :: (148, .iload 4, 2, 4, 0, 0) :: (150, .aload_n 0, 1, 0, 0, 0) :: (151, .getfield 89, 3, 8, 33, 0) :: (154, .iload_n 1, 1, 1, 0, 0) :: (155, .iaload, 1, 0, 0, 0) :: (156, .if_icmp .lt 7, 3, 163, 0, 0) :: (159, .iconst 1, 1, 0, 0, 1) :: (160, .goto 4, 3, 164, 0, 0) :: px_c209_163
def px_c209_66 : List px_I := (66, .aload_n 0, 1, 0, 0, 0) :: (67, .aload_n 0, 1, 0, 0, 0) :: (68, .getfield 86, 3, 8, 32, 0) :: (71, .iload_n 1, 1, 1, 0, 0) :: (72, .iaload, 1, 0, 0, 0) :: (73, .aload_n 0, 1, 0, 0, 0) :: (74, .getfield 89, 3, 8, 33, 0) :: (77, .iload_n 1, 1, 1, 0, 0) :: (78, .iaload, 1, 0, 0, 0) :: (79, .aload_n 0, 1, 0, 0, 0) :: (80, .getfield 83, 3, 8, 31, 0) :: (83, .iload_n 1, 1, 1, 0, 0) :: (84, .iaload, 1, 0, 0, 0) :: (85, .invokevirtual 148, 3, 202, 4, 0) :: (88, .istore 6, 2, 6, 0, 0) :: (90, .iconst 0, 1, 0, 0, 0) :: (91, .istore 7, 2, 7, 0, 0) :: (93, .iconst 0, 1, 0, 0, 0) :: (94, .istore 8, 2, 8, 0, 0) :: px_c209_96
def px_c209_59 : List px_I := (59, .aload_n 0, 1, 0, 0, 0) :: (60, .bipush (-6), 2, 0, 0, (-6)) :: (62, .invokevirtual 133, 3, 149, 2, 0) :: (65, .ireturn, 1, 0, 0, 0) :: px_c209_66
def px_c209_42 : List px_I := (42, .aload_n 0, 1, 0, 0, 0) :: (43, .iload_n 3, 1, 3, 0, 0) :: (44, .invokevirtual 137, 3, 156, 2, 0) :: (47, .ifCond .eq 12, 3, 59, 0, 0) :: (50, .aload_n 0, 1, 0, 0, 0) :: (51, .iload 4, 2, 4, 0, 0) :: (53, .invokevirtual 137, 3, 156, 2, 0) :: (56, .ifCond .ne 10, 3, 66, 0, 0) :: px_c209_59
def px_c209_22 : List px_I := (22, .aload_n 0, 1, 0, 0, 0) :: (23, .iload_n 1, 1, 1, 0, 0) :: (24, .iconst 2, 1, 0, 0, 2) :: (25, .invokevirtual 236, 3, 166, 3, 0) :: (28, .istore 5, 2, 5, 0, 0) :: (30, .iload 5, 2, 5, 0, 0) :: (32, .ifCond .eq 10, 3, 42, 0, 0) :: (35, .aload_n 0, 1, 0, 0, 0) :: (36, .iload 5, 2, 5, 0, 0) :: (38, .invokevirtual 133, 3, 149, 2, 0) :: (41, .ireturn, 1, 0, 0, 0) :: px_c209_42
def px_c209_16 : List px_I := (16, .aload_n 0, 1, 0, 0, 0) :: (17, .iconst (-1), 1, 0, 0, (-1)) :: (18, .invokevirtual 133, 3, 149, 2, 0) :: (21, .ireturn, 1, 0, 0, 0) :: px_c209_22
def px_c209_0 : List px_I := (0, .aload_n 0, 1, 0, 0, 0) :: (1, .iload_n 1, 1, 1, 0, 0) :: (2, .invokevirtual 129, 3, 151, 2, 0) :: (5, .ifCond .eq 11, 3, 16, 0, 0) :: (8, .aload_n 0, 1, 0, 0, 0) :: (9, .iload_n 2, 1, 2, 0, 0) :: (10, .invokevirtual 162, 3, 152, 2, 0) :: (13, .ifCond .ne 9, 3, 22, 0, 0) :: px_c209_16
def px_c210_28 : List px_I := (28, .iconst 0, 1, 0, 0, 0) :: (29, .ireturn, 1, 0, 0, 0) :: []
def px_c210_22 : List px_I := (22, .iinc 2 1, 3, 2, 0, 1) :: (25, .goto (-23), 3, 2, 0, 0) :: px_c210_28
def px_c210_2 : List px_I := (2, .iload_n 2, 1, 2, 0, 0) :: (3, .aload_n 0, 1, 0, 0, 0) :: (4, .getfield 174, 3, 8, 6, 0) :: (7, .if_icmp .ge 21, 3, 28, 0, 0) :: (10, .aload_n 0, 1, 0, 0, 0) :: (11, .getfield 74, 3, 8, 28, 0) :: (14, .iload_n 2, 1, 2, 0, 0) :: (15, .iaload, 1, 0, 0, 0) :: (16, .iload_n 1, 1, 1, 0, 0) :: (17, .if_icmp .ne 5, 3, 22, 0, 0) :: (20, .iconst 1, 1, 0, 0, 1) :: (21, .ireturn, 1, 0, 0, 0) :: px_c210_22
def px_c210_0 : List px_I := (0, .iconst 0, 1, 0, 0, 0) :: (1, .istore_n 2, 1, 2, 0, 0) :: px_c210_2
def px_c211_252 : List px_I := (252, .iconst 0, 1, 0, 0, 0) :: (253, .ireturn, 1, 0, 0, 0) :: []
def px_c211_246 : List px_I := (246, .iinc 4 1, 3, 4, 0, 1) :: (249, .goto (-61), 3, 188, 0, 0) :: px_c211_252
def px_c211_233 : List px_I := (233, .aload_n 0, 1, 0, 0, 0) :: (234, .aload_n 0, 1, 0, 0, 0) :: (235, .getfield 59, 3, 8, 23, 0) :: (238, .iload 4, 2, 4, 0, 0) :: (240, .iaload, 1, 0, 0, 0) :: (241, .putfield 282, 3, 8, 45, 0) :: (244, .iconst 4, 1, 0, 0, 4) :: (245, .ireturn, 1, 0, 0, 0) :: px_c211_246
def px_c211_188 : List px_I := (188, .iload 4, 2, 4, 0, 0) :: (190, .aload_n 0, 1, 0, 0, 0) :: (191, .getfield 183, 3, 8, 4, 0) :: (194, .if_icmp .ge 58, 3, 252, 0, 0) :: (197, .aload_n 0, 1, 0, 0, 0) :: (198, .getfield 59, 3, 8, 23, 0) :: (201, .iload 4, 2, 4, 0, 0) :: (203, .iaload, 1, 0, 0, 0) :: (204, .iload_n 1, 1, 1, 0, 0) :: (205, .if_icmp .ge 41, 3, 246, 0, 0) :: (208, .aload_n 0, 1, 0, 0, 0) :: (209, .getfield 108, 3, 8, 44, 0) :: (212, .aload_n 0, 1, 0, 0, 0) :: (213, .getfield 59, 3, 8, 23, 0) :: (216, .iload 4, 2, 4, 0, 0) :: (218, .iaload, 1, 0, 0, 0) :: (219, .iaload, 1, 0, 0, 0) :: (220, .aload_n 0, 1, 0, 0, 0) :: (221, .getfield 62, 3, 8, 24, 0) :: (224, .iload 4, 2, 4, 0, 0) :: (226, .iaload, 1, 0, 0, 0) :: (227, .if_icmp .gt 6, 3, 233, 0, 0) :: (230, .goto 16, 3, 246, 0, 0) :: px_c211_233
def px_c211_185 : List px_I := (185, .iconst 0, 1, 0, 0, 0) :: (186, .istore 4, 2, 4, 0, 0) :: px_c211_188
def px_c211_158 : List px_I := (158, .iload_n 2, 1, 2, 0, 0) :: (159, .iconst (-1), 1, 0, 0, (-1)) :: (160, .if_icmp .eq 25, 3, 185, 0, 0) :: (163, .aload_n 0, 1, 0, 0, 0) :: (164, .getfield 13, 3, 8, 8, 0) :: (167, .aload_n 0, 1, 0, 0, 0) :: (168, .getfield 108, 3, 8, 44, 0) :: (171, .iload_n 2, 1, 2, 0, 0) :: (172, .iaload, 1, 0, 0, 0) :: (173, .imul, 1, 0, 0, 0) :: (174, .iload_n 3, 1, 3, 0, 0) :: (175, .if_icmp .ge 10, 3, 185, 0, 0) :: (178, .aload_n 0, 1, 0, 0, 0) :: (179, .iload_n 2, 1, 2, 0, 0) :: (180, .putfield 282, 3, 8, 45, 0) :: (183, .iconst 3, 1, 0, 0, 3) :: (184, .ireturn, 1, 0, 0, 0) :: px_c211_185
def px_c211_152 : List px_I := (152, .iinc 4 1, 3, 4, 0, 1) :: (155, .goto (-40), 3, 115, 0, 0) :: px_c211_158
def px_c211_144 : List px_I := (144, .aload_n 0, 1, 0, 0, 0) :: (145, .iload 4, 2, 4, 0, 0) :: (147, .putfield 282, 3, 8, 45, 0) :: (150, .iconst 2, 1, 0, 0, 2) :: (151, .ireturn, 1, 0, 0, 0) :: px_c211_152
def px_c211_115 : List px_I := (115, .iload 4, 2, 4, 0, 0) :: (117, .iload_n 1, 1, 1, 0, 0) :: (118, .if_icmp .ge 40, 3, 158, 0, 0) :: (121, .aload_n 0, 1, 0, 0, 0) :: (122, .iload 4, 2, 4, 0, 0) :: (124, .invokevirtual 285, 3, 210, 2, 0) :: (127, .ifCond .eq 25, 3, 152, 0, 0) :: (130, .aload_n 0, 1, 0, 0, 0) :: (131, .getfield 108, 3, 8, 44, 0) :: (134, .iload 4, 2, 4, 0, 0) :: (136, .iaload, 1, 0, 0, 0) :: (137, .iconst 5, 1, 0, 0, 5) :: (138, .if_icmp .gt 6, 3, 144, 0, 0) :: (141, .goto 11, 3, 152, 0, 0) :: px_c211_144
def px_c211_112 : List px_I := (112, .iconst 0, 1, 0, 0, 0) :: (113, .istore 4, 2, 4, 0, 0) :: px_c211_115
def px_c211_106 : List px_I := (106, .iinc 4 1, 3, 4, 0, 1) :: (109, .goto (-90), 3, 19, 0, 0) :: px_c211_112
def px_c211_105 : List px_I := (105, .istore_n 3, 1, 3, 0, 0) :: px_c211_106
def px_c211_104 : List px_I := (104, .iload_n 3, 1, 3, 0, 0) :: px_c211_105
def px_c211_83 : List px_I := (83, .aload_n 0, 1, 0, 0, 0) :: (84, .getfield 108, 3, 8, 44, 0) :: (87, .iload 4, 2, 4, 0, 0) :: (89, .iaload, 1, 0, 0, 0) :: (90, .iload_n 3, 1, 3, 0, 0) :: (91, .if_icmp .le 13, 3, 104, 0, 0) :: (94, .aload_n 0, 1, 0, 0, 0) :: (95, .getfield 108, 3, 8, 44, 0) :: (98, .iload 4, 2, 4, 0, 0) :: (100, .iaload, 1, 0, 0, 0) :: (101, .goto 4, 3, 105, 0, 0) :: px_c211_104
def px_c211_80 : List px_I := (80, .iload 4, 2, 4, 0, 0) :: (82, .istore_n 2, 1, 2, 0, 0) :: px_c211_83
def px_c211_59 : List px_I := (59, .iload_n 2, 1, 2, 0, 0) :: (60, .iconst (-1), 1, 0, 0, (-1)) :: (61, .if_icmp .eq 19, 3, 80, 0, 0) :: (64, .aload_n 0, 1, 0, 0, 0) :: (65, .getfield 108, 3, 8, 44, 0) :: (68, .iload 4, 2, 4, 0, 0) :: (70, .iaload, 1, 0, 0, 0) :: (71, .aload_n 0, 1, 0, 0, 0) :: (72, .getfield 108, 3, 8, 44, 0) :: (75, .iload_n 2, 1, 2, 0, 0) :: (76, .iaload, 1, 0, 0, 0) :: (77, .if_icmp .ge 6, 3, 83, 0, 0) :: px_c211_80
def px_c211_37 : List px_I := (37, .aload_n 0, 1, 0, 0, 0) :: (38, .getfield 108, 3, 8, 44, 0) :: (41, .iload 4, 2, 4, 0, 0) :: (43, .iaload, 1, 0, 0, 0) :: (44, .aload_n 0, 1, 0, 0, 0) :: (45, .getfield 7, 3, 8, 7, 0) :: (48, .if_icmp .ge 11, 3, 59, 0, 0) :: (51, .aload_n 0, 1, 0, 0, 0) :: (52, .iload 4, 2, 4, 0, 0) :: (54, .putfield 282, 3, 8, 45, 0) :: (57, .iconst 1, 1, 0, 0, 1) :: (58, .ireturn, 1, 0, 0, 0) :: px_c211_59
def px_c211_19 : List px_I := (19, .iload 4, 2, 4, 0, 0) :: (21, .iload_n 1, 1, 1, 0, 0) :: (22, .if_icmp .ge 90, 3, 112, 0, 0) :: (25, .aload_n 0, 1, 0, 0, 0) :: (26, .iload 4, 2, 4, 0, 0) :: (28, .invokevirtual 285, 3, 210, 2, 0) :: (31, .ifCond .eq 6, 3, 37, 0, 0) :: (34, .goto 72, 3, 106, 0, 0) :: px_c211_37
def px_c211_0 : List px_I := (0, .iconst 2, 1, 0, 0, 2) :: (1, .aload_n 0, 1, 0, 0, 0) :: (2, .getfield 19, 3, 8, 10, 0) :: (5, .imul, 1, 0, 0, 0) :: (6, .istore_n 1, 1, 1, 0, 0) :: (7, .iconst (-1), 1, 0, 0, (-1)) :: (8, .istore_n 2, 1, 2, 0, 0) :: (9, .iconst 0, 1, 0, 0, 0) :: (10, .istore_n 3, 1, 3, 0, 0) :: (11, .aload_n 0, 1, 0, 0, 0) :: (12, .iconst (-1), 1, 0, 0, (-1)) :: (13, .putfield 282, 3, 8, 45, 0) :: (16, .iconst 0, 1, 0, 0, 0) :: (17, .istore 4, 2, 4, 0, 0) :: px_c211_19
def px_c212_40 : List px_I := (40, .return_, 1, 0, 0, 0) :: []
def px_c212_3 : List px_I := (3, .iload 6, 2, 6, 0, 0) :: (5, .iconst 2, 1, 0, 0, 2) :: (6, .aload_n 0, 1, 0, 0, 0) :: (7, .getfield 19, 3, 8, 10, 0) :: (10, .imul, 1, 0, 0, 0) :: (11, .if_icmp .ge 29, 3, 40, 0, 0) :: (14, .aload_n 0, 1, 0, 0, 0) :: (15, .getfield 108, 3, 8, 44, 0) :: (18, .iload 6, 2, 6, 0, 0) :: (20, .aload_n 0, 1, 0, 0, 0) :: (21, .iload_n 1, 1, 1, 0, 0) :: (22, .iload_n 2, 1, 2, 0, 0) :: (23, .iload_n 3, 1, 3, 0, 0) :: (24, .iload 6, 2, 6, 0, 0) :: (26, .iload 4, 2, 4, 0, 0) :: (28, .iload 5, 2, 5, 0, 0) :: (30, .invokevirtual 275, 3, 206, 7, 0) :: (33, .iastore, 1, 0, 0, 0) :: (34, .iinc 6 1, 3, 6, 0, 1) :: (37, .goto (-34), 3, 3, 0, 0) :: px_c212_40
def px_c212_0 : List px_I := (0, .iconst 0, 1, 0, 0, 0) :: (1, .istore 6, 2, 6, 0, 0) :: px_c212_3
def px_c213_43 : List px_I := (43, .aload_n 0, 1, 0, 0, 0) :: (44, .aload_n 0, 1, 0, 0, 0) :: (45, .getfield 86, 3, 8, 32, 0) :: (48, .iload_n 1, 1, 1, 0, 0) :: (49, .iaload, 1, 0, 0, 0) :: (50, .aload_n 0, 1, 0, 0, 0) :: (51, .getfield 89, 3, 8, 33, 0) :: (54, .iload_n 1, 1, 1, 0, 0) :: (55, .iaload, 1, 0, 0, 0) :: (56, .aload_n 0, 1, 0, 0, 0) :: (57, .getfield 83, 3, 8, 31, 0) :: (60, .iload_n 1, 1, 1, 0, 0) :: (61, .iaload, 1, 0, 0, 0) :: (62, .iload_n 2, 1, 2, 0, 0) :: (63, .iload_n 3, 1, 3, 0, 0) :: (64, .invokevirtual 288, 3, 212, 6, 0) :: (67, .aload_n 0, 1, 0, 0, 0) :: (68, .invokevirtual 292, 3, 211, 1, 0) :: (71, .ireturn, 1, 0, 0, 0) :: []
def px_c213_36 : List px_I := (36, .aload_n 0, 1, 0, 0, 0) :: (37, .bipush (-6), 2, 0, 0, (-6)) :: (39, .invokevirtual 133, 3, 149, 2, 0) :: (42, .ireturn, 1, 0, 0, 0) :: px_c213_43
def px_c213_20 : List px_I := (20, .aload_n 0, 1, 0, 0, 0) :: (21, .iload_n 2, 1, 2, 0, 0) :: (22, .invokevirtual 137, 3, 156, 2, 0) :: (25, .ifCond .eq 11, 3, 36, 0, 0) :: (28, .aload_n 0, 1, 0, 0, 0) :: (29, .iload_n 3, 1, 3, 0, 0) :: (30, .invokevirtual 137, 3, 156, 2, 0) :: (33, .ifCond .ne 10, 3, 43, 0, 0) :: px_c213_36
def px_c213_0 : List px_I := (0, .aload_n 0, 1, 0, 0, 0) :: (1, .iload_n 1, 1, 1, 0, 0) :: (2, .iconst 2, 1, 0, 0, 2) :: (3, .invokevirtual 236, 3, 166, 3, 0) :: (6, .istore 4, 2, 4, 0, 0) :: (8, .iload 4, 2, 4, 0, 0) :: (10, .ifCond .eq 10, 3, 20, 0, 0) :: (13, .aload_n 0, 1, 0, 0, 0) :: (14, .iload 4, 2, 4, 0, 0) :: (16, .invokevirtual 133, 3, 149, 2, 0) :: (19, .ireturn, 1, 0, 0, 0) :: px_c213_20
def px_c214_43 : List px_I := (43, .aload_n 0, 1, 0, 0, 0) :: (44, .aload_n 0, 1, 0, 0, 0) :: (45, .getfield 86, 3, 8, 32, 0) :: (48, .iload_n 1, 1, 1, 0, 0) :: (49, .iaload, 1, 0, 0, 0) :: (50, .aload_n 0, 1, 0, 0, 0) :: (51, .getfield 89, 3, 8, 33, 0) :: (54, .iload_n 1, 1, 1, 0, 0) :: (55, .iaload, 1, 0, 0, 0) :: (56, .aload_n 0, 1, 0, 0, 0) :: (57, .getfield 83, 3, 8, 31, 0) :: (60, .iload_n 1, 1, 1, 0, 0) :: (61, .iaload, 1, 0, 0, 0) :: (62, .iload_n 2, 1, 2, 0, 0) :: (63, .iload_n 3, 1, 3, 0, 0) :: (64, .invokevirtual 288, 3, 212, 6, 0) :: (67, .aload_n 0, 1, 0, 0, 0) :: (68, .invokevirtual 292, 3, 211, 1, 0) :: (71, .pop, 1, 0, 0, 0) :: (72, .aload_n 0, 1, 0, 0, 0) :: (73, .getfield 282, 3, 8, 45, 0) :: (76, .ireturn, 1, 0, 0, 0) :: []
def px_c214_36 : List px_I := (36, .aload_n 0, 1, 0, 0, 0) :: (37, .bipush (-6), 2, 0, 0, (-6)) :: (39, .invokevirtual 252, 3, 150, 2, 0) :: (42, .ireturn, 1, 0, 0, 0) :: px_c214_43
def px_c214_20 : List px_I := (20, .aload_n 0, 1, 0, 0, 0) :: (21, .iload_n 2, 1, 2, 0, 0) :: (22, .invokevirtual 137, 3, 156, 2, 0) :: (25, .ifCond .eq 11, 3, 36, 0, 0) :: (28, .aload_n 0, 1, 0, 0, 0) :: (29, .iload_n 3, 1, 3, 0, 0) :: (30, .invokevirtual 137, 3, 156, 2, 0) :: (33, .ifCond .ne 10, 3, 43, 0, 0) :: px_c214_36
def px_c214_0 : List px_I := (0, .aload_n 0, 1, 0, 0, 0) :: (1, .iload_n 1, 1, 1, 0, 0) :: (2, .iconst 2, 1, 0, 0, 2) :: (3, .invokevirtual 236, 3, 166, 3, 0) :: (6, .istore 4, 2, 4, 0, 0) :: (8, .iload 4, 2, 4, 0, 0) :: (10, .ifCond .eq 10, 3, 20, 0, 0) :: (13, .aload_n 0, 1, 0, 0, 0) :: (14, .iload 4, 2, 4, 0, 0) :: (16, .invokevirtual 252, 3, 150, 2, 0) :: (19, .ireturn, 1, 0, 0, 0) :: px_c214_20
def px_c215_47 : List px_I := (47, .iload_n 3, 1, 3, 0, 0) :: (48, .ireturn, 1, 0, 0, 0) :: []
def px_c215_41 : List px_I := (41, .iinc 4 1, 3, 4, 0, 1) :: (44, .goto (-39), 3, 5, 0, 0) :: px_c215_47
def px_c215_5 : List px_I := (5, .iload 4, 2, 4, 0, 0) :: (7, .aload_n 0, 1, 0, 0, 0) :: (8, .getfield 126, 3, 8, 1, 0) :: (11, .if_icmp .ge 36, 3, 47, 0, 0) :: (14, .iload_n 1, 1, 1, 0, 0) :: (15, .iload 4, 2, 4, 0, 0) :: (17, .ishr, 1, 0, 0, 0) :: (18, .iconst 1, 1, 0, 0, 1) :: (19, .iand, 1, 0, 0, 0) :: (20, .iconst 1, 1, 0, 0, 1) :: (21, .if_icmp .ne 20, 3, 41, 0, 0) :: (24, .iload_n 3, 1, 3, 0, 0) :: (25, .aload_n 0, 1, 0, 0, 0) :: (26, .getfield 35, 3, 8, 15, 0) :: (29, .iload_n 2, 1, 2, 0, 0) :: (30, .iaload, 1, 0, 0, 0) :: (31, .aload_n 0, 1, 0, 0, 0) :: (32, .getfield 44, 3, 8, 18, 0) :: (35, .iload 4, 2, 4, 0, 0) :: (37, .iaload, 1, 0, 0, 0) :: (38, .iadd, 1, 0, 0, 0) :: (39, .iadd, 1, 0, 0, 0) :: (40, .istore_n 3, 1, 3, 0, 0) :: px_c215_41
def px_c215_0 : List px_I := (0, .iconst 0, 1, 0, 0, 0) :: (1, .istore_n 3, 1, 3, 0, 0) :: (2, .iconst 0, 1, 0, 0, 0) :: (3, .istore 4, 2, 4, 0, 0) :: px_c215_5
def px_c216_30 : List px_I := (30, .ireturn, 1, 0, 0, 0) :: []
def px_c216_25 : List px_I := (25, .aload_n 0, 1, 0, 0, 0) :: (26, .iconst (-1), 1, 0, 0, (-1)) :: (27, .invokevirtual 133, 3, 149, 2, 0) :: px_c216_30
def px_c216_0 : List px_I := (0, .aload_n 0, 1, 0, 0, 0) :: (1, .iload_n 2, 1, 2, 0, 0) :: (2, .invokevirtual 246, 3, 153, 2, 0) :: (5, .ifCond .eq 20, 3, 25, 0, 0) :: (8, .aload_n 0, 1, 0, 0, 0) :: (9, .iload_n 1, 1, 1, 0, 0) :: (10, .invokevirtual 295, 3, 155, 2, 0) :: (13, .ifCond .eq 12, 3, 25, 0, 0) :: (16, .aload_n 0, 1, 0, 0, 0) :: (17, .iload_n 1, 1, 1, 0, 0) :: (18, .iload_n 2, 1, 2, 0, 0) :: (19, .invokevirtual 298, 3, 215, 3, 0) :: (22, .goto 8, 3, 30, 0, 0) :: px_c216_25
def px_c217_69 : List px_I := (69, .return_, 1, 0, 0, 0) :: []
def px_c217_51 : List px_I := (51, .aload_n 0, 1, 0, 0, 0) :: (52, .getfield 114, 3, 8, 47, 0) :: (55, .iload_n 3, 1, 3, 0, 0) :: (56, .aload_n 0, 1, 0, 0, 0) :: (57, .iload_n 3, 1, 3, 0, 0) :: (58, .iconst 0, 1, 0, 0, 0) :: (59, .invokevirtual 268, 3, 203, 3, 0) :: (62, .iastore, 1, 0, 0, 0) :: (63, .iinc 3 1, 3, 3, 0, 1) :: (66, .goto (-64), 3, 2, 0, 0) :: px_c217_69
def px_c217_15 : List px_I := (15, .iload 4, 2, 4, 0, 0) :: (17, .aload_n 0, 1, 0, 0, 0) :: (18, .getfield 126, 3, 8, 1, 0) :: (21, .if_icmp .ge 30, 3, 51, 0, 0) :: (24, .aload_n 0, 1, 0, 0, 0) :: (25, .getfield 111, 3, 8, 46, 0) :: (28, .bipush 120, 2, 0, 0, 120) :: (30, .iload 4, 2, 4, 0, 0) :: (32, .imul, 1, 0, 0, 0) :: (33, .iload_n 3, 1, 3, 0, 0) :: (34, .iadd, 1, 0, 0, 0) :: (35, .aload_n 0, 1, 0, 0, 0) :: (36, .iload_n 1, 1, 1, 0, 0) :: (37, .iload 4, 2, 4, 0, 0) :: (39, .iload_n 3, 1, 3, 0, 0) :: (40, .iload_n 2, 1, 2, 0, 0) :: (41, .invokevirtual 265, 3, 201, 5, 0) :: (44, .iastore, 1, 0, 0, 0) :: (45, .iinc 4 1, 3, 4, 0, 1) :: (48, .goto (-33), 3, 15, 0, 0) :: px_c217_51
def px_c217_2 : List px_I := (2, .iload_n 3, 1, 3, 0, 0) :: (3, .iconst 2, 1, 0, 0, 2) :: (4, .aload_n 0, 1, 0, 0, 0) :: (5, .getfield 19, 3, 8, 10, 0) :: (8, .imul, 1, 0, 0, 0) :: (9, .if_icmp .ge 60, 3, 69, 0, 0) :: (12, .iconst 0, 1, 0, 0, 0) :: (13, .istore 4, 2, 4, 0, 0) :: px_c217_15
def px_c217_0 : List px_I := (0, .iconst 0, 1, 0, 0, 0) :: (1, .istore_n 3, 1, 3, 0, 0) :: px_c217_2
def px_c218_75 : List px_I := (75, .aload_n 0, 1, 0, 0, 0) :: (76, .invokevirtual 292, 3, 211, 1, 0) :: (79, .ireturn, 1, 0, 0, 0) :: []
def px_c218_69 : List px_I := (69, .iinc 2 1, 3, 2, 0, 1) :: (72, .goto (-70), 3, 2, 0, 0) :: px_c218_75
def px_c218_63 : List px_I := (63, .iinc 3 1, 3, 3, 0, 1) :: (66, .goto (-40), 3, 26, 0, 0) :: px_c218_69
def px_c218_26 : List px_I := (26, .iload_n 3, 1, 3, 0, 0) :: (27, .aload_n 0, 1, 0, 0, 0) :: (28, .getfield 126, 3, 8, 1, 0) :: (31, .if_icmp .ge 38, 3, 69, 0, 0) :: (34, .iload_n 1, 1, 1, 0, 0) :: (35, .iload_n 3, 1, 3, 0, 0) :: (36, .ishr, 1, 0, 0, 0) :: (37, .iconst 1, 1, 0, 0, 1) :: (38, .iand, 1, 0, 0, 0) :: (39, .iconst 1, 1, 0, 0, 1) :: (40, .if_icmp .ne 23, 3, 63, 0, 0) :: (43, .aload_n 0, 1, 0, 0, 0) :: (44, .getfield 108, 3, 8, 44, 0) :: (47, .iload_n 2, 1, 2, 0, 0) :: (48, .dup2, 1, 0, 0, 0) :: (49, .iaload, 1, 0, 0, 0) :: (50, .aload_n 0, 1, 0, 0, 0) :: (51, .getfield 111, 3, 8, 46, 0) :: (54, .bipush 120, 2, 0, 0, 120) :: (56, .iload_n 3, 1, 3, 0, 0) :: (57, .imul, 1, 0, 0, 0) :: (58, .iload_n 2, 1, 2, 0, 0) :: (59, .iadd, 1, 0, 0, 0) :: (60, .iaload, 1, 0, 0, 0) :: (61, .iadd, 1, 0, 0, 0) :: (62, .iastore, 1, 0, 0, 0) :: px_c218_63
def px_c218_2 : List px_I := (2, .iload_n 2, 1, 2, 0, 0) :: (3, .iconst 2, 1, 0, 0, 2) :: (4, .aload_n 0, 1, 0, 0, 0) :: (5, .getfield 19, 3, 8, 10, 0) :: (8, .imul, 1, 0, 0, 0) :: (9, .if_icmp .ge 66, 3, 75, 0, 0) :: (12, .aload_n 0, 1, 0, 0, 0) :: (13, .getfield 108, 3, 8, 44, 0) :: (16, .iload_n 2, 1, 2, 0, 0) :: (17, .aload_n 0, 1, 0, 0, 0) :: (18, .getfield 114, 3, 8, 47, 0) :: (21, .iload_n 2, 1, 2, 0, 0) :: (22, .iaload, 1, 0, 0, 0) :: (23, .iastore, 1, 0, 0, 0) :: (24, .iconst 0, 1, 0, 0, 0) :: (25, .istore_n 3, 1, 3, 0, 0) :: px_c218_26
def px_c218_0 : List px_I := (0, .iconst 0, 1, 0, 0, 0) :: (1, .istore_n 2, 1, 2, 0, 0) :: px_c218_2
def px_c219_51 : List px_I := (51, .iconst 1, 1, 0, 0, 1) :: (52, .ireturn, 1, 0, 0, 0) :: []
def px_c219_45 : List px_I := (45, .iinc 2 1, 3, 2, 0, 1) :: (48, .goto (-46), 3, 2, 0, 0) :: px_c219_51
def px_c219_43 : List px_I := (43, .iconst 0, 1, 0, 0, 0) :: (44, .ireturn, 1, 0, 0, 0) :: px_c219_45
def px_c219_21 : List px_I := (21, .aload_n 0, 1, 0, 0, 0) :: (22, .iload_n 1, 1, 1, 0, 0) :: (23, .iconst 1, 1, 0, 0, 1) :: (24, .iload_n 2, 1, 2, 0, 0) :: (25, .ishl, 1, 0, 0, 0) :: (26, .iconst (-1), 1, 0, 0, (-1)) :: (27, .ixor, 1, 0, 0, 0) :: (28, .iand, 1, 0, 0, 0) :: (29, .invokevirtual 301, 3, 218, 2, 0) :: (32, .istore_n 3, 1, 3, 0, 0) :: (33, .iload_n 3, 1, 3, 0, 0) :: (34, .iconst 1, 1, 0, 0, 1) :: (35, .if_icmp .eq 8, 3, 43, 0, 0) :: (38, .iload_n 3, 1, 3, 0, 0) :: (39, .iconst 2, 1, 0, 0, 2) :: (40, .if_icmp .ne 5, 3, 45, 0, 0) :: px_c219_43
def px_c219_2 : List px_I := (2, .iload_n 2, 1, 2, 0, 0) :: (3, .aload_n 0, 1, 0, 0, 0) :: (4, .getfield 126, 3, 8, 1, 0) :: (7, .if_icmp .ge 44, 3, 51, 0, 0) :: (10, .iload_n 1, 1, 1, 0, 0) :: (11, .iload_n 2, 1, 2, 0, 0) :: (12, .ishr, 1, 0, 0, 0) :: (13, .iconst 1, 1, 0, 0, 1) :: (14, .iand, 1, 0, 0, 0) :: (15, .ifCond .ne 6, 3, 21, 0, 0) :: (18, .goto 27, 3, 45, 0, 0) :: px_c219_21
def px_c219_0 : List px_I := (0, .iconst 0, 1, 0, 0, 0) :: (1, .istore_n 2, 1, 2, 0, 0) :: px_c219_2
def px_c220_155 : List px_I := (155, .iload 4, 2, 4, 0, 0) :: (157, .ireturn, 1, 0, 0, 0) :: []
def px_c220_149 : List px_I := (149, .iinc 5 1, 3, 5, 0, 1) :: (152, .goto (-140), 3, 12, 0, 0) :: px_c220_155
def px_c220_145 : List px_I := (145, .iload 5, 2, 5, 0, 0) :: (147, .istore 4, 2, 4, 0, 0) :: px_c220_149
def px_c220_119 : List px_I := (119, .aload_n 0, 1, 0, 0, 0) :: (120, .iload 5, 2, 5, 0, 0) :: (122, .invokevirtual 301, 3, 218, 2, 0) :: (125, .ifCond .ne 24, 3, 149, 0, 0) :: (128, .iload_n 3, 1, 3, 0, 0) :: (129, .iconst 2, 1, 0, 0, 2) :: (130, .if_icmp .ne 15, 3, 145, 0, 0) :: (133, .aload_n 0, 1, 0, 0, 0) :: (134, .iload 5, 2, 5, 0, 0) :: (136, .invokevirtual 308, 3, 219, 2, 0) :: (139, .ifCond .ne 6, 3, 145, 0, 0) :: (142, .goto 7, 3, 149, 0, 0) :: px_c220_145
def px_c220_109 : List px_I := (109, .istore 10, 2, 10, 0, 0) :: (111, .iload 10, 2, 10, 0, 0) :: (113, .ifCond .ne 6, 3, 119, 0, 0) :: (116, .goto 33, 3, 149, 0, 0) :: px_c220_119
def px_c220_108 : List px_I := (108, .iconst 0, 1, 0, 0, 0) :: px_c220_109
def px_c220_97 : List px_I := (97, .iload 8, 2, 8, 0, 0) :: (99, .iload 9, 2, 9, 0, 0) :: (101, .if_icmp .ge 7, 3, 108, 0, 0) :: (104, .iconst 1, 1, 0, 0, 1) :: (105, .goto 4, 3, 109, 0, 0) :: px_c220_108
def px_c220_93 : List px_I := (93, .iconst 0, 1, 0, 0, 0) :: (94, .goto 15, 3, 109, 0, 0) :: px_c220_97
def px_c220_89 : List px_I := (89, .iconst 1, 1, 0, 0, 1) :: (90, .goto 19, 3, 109, 0, 0) :: px_c220_93
def px_c220_12 : List px_I := (12, .iload 5, 2, 5, 0, 0) :: (14, .iconst 1, 1, 0, 0, 1) :: (15, .aload_n 0, 1, 0, 0, 0) :: (16, .getfield 126, 3, 8, 1, 0) :: (19, .ishl, 1, 0, 0, 0) :: (20, .if_icmp .ge 135, 3, 155, 0, 0) :: (23, .iload 4, 2, 4, 0, 0) :: (25, .iconst (-1), 1, 0, 0, (-1)) :: (26, .if_icmp .eq 93, 3, 119, 0, 0) :: (29, .aload_n 0, 1, 0, 0, 0) :: (30, .iload 5, 2, 5, 0, 0) :: (32, .invokevirtual 152, 3, 165, 2, 0) :: (35, .istore 6, 2, 6, 0, 0) :: (37, .aload_n 0, 1, 0, 0, 0) :: (38, .iload 4, 2, 4, 0, 0) :: (40, .invokevirtual 152, 3, 165, 2, 0) :: (43, .istore 7, 2, 7, 0, 0) :: (45, .aload_n 0, 1, 0, 0, 0) :: (46, .iload 5, 2, 5, 0, 0) :: (48, .iload_n 1, 1, 1, 0, 0) :: (49, .invokevirtual 298, 3, 215, 3, 0) :: (52, .istore 8, 2, 8, 0, 0) :: (54, .aload_n 0, 1, 0, 0, 0) :: (55, .iload 4, 2, 4, 0, 0) :: (57, .iload_n 1, 1, 1, 0, 0) :: (58, .invokevirtual 298, 3, 215, 3, 0) :: (61, .istore 9, 2, 9, 0, 0) :: (63, .iload_n 3, 1, 3, 0, 0) :: (64, .iconst 1, 1, 0, 0, 1) :: (65, .if_icmp .ne 32, 3, 97, 0, 0) :: (68, .iload 6, 2, 6, 0, 0) :: (70, .iload 7, 2, 7, 0, 0) :: (72, .if_icmp .lt 17, 3, 89, 0, 0) :: (75, .iload 6, 2, 6, 0, 0) :: (77, .iload 7, 2, 7, 0, 0) :: (79, .if_icmp .ne 14, 3, 93, 0, 0) :: (82, .iload 8, 2, 8, 0, 0) :: (84, .iload 9, 2, 9, 0, 0) :: (86, .if_icmp .ge 7, 3, 93, 0, 0) :: px_c220_89
def px_c220_0 : List px_I := (0, .aload_n 0, 1, 0, 0, 0) :: (1, .iload_n 1, 1, 1, 0, 0) :: (2, .iload_n 2, 1, 2, 0, 0) :: (3, .invokevirtual 304, 3, 217, 3, 0) :: (6, .iconst (-1), 1, 0, 0, (-1)) :: (7, .istore 4, 2, 4, 0, 0) :: (9, .iconst 0, 1, 0, 0, 0) :: (10, .istore 5, 2, 5, 0, 0) :: px_c220_12
def px_c221_55 : List px_I := (55, .ireturn, 1, 0, 0, 0) :: []
def px_c221_53 : List px_I := (53, .iload 4, 2, 4, 0, 0) :: px_c221_55
def px_c221_29 : List px_I := (29, .aload_n 0, 1, 0, 0, 0) :: (30, .iload_n 1, 1, 1, 0, 0) :: (31, .iload_n 2, 1, 2, 0, 0) :: (32, .iload_n 3, 1, 3, 0, 0) :: (33, .invokevirtual 311, 3, 220, 4, 0) :: (36, .istore 4, 2, 4, 0, 0) :: (38, .iload 4, 2, 4, 0, 0) :: (40, .iconst (-1), 1, 0, 0, (-1)) :: (41, .if_icmp .ne 12, 3, 53, 0, 0) :: (44, .aload_n 0, 1, 0, 0, 0) :: (45, .bipush (-5), 2, 0, 0, (-5)) :: (47, .invokevirtual 133, 3, 149, 2, 0) :: (50, .goto 5, 3, 55, 0, 0) :: px_c221_53
def px_c221_14 : List px_I := (14, .aload_n 0, 1, 0, 0, 0) :: (15, .iload_n 2, 1, 2, 0, 0) :: (16, .invokevirtual 137, 3, 156, 2, 0) :: (19, .ifCond .ne 10, 3, 29, 0, 0) :: (22, .aload_n 0, 1, 0, 0, 0) :: (23, .bipush (-6), 2, 0, 0, (-6)) :: (25, .invokevirtual 133, 3, 149, 2, 0) :: (28, .ireturn, 1, 0, 0, 0) :: px_c221_29
def px_c221_0 : List px_I := (0, .aload_n 0, 1, 0, 0, 0) :: (1, .iload_n 1, 1, 1, 0, 0) :: (2, .invokevirtual 246, 3, 153, 2, 0) :: (5, .ifCond .ne 9, 3, 14, 0, 0) :: (8, .aload_n 0, 1, 0, 0, 0) :: (9, .iconst (-1), 1, 0, 0, (-1)) :: (10, .invokevirtual 133, 3, 149, 2, 0) :: (13, .ireturn, 1, 0, 0, 0) :: px_c221_14
def px_c222_0 : List px_I := (0, .aload_n 0, 1, 0, 0, 0) :: (1, .iload_n 1, 1, 1, 0, 0) :: (2, .iload_n 2, 1, 2, 0, 0) :: (3, .iconst 0, 1, 0, 0, 0) :: (4, .invokevirtual 314, 3, 221, 4, 0) :: (7, .ireturn, 1, 0, 0, 0) :: []
def px_c223_0 : List px_I := (0, .aload_n 0, 1, 0, 0, 0) :: (1, .iload_n 1, 1, 1, 0, 0) :: (2, .iload_n 2, 1, 2, 0, 0) :: (3, .iconst 1, 1, 0, 0, 1) :: (4, .invokevirtual 314, 3, 221, 4, 0) :: (7, .ireturn, 1, 0, 0, 0) :: []
def px_c224_0 : List px_I := (0, .aload_n 0, 1, 0, 0, 0) :: (1, .iload_n 1, 1, 1, 0, 0) :: (2, .iload_n 2, 1, 2, 0, 0) :: (3, .iconst 2, 1, 0, 0, 2) :: (4, .invokevirtual 314, 3, 221, 4, 0) :: (7, .ireturn, 1, 0, 0, 0) :: []
def px_c225_217 : List px_I := (217, .iload_n 3, 1, 3, 0, 0) :: (218, .ireturn, 1, 0, 0, 0) :: []
def px_c225_211 : List px_I := (211, .iinc 4 1, 3, 4, 0, 1) :: (214, .goto (-174), 3, 40, 0, 0) :: px_c225_217
def px_c225_210 : List px_I := (210, .istore_n 3, 1, 3, 0, 0) :: px_c225_211
def px_c225_209 : List px_I := (209, .iload_n 3, 1, 3, 0, 0) :: px_c225_210
def px_c225_198 : List px_I := (198, .iload 6, 2, 6, 0, 0) :: (200, .iload_n 3, 1, 3, 0, 0) :: (201, .if_icmp .le 8, 3, 209, 0, 0) :: (204, .iload 6, 2, 6, 0, 0) :: (206, .goto 4, 3, 210, 0, 0) :: px_c225_209
def px_c225_165 : List px_I := (165, .iload 5, 2, 5, 0, 0) :: (167, .iconst 1, 1, 0, 0, 1) :: (168, .iload 8, 2, 8, 0, 0) :: (170, .ishl, 1, 0, 0, 0) :: (171, .ior, 1, 0, 0, 0) :: (172, .istore 5, 2, 5, 0, 0) :: (174, .iload 7, 2, 7, 0, 0) :: (176, .aload_n 0, 1, 0, 0, 0) :: (177, .getfield 111, 3, 8, 46, 0) :: (180, .bipush 120, 2, 0, 0, 120) :: (182, .iload 8, 2, 8, 0, 0) :: (184, .imul, 1, 0, 0, 0) :: (185, .iload 4, 2, 4, 0, 0) :: (187, .iadd, 1, 0, 0, 0) :: (188, .iaload, 1, 0, 0, 0) :: (189, .iadd, 1, 0, 0, 0) :: (190, .istore 7, 2, 7, 0, 0) :: (192, .iinc 6 1, 3, 6, 0, 1) :: (195, .goto (-117), 3, 78, 0, 0) :: px_c225_198
def px_c225_157 : List px_I := (157, .iload 8, 2, 8, 0, 0) :: (159, .iconst (-1), 1, 0, 0, (-1)) :: (160, .if_icmp .ne 5, 3, 165, 0, 0) :: (163, .iconst (-1), 1, 0, 0, (-1)) :: (164, .ireturn, 1, 0, 0, 0) :: px_c225_165
def px_c225_151 : List px_I := (151, .iinc 9 1, 3, 9, 0, 1) :: (154, .goto (-61), 3, 93, 0, 0) :: px_c225_157
def px_c225_147 : List px_I := (147, .iload 9, 2, 9, 0, 0) :: (149, .istore 8, 2, 8, 0, 0) :: px_c225_151
def px_c225_93 : List px_I := (93, .iload 9, 2, 9, 0, 0) :: (95, .aload_n 0, 1, 0, 0, 0) :: (96, .getfield 126, 3, 8, 1, 0) :: (99, .if_icmp .ge 58, 3, 157, 0, 0) :: (102, .iload 5, 2, 5, 0, 0) :: (104, .iload 9, 2, 9, 0, 0) :: (106, .ishr, 1, 0, 0, 0) :: (107, .iconst 1, 1, 0, 0, 1) :: (108, .iand, 1, 0, 0, 0) :: (109, .ifCond .ne 42, 3, 151, 0, 0) :: (112, .iload 8, 2, 8, 0, 0) :: (114, .iconst (-1), 1, 0, 0, (-1)) :: (115, .if_icmp .eq 32, 3, 147, 0, 0) :: (118, .aload_n 0, 1, 0, 0, 0) :: (119, .getfield 111, 3, 8, 46, 0) :: (122, .bipush 120, 2, 0, 0, 120) :: (124, .iload 9, 2, 9, 0, 0) :: (126, .imul, 1, 0, 0, 0) :: (127, .iload 4, 2, 4, 0, 0) :: (129, .iadd, 1, 0, 0, 0) :: (130, .iaload, 1, 0, 0, 0) :: (131, .aload_n 0, 1, 0, 0, 0) :: (132, .getfield 111, 3, 8, 46, 0) :: (135, .bipush 120, 2, 0, 0, 120) :: (137, .iload 8, 2, 8, 0, 0) :: (139, .imul, 1, 0, 0, 0) :: (140, .iload 4, 2, 4, 0, 0) :: (142, .iadd, 1, 0, 0, 0) :: (143, .iaload, 1, 0, 0, 0) :: (144, .if_icmp .le 7, 3, 151, 0, 0) :: px_c225_147
def px_c225_78 : List px_I := (78, .iload 7, 2, 7, 0, 0) :: (80, .aload_n 0, 1, 0, 0, 0) :: (81, .getfield 7, 3, 8, 7, 0) :: (84, .if_icmp .ge 114, 3, 198, 0, 0) :: (87, .iconst (-1), 1, 0, 0, (-1)) :: (88, .istore 8, 2, 8, 0, 0) :: (90, .iconst 0, 1, 0, 0, 0) :: (91, .istore 9, 2, 9, 0, 0) :: px_c225_93
def px_c225_63 : List px_I := (63, .iconst 0, 1, 0, 0, 0) :: (64, .istore 5, 2, 5, 0, 0) :: (66, .iconst 0, 1, 0, 0, 0) :: (67, .istore 6, 2, 6, 0, 0) :: (69, .aload_n 0, 1, 0, 0, 0) :: (70, .getfield 114, 3, 8, 47, 0) :: (73, .iload 4, 2, 4, 0, 0) :: (75, .iaload, 1, 0, 0, 0) :: (76, .istore 7, 2, 7, 0, 0) :: px_c225_78
def px_c225_40 : List px_I := (40, .iload 4, 2, 4, 0, 0) :: (42, .iconst 2, 1, 0, 0, 2) :: (43, .aload_n 0, 1, 0, 0, 0) :: (44, .getfield 19, 3, 8, 10, 0) :: (47, .imul, 1, 0, 0, 0) :: (48, .if_icmp .ge 169, 3, 217, 0, 0) :: (51, .aload_n 0, 1, 0, 0, 0) :: (52, .iload 4, 2, 4, 0, 0) :: (54, .invokevirtual 285, 3, 210, 2, 0) :: (57, .ifCond .eq 6, 3, 63, 0, 0) :: (60, .goto 151, 3, 211, 0, 0) :: px_c225_63
def px_c225_29 : List px_I := (29, .aload_n 0, 1, 0, 0, 0) :: (30, .iload_n 1, 1, 1, 0, 0) :: (31, .iload_n 2, 1, 2, 0, 0) :: (32, .invokevirtual 304, 3, 217, 3, 0) :: (35, .iconst 0, 1, 0, 0, 0) :: (36, .istore_n 3, 1, 3, 0, 0) :: (37, .iconst 0, 1, 0, 0, 0) :: (38, .istore 4, 2, 4, 0, 0) :: px_c225_40
def px_c225_14 : List px_I := (14, .aload_n 0, 1, 0, 0, 0) :: (15, .iload_n 2, 1, 2, 0, 0) :: (16, .invokevirtual 137, 3, 156, 2, 0) :: (19, .ifCond .ne 10, 3, 29, 0, 0) :: (22, .aload_n 0, 1, 0, 0, 0) :: (23, .bipush (-6), 2, 0, 0, (-6)) :: (25, .invokevirtual 252, 3, 150, 2, 0) :: (28, .ireturn, 1, 0, 0, 0) :: px_c225_29
def px_c225_0 : List px_I := (0, .aload_n 0, 1, 0, 0, 0) :: (1, .iload_n 1, 1, 1, 0, 0) :: (2, .invokevirtual 246, 3, 153, 2, 0) :: (5, .ifCond .ne 9, 3, 14, 0, 0) :: (8, .aload_n 0, 1, 0, 0, 0) :: (9, .iconst (-1), 1, 0, 0, (-1)) :: (10, .invokevirtual 252, 3, 150, 2, 0) :: (13, .ireturn, 1, 0, 0, 0) :: px_c225_14
def px_c226_101 : List px_I := (101, .ireturn, 1, 0, 0, 0) :: []
def px_c226_100 : List px_I := (100, .iload_n 2, 1, 2, 0, 0) :: px_c226_101
def px_c226_86 : List px_I := (86, .iload_n 2, 1, 2, 0, 0) :: (87, .iconst (-1), 1, 0, 0, (-1)) :: (88, .if_icmp .ne 12, 3, 100, 0, 0) :: (91, .aload_n 0, 1, 0, 0, 0) :: (92, .bipush (-5), 2, 0, 0, (-5)) :: (94, .invokevirtual 133, 3, 149, 2, 0) :: (97, .goto 4, 3, 101, 0, 0) :: px_c226_100
def px_c226_80 : List px_I := (80, .iinc 4 1, 3, 4, 0, 1) :: (83, .goto (-61), 3, 22, 0, 0) :: px_c226_86
def px_c226_74 : List px_I := (74, .iload 4, 2, 4, 0, 0) :: (76, .istore_n 2, 1, 2, 0, 0) :: (77, .iload 6, 2, 6, 0, 0) :: (79, .istore_n 3, 1, 3, 0, 0) :: px_c226_80
def px_c226_50 : List px_I := (50, .aload_n 0, 1, 0, 0, 0) :: (51, .iload 5, 2, 5, 0, 0) :: (53, .iload 4, 2, 4, 0, 0) :: (55, .invokevirtual 298, 3, 215, 3, 0) :: (58, .istore 6, 2, 6, 0, 0) :: (60, .iload_n 2, 1, 2, 0, 0) :: (61, .iconst (-1), 1, 0, 0, (-1)) :: (62, .if_icmp .eq 12, 3, 74, 0, 0) :: (65, .iload 6, 2, 6, 0, 0) :: (67, .iload_n 3, 1, 3, 0, 0) :: (68, .if_icmp .lt 6, 3, 74, 0, 0) :: (71, .goto 9, 3, 80, 0, 0) :: px_c226_74
def px_c226_22 : List px_I := (22, .iload 4, 2, 4, 0, 0) :: (24, .aload_n 0, 1, 0, 0, 0) :: (25, .getfield 123, 3, 8, 0, 0) :: (28, .if_icmp .ge 58, 3, 86, 0, 0) :: (31, .aload_n 0, 1, 0, 0, 0) :: (32, .iload 4, 2, 4, 0, 0) :: (34, .iload_n 1, 1, 1, 0, 0) :: (35, .iconst 0, 1, 0, 0, 0) :: (36, .invokevirtual 311, 3, 220, 4, 0) :: (39, .istore 5, 2, 5, 0, 0) :: (41, .iload 5, 2, 5, 0, 0) :: (43, .iconst (-1), 1, 0, 0, (-1)) :: (44, .if_icmp .ne 6, 3, 50, 0, 0) :: (47, .goto 33, 3, 80, 0, 0) :: px_c226_50
def px_c226_15 : List px_I := (15, .iconst (-1), 1, 0, 0, (-1)) :: (16, .istore_n 2, 1, 2, 0, 0) :: (17, .iconst 0, 1, 0, 0, 0) :: (18, .istore_n 3, 1, 3, 0, 0) :: (19, .iconst 0, 1, 0, 0, 0) :: (20, .istore 4, 2, 4, 0, 0) :: px_c226_22
def px_c226_0 : List px_I := (0, .aload_n 0, 1, 0, 0, 0) :: (1, .iload_n 1, 1, 1, 0, 0) :: (2, .invokevirtual 137, 3, 156, 2, 0) :: (5, .ifCond .ne 10, 3, 15, 0, 0) :: (8, .aload_n 0, 1, 0, 0, 0) :: (9, .bipush (-6), 2, 0, 0, (-6)) :: (11, .invokevirtual 133, 3, 149, 2, 0) :: (14, .ireturn, 1, 0, 0, 0) :: px_c226_15
def px_c227_67 : List px_I := (67, .iload_n 2, 1, 2, 0, 0) :: (68, .ireturn, 1, 0, 0, 0) :: []
def px_c227_61 : List px_I := (61, .iinc 3 1, 3, 3, 0, 1) :: (64, .goto (-46), 3, 18, 0, 0) :: px_c227_67
def px_c227_18 : List px_I := (18, .iload_n 3, 1, 3, 0, 0) :: (19, .bipush 60, 2, 0, 0, 60) :: (21, .if_icmp .ge 46, 3, 67, 0, 0) :: (24, .sipush 1000, 3, 0, 0, 1000) :: (27, .aload_n 0, 1, 0, 0, 0) :: (28, .getfield 32, 3, 8, 14, 0) :: (31, .iload_n 1, 1, 1, 0, 0) :: (32, .iaload, 1, 0, 0, 0) :: (33, .imul, 1, 0, 0, 0) :: (34, .aload_n 0, 1, 0, 0, 0) :: (35, .getfield 29, 3, 8, 13, 0) :: (38, .iload_n 1, 1, 1, 0, 0) :: (39, .iaload, 1, 0, 0, 0) :: (40, .aload_n 0, 1, 0, 0, 0) :: (41, .getfield 29, 3, 8, 13, 0) :: (44, .iload_n 1, 1, 1, 0, 0) :: (45, .iaload, 1, 0, 0, 0) :: (46, .imul, 1, 0, 0, 0) :: (47, .iload_n 3, 1, 3, 0, 0) :: (48, .iload_n 3, 1, 3, 0, 0) :: (49, .imul, 1, 0, 0, 0) :: (50, .iadd, 1, 0, 0, 0) :: (51, .idiv, 1, 0, 0, 0) :: (52, .aload_n 0, 1, 0, 0, 0) :: (53, .getfield 7, 3, 8, 7, 0) :: (56, .if_icmp .lt 5, 3, 61, 0, 0) :: (59, .iload_n 3, 1, 3, 0, 0) :: (60, .istore_n 2, 1, 2, 0, 0) :: px_c227_61
def px_c227_14 : List px_I := (14, .iconst (-1), 1, 0, 0, (-1)) :: (15, .istore_n 2, 1, 2, 0, 0) :: (16, .iconst 0, 1, 0, 0, 0) :: (17, .istore_n 3, 1, 3, 0, 0) :: px_c227_18
def px_c227_0 : List px_I := (0, .aload_n 0, 1, 0, 0, 0) :: (1, .iload_n 1, 1, 1, 0, 0) :: (2, .invokevirtual 246, 3, 153, 2, 0) :: (5, .ifCond .ne 9, 3, 14, 0, 0) :: (8, .aload_n 0, 1, 0, 0, 0) :: (9, .iconst (-1), 1, 0, 0, (-1)) :: (10, .invokevirtual 252, 3, 150, 2, 0) :: (13, .ireturn, 1, 0, 0, 0) :: px_c227_14
def px_c228_111 : List px_I := (111, .iload_n 1, 1, 1, 0, 0) :: (112, .ireturn, 1, 0, 0, 0) :: []
def px_c228_105 : List px_I := (105, .iinc 3 1, 3, 3, 0, 1) :: (108, .goto (-102), 3, 6, 0, 0) :: px_c228_111
def px_c228_100 : List px_I := (100, .iload 4, 2, 4, 0, 0) :: (102, .istore_n 2, 1, 2, 0, 0) :: (103, .iload_n 3, 1, 3, 0, 0) :: (104, .istore_n 1, 1, 1, 0, 0) :: px_c228_105
def px_c228_80 : List px_I := (80, .iload 4, 2, 4, 0, 0) :: (82, .iconst (-1), 1, 0, 0, (-1)) :: (83, .if_icmp .eq 22, 3, 105, 0, 0) :: (86, .iload_n 2, 1, 2, 0, 0) :: (87, .iconst (-1), 1, 0, 0, (-1)) :: (88, .if_icmp .eq 12, 3, 100, 0, 0) :: (91, .iload 4, 2, 4, 0, 0) :: (93, .iload_n 2, 1, 2, 0, 0) :: (94, .if_icmp .lt 6, 3, 100, 0, 0) :: (97, .goto 8, 3, 105, 0, 0) :: px_c228_100
def px_c228_74 : List px_I := (74, .iinc 5 1, 3, 5, 0, 1) :: (77, .goto (-50), 3, 27, 0, 0) :: px_c228_80
def px_c228_65 : List px_I := (65, .aload_n 0, 1, 0, 0, 0) :: (66, .getfield 108, 3, 8, 44, 0) :: (69, .iload 5, 2, 5, 0, 0) :: (71, .iaload, 1, 0, 0, 0) :: (72, .istore 4, 2, 4, 0, 0) :: px_c228_74
def px_c228_27 : List px_I := (27, .iload 5, 2, 5, 0, 0) :: (29, .iconst 2, 1, 0, 0, 2) :: (30, .aload_n 0, 1, 0, 0, 0) :: (31, .getfield 19, 3, 8, 10, 0) :: (34, .imul, 1, 0, 0, 0) :: (35, .if_icmp .ge 45, 3, 80, 0, 0) :: (38, .aload_n 0, 1, 0, 0, 0) :: (39, .iload 5, 2, 5, 0, 0) :: (41, .invokevirtual 285, 3, 210, 2, 0) :: (44, .ifCond .ne 30, 3, 74, 0, 0) :: (47, .iload 4, 2, 4, 0, 0) :: (49, .iconst (-1), 1, 0, 0, (-1)) :: (50, .if_icmp .eq 15, 3, 65, 0, 0) :: (53, .aload_n 0, 1, 0, 0, 0) :: (54, .getfield 108, 3, 8, 44, 0) :: (57, .iload 5, 2, 5, 0, 0) :: (59, .iaload, 1, 0, 0, 0) :: (60, .iload 4, 2, 4, 0, 0) :: (62, .if_icmp .ge 12, 3, 74, 0, 0) :: px_c228_65
def px_c228_6 : List px_I := (6, .iload_n 3, 1, 3, 0, 0) :: (7, .bipush 12, 2, 0, 0, 12) :: (9, .if_icmp .ge 102, 3, 111, 0, 0) :: (12, .aload_n 0, 1, 0, 0, 0) :: (13, .iconst 0, 1, 0, 0, 0) :: (14, .iconst 0, 1, 0, 0, 0) :: (15, .iconst 0, 1, 0, 0, 0) :: (16, .iload_n 3, 1, 3, 0, 0) :: (17, .iconst 0, 1, 0, 0, 0) :: (18, .invokevirtual 288, 3, 212, 6, 0) :: (21, .iconst (-1), 1, 0, 0, (-1)) :: (22, .istore 4, 2, 4, 0, 0) :: (24, .iconst 0, 1, 0, 0, 0) :: (25, .istore 5, 2, 5, 0, 0) :: px_c228_27
def px_c228_0 : List px_I := (0, .iconst 0, 1, 0, 0, 0) :: (1, .istore_n 1, 1, 1, 0, 0) :: (2, .iconst (-1), 1, 0, 0, (-1)) :: (3, .istore_n 2, 1, 2, 0, 0) :: (4, .iconst 0, 1, 0, 0, 0) :: (5, .istore_n 3, 1, 3, 0, 0) :: px_c228_6
def px_c229_170 : List px_I := (170, .iload 6, 2, 6, 0, 0) :: (172, .ireturn, 1, 0, 0, 0) :: []
def px_c229_164 : List px_I := (164, .iinc 8 1, 3, 8, 0, 1) :: (167, .goto (-77), 3, 90, 0, 0) :: px_c229_170
def px_c229_156 : List px_I := (156, .iload 9, 2, 9, 0, 0) :: (158, .istore 7, 2, 7, 0, 0) :: (160, .iload 8, 2, 8, 0, 0) :: (162, .istore 6, 2, 6, 0, 0) :: px_c229_164
def px_c229_141 : List px_I := (141, .invokevirtual 271, 3, 205, 5, 0) :: (144, .istore 9, 2, 9, 0, 0) :: (146, .iload 9, 2, 9, 0, 0) :: (148, .iload 7, 2, 7, 0, 0) :: (150, .if_icmp .gt 6, 3, 156, 0, 0) :: (153, .goto 11, 3, 164, 0, 0) :: px_c229_156
def px_c229_140 : List px_I := (140, .iconst 0, 1, 0, 0, 0) :: px_c229_141
def px_c229_112 : List px_I := (112, .aload_n 0, 1, 0, 0, 0) :: (113, .iload 8, 2, 8, 0, 0) :: (115, .iload_n 2, 1, 2, 0, 0) :: (116, .iload_n 3, 1, 3, 0, 0) :: (117, .aload_n 0, 1, 0, 0, 0) :: (118, .getfield 86, 3, 8, 32, 0) :: (121, .iload_n 1, 1, 1, 0, 0) :: (122, .iaload, 1, 0, 0, 0) :: (123, .iconst 4, 1, 0, 0, 4) :: (124, .if_icmp .ne 16, 3, 140, 0, 0) :: (127, .aload_n 0, 1, 0, 0, 0) :: (128, .getfield 89, 3, 8, 33, 0) :: (131, .iload_n 1, 1, 1, 0, 0) :: (132, .iaload, 1, 0, 0, 0) :: (133, .ifCond .ne 7, 3, 140, 0, 0) :: (136, .iconst 1, 1, 0, 0, 1) :: (137, .goto 4, 3, 141, 0, 0) :: px_c229_140
def px_c229_90 : List px_I := (90, .iload 8, 2, 8, 0, 0) :: (92, .aload_n 0, 1, 0, 0, 0) :: (93, .getfield 126, 3, 8, 1, 0) :: (96, .if_icmp .ge 74, 3, 170, 0, 0) :: (99, .iload 5, 2, 5, 0, 0) :: (101, .iload 8, 2, 8, 0, 0) :: (103, .ishr, 1, 0, 0, 0) :: (104, .iconst 1, 1, 0, 0, 1) :: (105, .iand, 1, 0, 0, 0) :: (106, .ifCond .ne 6, 3, 112, 0, 0) :: (109, .goto 55, 3, 164, 0, 0) :: px_c229_112
def px_c229_57 : List px_I := (57, .aload_n 0, 1, 0, 0, 0) :: (58, .aload_n 0, 1, 0, 0, 0) :: (59, .getfield 86, 3, 8, 32, 0) :: (62, .iload_n 1, 1, 1, 0, 0) :: (63, .iaload, 1, 0, 0, 0) :: (64, .aload_n 0, 1, 0, 0, 0) :: (65, .getfield 89, 3, 8, 33, 0) :: (68, .iload_n 1, 1, 1, 0, 0) :: (69, .iaload, 1, 0, 0, 0) :: (70, .aload_n 0, 1, 0, 0, 0) :: (71, .getfield 83, 3, 8, 31, 0) :: (74, .iload_n 1, 1, 1, 0, 0) :: (75, .iaload, 1, 0, 0, 0) :: (76, .invokevirtual 148, 3, 202, 4, 0) :: (79, .istore 5, 2, 5, 0, 0) :: (81, .iconst (-1), 1, 0, 0, (-1)) :: (82, .istore 6, 2, 6, 0, 0) :: (84, .iconst 0, 1, 0, 0, 0) :: (85, .istore 7, 2, 7, 0, 0) :: (87, .iconst 0, 1, 0, 0, 0) :: (88, .istore 8, 2, 8, 0, 0) :: px_c229_90
def px_c229_42 : List px_I := (42, .aload_n 0, 1, 0, 0, 0) :: (43, .iload_n 3, 1, 3, 0, 0) :: (44, .invokevirtual 137, 3, 156, 2, 0) :: (47, .ifCond .ne 10, 3, 57, 0, 0) :: (50, .aload_n 0, 1, 0, 0, 0) :: (51, .bipush (-6), 2, 0, 0, (-6)) :: (53, .invokevirtual 252, 3, 150, 2, 0) :: (56, .ireturn, 1, 0, 0, 0) :: px_c229_57
def px_c229_22 : List px_I := (22, .aload_n 0, 1, 0, 0, 0) :: (23, .iload_n 1, 1, 1, 0, 0) :: (24, .iconst 2, 1, 0, 0, 2) :: (25, .invokevirtual 236, 3, 166, 3, 0) :: (28, .istore 4, 2, 4, 0, 0) :: (30, .iload 4, 2, 4, 0, 0) :: (32, .ifCond .eq 10, 3, 42, 0, 0) :: (35, .aload_n 0, 1, 0, 0, 0) :: (36, .iload 4, 2, 4, 0, 0) :: (38, .invokevirtual 252, 3, 150, 2, 0) :: (41, .ireturn, 1, 0, 0, 0) :: px_c229_42
def px_c229_16 : List px_I := (16, .aload_n 0, 1, 0, 0, 0) :: (17, .iconst (-1), 1, 0, 0, (-1)) :: (18, .invokevirtual 252, 3, 150, 2, 0) :: (21, .ireturn, 1, 0, 0, 0) :: px_c229_22
def px_c229_0 : List px_I := (0, .aload_n 0, 1, 0, 0, 0) :: (1, .iload_n 1, 1, 1, 0, 0) :: (2, .invokevirtual 129, 3, 151, 2, 0) :: (5, .ifCond .eq 11, 3, 16, 0, 0) :: (8, .aload_n 0, 1, 0, 0, 0) :: (9, .iload_n 2, 1, 2, 0, 0) :: (10, .invokevirtual 162, 3, 152, 2, 0) :: (13, .ifCond .ne 9, 3, 22, 0, 0) :: px_c229_16
def px_c230_104 : List px_I := (104, .iload_n 3, 1, 3, 0, 0) :: (105, .ireturn, 1, 0, 0, 0) :: []
def px_c230_98 : List px_I := (98, .iinc 4 1, 3, 4, 0, 1) :: (101, .goto (-52), 3, 49, 0, 0) :: px_c230_104
def px_c230_49 : List px_I := (49, .iload 4, 2, 4, 0, 0) :: (51, .bipush 120, 2, 0, 0, 120) :: (53, .if_icmp .ge 51, 3, 104, 0, 0) :: (56, .aload_n 0, 1, 0, 0, 0) :: (57, .iconst 0, 1, 0, 0, 0) :: (58, .iconst 0, 1, 0, 0, 0) :: (59, .iconst 0, 1, 0, 0, 0) :: (60, .iload 4, 2, 4, 0, 0) :: (62, .iload_n 2, 1, 2, 0, 0) :: (63, .iconst 0, 1, 0, 0, 0) :: (64, .invokevirtual 275, 3, 206, 7, 0) :: (67, .istore 5, 2, 5, 0, 0) :: (69, .iload 5, 2, 5, 0, 0) :: (71, .aload_n 0, 1, 0, 0, 0) :: (72, .getfield 7, 3, 8, 7, 0) :: (75, .if_icmp .lt 23, 3, 98, 0, 0) :: (78, .iload 5, 2, 5, 0, 0) :: (80, .aload_n 0, 1, 0, 0, 0) :: (81, .iload_n 1, 1, 1, 0, 0) :: (82, .iload 4, 2, 4, 0, 0) :: (84, .invokevirtual 262, 3, 204, 3, 0) :: (87, .isub, 1, 0, 0, 0) :: (88, .aload_n 0, 1, 0, 0, 0) :: (89, .getfield 7, 3, 8, 7, 0) :: (92, .if_icmp .ge 6, 3, 98, 0, 0) :: (95, .iinc 3 1, 3, 3, 0, 1) :: px_c230_98
def px_c230_44 : List px_I := (44, .iconst 0, 1, 0, 0, 0) :: (45, .istore_n 3, 1, 3, 0, 0) :: (46, .iconst 0, 1, 0, 0, 0) :: (47, .istore 4, 2, 4, 0, 0) :: px_c230_49
def px_c230_33 : List px_I := (33, .aload_n 0, 1, 0, 0, 0) :: (34, .getfield 71, 3, 8, 27, 0) :: (37, .iload_n 1, 1, 1, 0, 0) :: (38, .iaload, 1, 0, 0, 0) :: (39, .ifCond .ne 5, 3, 44, 0, 0) :: (42, .iconst 0, 1, 0, 0, 0) :: (43, .ireturn, 1, 0, 0, 0) :: px_c230_44
def px_c230_18 : List px_I := (18, .aload_n 0, 1, 0, 0, 0) :: (19, .iload_n 2, 1, 2, 0, 0) :: (20, .invokevirtual 137, 3, 156, 2, 0) :: (23, .ifCond .ne 10, 3, 33, 0, 0) :: (26, .aload_n 0, 1, 0, 0, 0) :: (27, .bipush (-6), 2, 0, 0, (-6)) :: (29, .invokevirtual 133, 3, 149, 2, 0) :: (32, .ireturn, 1, 0, 0, 0) :: px_c230_33
def px_c230_12 : List px_I := (12, .aload_n 0, 1, 0, 0, 0) :: (13, .iconst (-1), 1, 0, 0, (-1)) :: (14, .invokevirtual 133, 3, 149, 2, 0) :: (17, .ireturn, 1, 0, 0, 0) :: px_c230_18
def px_c230_0 : List px_I := (0, .iload_n 1, 1, 1, 0, 0) :: (1, .ifCond .lt 11, 3, 12, 0, 0) :: (4, .iload_n 1, 1, 1, 0, 0) :: (5, .aload_n 0, 1, 0, 0, 0) :: (6, .getfield 188, 3, 8, 5, 0) :: (9, .if_icmp .lt 9, 3, 18, 0, 0) :: px_c230_12
def px_c231_50 : List px_I := (50, .iload_n 2, 1, 2, 0, 0) :: (51, .ireturn, 1, 0, 0, 0) :: []
def px_c231_42 : List px_I := (42, .iload_n 3, 1, 3, 0, 0) :: (43, .istore_n 2, 1, 2, 0, 0) :: (44, .iinc 3 (-1), 3, 3, 0, (-1)) :: (47, .goto (-27), 3, 20, 0, 0) :: px_c231_50
def px_c231_20 : List px_I := (20, .iload_n 3, 1, 3, 0, 0) :: (21, .ifCond .lt 29, 3, 50, 0, 0) :: (24, .aload_n 0, 1, 0, 0, 0) :: (25, .iconst 4, 1, 0, 0, 4) :: (26, .iconst 0, 1, 0, 0, 0) :: (27, .iconst 0, 1, 0, 0, 0) :: (28, .iload_n 1, 1, 1, 0, 0) :: (29, .iload_n 3, 1, 3, 0, 0) :: (30, .invokevirtual 288, 3, 212, 6, 0) :: (33, .aload_n 0, 1, 0, 0, 0) :: (34, .invokevirtual 292, 3, 211, 1, 0) :: (37, .ifCond .eq 5, 3, 42, 0, 0) :: (40, .iload_n 2, 1, 2, 0, 0) :: (41, .ireturn, 1, 0, 0, 0) :: px_c231_42
def px_c231_15 : List px_I := (15, .iconst (-1), 1, 0, 0, (-1)) :: (16, .istore_n 2, 1, 2, 0, 0) :: (17, .bipush 11, 2, 0, 0, 11) :: (19, .istore_n 3, 1, 3, 0, 0) :: px_c231_20
def px_c231_0 : List px_I := (0, .aload_n 0, 1, 0, 0, 0) :: (1, .iload_n 1, 1, 1, 0, 0) :: (2, .invokevirtual 137, 3, 156, 2, 0) :: (5, .ifCond .ne 10, 3, 15, 0, 0) :: (8, .aload_n 0, 1, 0, 0, 0) :: (9, .bipush (-6), 2, 0, 0, (-6)) :: (11, .invokevirtual 252, 3, 150, 2, 0) :: (14, .ireturn, 1, 0, 0, 0) :: px_c231_15
def px_c232_161 : List px_I := (161, .ireturn, 1, 0, 0, 0) :: []
def px_c232_151 : List px_I := (151, .iload_n 1, 1, 1, 0, 0) :: (152, .iload 4, 2, 4, 0, 0) :: (154, .idiv, 1, 0, 0, 0) :: (155, .iload 5, 2, 5, 0, 0) :: (157, .bipush 50, 2, 0, 0, 50) :: (159, .iadd, 1, 0, 0, 0) :: (160, .imul, 1, 0, 0, 0) :: px_c232_161
def px_c232_141 : List px_I := (141, .iload 4, 2, 4, 0, 0) :: (143, .iconst (-1), 1, 0, 0, (-1)) :: (144, .if_icmp .ne 7, 3, 151, 0, 0) :: (147, .iconst 0, 1, 0, 0, 0) :: (148, .goto 13, 3, 161, 0, 0) :: px_c232_151
def px_c232_135 : List px_I := (135, .iload_n 2, 1, 2, 0, 0) :: (136, .ifCond .ne 5, 3, 141, 0, 0) :: (139, .iload_n 3, 1, 3, 0, 0) :: (140, .ireturn, 1, 0, 0, 0) :: px_c232_141
def px_c232_129 : List px_I := (129, .iinc 6 1, 3, 6, 0, 1) :: (132, .goto (-102), 3, 30, 0, 0) :: px_c232_135
def px_c232_127 : List px_I := (127, .istore 4, 2, 4, 0, 0) :: px_c232_129
def px_c232_125 : List px_I := (125, .iload 4, 2, 4, 0, 0) :: px_c232_127
def px_c232_120 : List px_I := (120, .iload 7, 2, 7, 0, 0) :: (122, .goto 5, 3, 127, 0, 0) :: px_c232_125
def px_c232_53 : List px_I := (53, .aload_n 0, 1, 0, 0, 0) :: (54, .getfield 38, 3, 8, 16, 0) :: (57, .aload_n 0, 1, 0, 0, 0) :: (58, .getfield 47, 3, 8, 19, 0) :: (61, .iload 6, 2, 6, 0, 0) :: (63, .iaload, 1, 0, 0, 0) :: (64, .iaload, 1, 0, 0, 0) :: (65, .istore 7, 2, 7, 0, 0) :: (67, .iload_n 3, 1, 3, 0, 0) :: (68, .iload_n 1, 1, 1, 0, 0) :: (69, .iload 7, 2, 7, 0, 0) :: (71, .idiv, 1, 0, 0, 0) :: (72, .aload_n 0, 1, 0, 0, 0) :: (73, .getfield 35, 3, 8, 15, 0) :: (76, .aload_n 0, 1, 0, 0, 0) :: (77, .getfield 47, 3, 8, 19, 0) :: (80, .iload 6, 2, 6, 0, 0) :: (82, .iaload, 1, 0, 0, 0) :: (83, .iaload, 1, 0, 0, 0) :: (84, .bipush 30, 2, 0, 0, 30) :: (86, .iadd, 1, 0, 0, 0) :: (87, .imul, 1, 0, 0, 0) :: (88, .iadd, 1, 0, 0, 0) :: (89, .istore_n 3, 1, 3, 0, 0) :: (90, .iload 5, 2, 5, 0, 0) :: (92, .aload_n 0, 1, 0, 0, 0) :: (93, .getfield 35, 3, 8, 15, 0) :: (96, .aload_n 0, 1, 0, 0, 0) :: (97, .getfield 47, 3, 8, 19, 0) :: (100, .iload 6, 2, 6, 0, 0) :: (102, .iaload, 1, 0, 0, 0) :: (103, .iaload, 1, 0, 0, 0) :: (104, .iadd, 1, 0, 0, 0) :: (105, .istore 5, 2, 5, 0, 0) :: (107, .iload 4, 2, 4, 0, 0) :: (109, .iconst (-1), 1, 0, 0, (-1)) :: (110, .if_icmp .eq 10, 3, 120, 0, 0) :: (113, .iload 7, 2, 7, 0, 0) :: (115, .iload 4, 2, 4, 0, 0) :: (117, .if_icmp .ge 8, 3, 125, 0, 0) :: px_c232_120
def px_c232_30 : List px_I := (30, .iload 6, 2, 6, 0, 0) :: (32, .aload_n 0, 1, 0, 0, 0) :: (33, .getfield 126, 3, 8, 1, 0) :: (36, .if_icmp .ge 99, 3, 135, 0, 0) :: (39, .aload_n 0, 1, 0, 0, 0) :: (40, .getfield 47, 3, 8, 19, 0) :: (43, .iload 6, 2, 6, 0, 0) :: (45, .iaload, 1, 0, 0, 0) :: (46, .iconst (-1), 1, 0, 0, (-1)) :: (47, .if_icmp .ne 6, 3, 53, 0, 0) :: (50, .goto 79, 3, 129, 0, 0) :: px_c232_53
def px_c232_19 : List px_I := (19, .iconst 0, 1, 0, 0, 0) :: (20, .istore_n 3, 1, 3, 0, 0) :: (21, .iconst (-1), 1, 0, 0, (-1)) :: (22, .istore 4, 2, 4, 0, 0) :: (24, .iconst 0, 1, 0, 0, 0) :: (25, .istore 5, 2, 5, 0, 0) :: (27, .iconst 0, 1, 0, 0, 0) :: (28, .istore 6, 2, 6, 0, 0) :: px_c232_30
def px_c232_12 : List px_I := (12, .aload_n 0, 1, 0, 0, 0) :: (13, .bipush (-6), 2, 0, 0, (-6)) :: (15, .invokevirtual 133, 3, 149, 2, 0) :: (18, .ireturn, 1, 0, 0, 0) :: px_c232_19
def px_c232_0 : List px_I := (0, .iload_n 1, 1, 1, 0, 0) :: (1, .iconst 1, 1, 0, 0, 1) :: (2, .if_icmp .lt 10, 3, 12, 0, 0) :: (5, .iload_n 1, 1, 1, 0, 0) :: (6, .sipush 240, 3, 0, 0, 240) :: (9, .if_icmp .le 10, 3, 19, 0, 0) :: px_c232_12
def px_c233_70 : List px_I := (70, .iload_n 3, 1, 3, 0, 0) :: (71, .ireturn, 1, 0, 0, 0) :: []
def px_c233_64 : List px_I := (64, .iinc 4 1, 3, 4, 0, 1) :: (67, .goto (-40), 3, 27, 0, 0) :: px_c233_70
def px_c233_58 : List px_I := (58, .if_icmp .eq 6, 3, 64, 0, 0) :: (61, .iinc 3 1, 3, 3, 0, 1) :: px_c233_64
def px_c233_57 : List px_I := (57, .iconst (-1), 1, 0, 0, (-1)) :: px_c233_58
def px_c233_27 : List px_I := (27, .iload 4, 2, 4, 0, 0) :: (29, .aload_n 0, 1, 0, 0, 0) :: (30, .getfield 126, 3, 8, 1, 0) :: (33, .if_icmp .ge 37, 3, 70, 0, 0) :: (36, .aload_n 0, 1, 0, 0, 0) :: (37, .getfield 47, 3, 8, 19, 0) :: (40, .iload 4, 2, 4, 0, 0) :: (42, .iaload, 1, 0, 0, 0) :: (43, .iload_n 1, 1, 1, 0, 0) :: (44, .iload 4, 2, 4, 0, 0) :: (46, .ishr, 1, 0, 0, 0) :: (47, .iconst 1, 1, 0, 0, 1) :: (48, .iand, 1, 0, 0, 0) :: (49, .iconst 1, 1, 0, 0, 1) :: (50, .if_icmp .ne 7, 3, 57, 0, 0) :: (53, .iload_n 2, 1, 2, 0, 0) :: (54, .goto 4, 3, 58, 0, 0) :: px_c233_57
def px_c233_22 : List px_I := (22, .iconst 0, 1, 0, 0, 0) :: (23, .istore_n 3, 1, 3, 0, 0) :: (24, .iconst 0, 1, 0, 0, 0) :: (25, .istore 4, 2, 4, 0, 0) :: px_c233_27
def px_c233_16 : List px_I := (16, .aload_n 0, 1, 0, 0, 0) :: (17, .iconst (-1), 1, 0, 0, (-1)) :: (18, .invokevirtual 133, 3, 149, 2, 0) :: (21, .ireturn, 1, 0, 0, 0) :: px_c233_22
def px_c233_0 : List px_I := (0, .aload_n 0, 1, 0, 0, 0) :: (1, .iload_n 2, 1, 2, 0, 0) :: (2, .invokevirtual 246, 3, 153, 2, 0) :: (5, .ifCond .eq 11, 3, 16, 0, 0) :: (8, .aload_n 0, 1, 0, 0, 0) :: (9, .iload_n 1, 1, 1, 0, 0) :: (10, .invokevirtual 295, 3, 155, 2, 0) :: (13, .ifCond .ne 9, 3, 22, 0, 0) :: px_c233_16
def px_c234_65 : List px_I := (65, .aload_n 0, 1, 0, 0, 0) :: (66, .iload_n 1, 1, 1, 0, 0) :: (67, .iload_n 2, 1, 2, 0, 0) :: (68, .invokevirtual 298, 3, 215, 3, 0) :: (71, .ireturn, 1, 0, 0, 0) :: []
def px_c234_51 : List px_I := (51, .iastore, 1, 0, 0, 0) :: (52, .aload_n 0, 1, 0, 0, 0) :: (53, .getfield 50, 3, 8, 20, 0) :: (56, .iload_n 3, 1, 3, 0, 0) :: (57, .iconst 0, 1, 0, 0, 0) :: (58, .iastore, 1, 0, 0, 0) :: (59, .iinc 3 1, 3, 3, 0, 1) :: (62, .goto (-38), 3, 24, 0, 0) :: px_c234_65
def px_c234_50 : List px_I := (50, .iconst (-1), 1, 0, 0, (-1)) :: px_c234_51
def px_c234_24 : List px_I := (24, .iload_n 3, 1, 3, 0, 0) :: (25, .aload_n 0, 1, 0, 0, 0) :: (26, .getfield 126, 3, 8, 1, 0) :: (29, .if_icmp .ge 36, 3, 65, 0, 0) :: (32, .aload_n 0, 1, 0, 0, 0) :: (33, .getfield 47, 3, 8, 19, 0) :: (36, .iload_n 3, 1, 3, 0, 0) :: (37, .iload_n 1, 1, 1, 0, 0) :: (38, .iload_n 3, 1, 3, 0, 0) :: (39, .ishr, 1, 0, 0, 0) :: (40, .iconst 1, 1, 0, 0, 1) :: (41, .iand, 1, 0, 0, 0) :: (42, .iconst 1, 1, 0, 0, 1) :: (43, .if_icmp .ne 7, 3, 50, 0, 0) :: (46, .iload_n 2, 1, 2, 0, 0) :: (47, .goto 4, 3, 51, 0, 0) :: px_c234_50
def px_c234_22 : List px_I := (22, .iconst 0, 1, 0, 0, 0) :: (23, .istore_n 3, 1, 3, 0, 0) :: px_c234_24
def px_c234_16 : List px_I := (16, .aload_n 0, 1, 0, 0, 0) :: (17, .iconst (-1), 1, 0, 0, (-1)) :: (18, .invokevirtual 133, 3, 149, 2, 0) :: (21, .ireturn, 1, 0, 0, 0) :: px_c234_22
def px_c234_0 : List px_I := (0, .aload_n 0, 1, 0, 0, 0) :: (1, .iload_n 2, 1, 2, 0, 0) :: (2, .invokevirtual 246, 3, 153, 2, 0) :: (5, .ifCond .eq 11, 3, 16, 0, 0) :: (8, .aload_n 0, 1, 0, 0, 0) :: (9, .iload_n 1, 1, 1, 0, 0) :: (10, .invokevirtual 295, 3, 155, 2, 0) :: (13, .ifCond .ne 9, 3, 22, 0, 0) :: px_c234_16
def px_c235_146 : List px_I := (146, .iconst (-1), 1, 0, 0, (-1)) :: (147, .ireturn, 1, 0, 0, 0) :: []
def px_c235_140 : List px_I := (140, .iinc 4 1, 3, 4, 0, 1) :: (143, .goto (-51), 3, 92, 0, 0) :: px_c235_146
def px_c235_121 : List px_I := (121, .istore 5, 2, 5, 0, 0) :: (123, .iload 5, 2, 5, 0, 0) :: (125, .aload_n 0, 1, 0, 0, 0) :: (126, .iload_n 1, 1, 1, 0, 0) :: (127, .iload 4, 2, 4, 0, 0) :: (129, .iload_n 3, 1, 3, 0, 0) :: (130, .iconst 0, 1, 0, 0, 0) :: (131, .invokevirtual 279, 3, 207, 5, 0) :: (134, .if_icmp .eq 6, 3, 140, 0, 0) :: (137, .iload 4, 2, 4, 0, 0) :: (139, .ireturn, 1, 0, 0, 0) :: px_c235_140
def px_c235_120 : List px_I := (120, .iconst 0, 1, 0, 0, 0) :: px_c235_121
def px_c235_92 : List px_I := (92, .iload 4, 2, 4, 0, 0) :: (94, .bipush 120, 2, 0, 0, 120) :: (96, .if_icmp .ge 50, 3, 146, 0, 0) :: (99, .iload 4, 2, 4, 0, 0) :: (101, .aload_n 0, 1, 0, 0, 0) :: (102, .getfield 83, 3, 8, 31, 0) :: (105, .iload_n 2, 1, 2, 0, 0) :: (106, .iaload, 1, 0, 0, 0) :: (107, .if_icmp .ge 13, 3, 120, 0, 0) :: (110, .aload_n 0, 1, 0, 0, 0) :: (111, .iload_n 2, 1, 2, 0, 0) :: (112, .iload 4, 2, 4, 0, 0) :: (114, .invokevirtual 316, 3, 167, 3, 0) :: (117, .goto 4, 3, 121, 0, 0) :: px_c235_120
def px_c235_89 : List px_I := (89, .iconst 0, 1, 0, 0, 0) :: (90, .istore 4, 2, 4, 0, 0) :: px_c235_92
def px_c235_74 : List px_I := (74, .aload_n 0, 1, 0, 0, 0) :: (75, .iload_n 3, 1, 3, 0, 0) :: (76, .invokevirtual 137, 3, 156, 2, 0) :: (79, .ifCond .ne 10, 3, 89, 0, 0) :: (82, .aload_n 0, 1, 0, 0, 0) :: (83, .bipush (-6), 2, 0, 0, (-6)) :: (85, .invokevirtual 252, 3, 150, 2, 0) :: (88, .ireturn, 1, 0, 0, 0) :: px_c235_89
def px_c235_67 : List px_I := (67, .aload_n 0, 1, 0, 0, 0) :: (68, .bipush (-3), 2, 0, 0, (-3)) :: (70, .invokevirtual 252, 3, 150, 2, 0) :: (73, .ireturn, 1, 0, 0, 0) :: px_c235_74
def px_c235_49 : List px_I := (49, .aload_n 0, 1, 0, 0, 0) :: (50, .getfield 77, 3, 8, 29, 0) :: (53, .iload_n 1, 1, 1, 0, 0) :: (54, .iaload, 1, 0, 0, 0) :: (55, .ifCond .eq 12, 3, 67, 0, 0) :: (58, .aload_n 0, 1, 0, 0, 0) :: (59, .getfield 77, 3, 8, 29, 0) :: (62, .iload_n 2, 1, 2, 0, 0) :: (63, .iaload, 1, 0, 0, 0) :: (64, .ifCond .ne 10, 3, 74, 0, 0) :: px_c235_67
def px_c235_42 : List px_I := (42, .aload_n 0, 1, 0, 0, 0) :: (43, .bipush (-2), 2, 0, 0, (-2)) :: (45, .invokevirtual 252, 3, 150, 2, 0) :: (48, .ireturn, 1, 0, 0, 0) :: px_c235_49
def px_c235_22 : List px_I := (22, .aload_n 0, 1, 0, 0, 0) :: (23, .getfield 77, 3, 8, 29, 0) :: (26, .iload_n 1, 1, 1, 0, 0) :: (27, .iaload, 1, 0, 0, 0) :: (28, .iconst 1, 1, 0, 0, 1) :: (29, .if_icmp .eq 13, 3, 42, 0, 0) :: (32, .aload_n 0, 1, 0, 0, 0) :: (33, .getfield 77, 3, 8, 29, 0) :: (36, .iload_n 2, 1, 2, 0, 0) :: (37, .iaload, 1, 0, 0, 0) :: (38, .iconst 2, 1, 0, 0, 2) :: (39, .if_icmp .ne 10, 3, 49, 0, 0) :: px_c235_42
def px_c235_16 : List px_I := (16, .aload_n 0, 1, 0, 0, 0) :: (17, .iconst (-1), 1, 0, 0, (-1)) :: (18, .invokevirtual 252, 3, 150, 2, 0) :: (21, .ireturn, 1, 0, 0, 0) :: px_c235_22
def px_c235_0 : List px_I := (0, .aload_n 0, 1, 0, 0, 0) :: (1, .iload_n 1, 1, 1, 0, 0) :: (2, .invokevirtual 129, 3, 151, 2, 0) :: (5, .ifCond .eq 11, 3, 16, 0, 0) :: (8, .aload_n 0, 1, 0, 0, 0) :: (9, .iload_n 2, 1, 2, 0, 0) :: (10, .invokevirtual 129, 3, 151, 2, 0) :: (13, .ifCond .ne 9, 3, 22, 0, 0) :: px_c235_16
def px_c236_19 : List px_I := (19, .aload_n 0, 1, 0, 0, 0) :: (20, .dup, 1, 0, 0, 0) :: (21, .getfield 319, 3, 8, 49, 0) :: (24, .iconst 1, 1, 0, 0, 1) :: (25, .iadd, 1, 0, 0, 0) :: (26, .putfield 319, 3, 8, 49, 0) :: (29, .return_, 1, 0, 0, 0) :: []
def px_c236_0 : List px_I := (0, .aload_n 0, 1, 0, 0, 0) :: (1, .getfield 319, 3, 8, 49, 0) :: (4, .bipush 20, 2, 0, 0, 20) :: (6, .if_icmp .ge 13, 3, 19, 0, 0) :: (9, .aload_n 0, 1, 0, 0, 0) :: (10, .getfield 117, 3, 8, 48, 0) :: (13, .aload_n 0, 1, 0, 0, 0) :: (14, .getfield 319, 3, 8, 49, 0) :: (17, .iload_n 1, 1, 1, 0, 0) :: (18, .iastore, 1, 0, 0, 0) :: px_c236_19
def px_c237_94 : List px_I := (94, .ireturn, 1, 0, 0, 0) :: []
def px_c237_92 : List px_I := (92, .iload 4, 2, 4, 0, 0) :: px_c237_94
def px_c237_80 : List px_I := (80, .iload_n 3, 1, 3, 0, 0) :: (81, .iconst 5, 1, 0, 0, 5) :: (82, .if_icmp .ne 10, 3, 92, 0, 0) :: (85, .iload 4, 2, 4, 0, 0) :: (87, .iconst 5, 1, 0, 0, 5) :: (88, .ixor, 1, 0, 0, 0) :: (89, .goto 5, 3, 94, 0, 0) :: px_c237_92
def px_c237_68 : List px_I := (68, .iload_n 3, 1, 3, 0, 0) :: (69, .iconst 3, 1, 0, 0, 3) :: (70, .if_icmp .ne 10, 3, 80, 0, 0) :: (73, .iload 4, 2, 4, 0, 0) :: (75, .iload_n 1, 1, 1, 0, 0) :: (76, .isub, 1, 0, 0, 0) :: (77, .goto 17, 3, 94, 0, 0) :: px_c237_80
def px_c237_40 : List px_I := (40, .aload_n 0, 1, 0, 0, 0) :: (41, .bipush 10, 2, 0, 0, 10) :: (43, .invokevirtual 322, 3, 236, 2, 0) :: (46, .iload_n 2, 1, 2, 0, 0) :: (47, .iload_n 1, 1, 1, 0, 0) :: (48, .iadd, 1, 0, 0, 0) :: (49, .istore 4, 2, 4, 0, 0) :: (51, .iload_n 3, 1, 3, 0, 0) :: (52, .iconst 1, 1, 0, 0, 1) :: (53, .if_icmp .ne 15, 3, 68, 0, 0) :: (56, .iload 4, 2, 4, 0, 0) :: (58, .aload_n 0, 1, 0, 0, 0) :: (59, .getfield 89, 3, 8, 33, 0) :: (62, .iload_n 1, 1, 1, 0, 0) :: (63, .iaload, 1, 0, 0, 0) :: (64, .iadd, 1, 0, 0, 0) :: (65, .goto 29, 3, 94, 0, 0) :: px_c237_68
def px_c237_29 : List px_I := (29, .iload_n 3, 1, 3, 0, 0) :: (30, .iconst 5, 1, 0, 0, 5) :: (31, .if_icmp .ne 9, 3, 40, 0, 0) :: (34, .aload_n 0, 1, 0, 0, 0) :: (35, .bipush 60, 2, 0, 0, 60) :: (37, .invokevirtual 322, 3, 236, 2, 0) :: px_c237_40
def px_c237_18 : List px_I := (18, .iload_n 3, 1, 3, 0, 0) :: (19, .iconst 3, 1, 0, 0, 3) :: (20, .if_icmp .ne 9, 3, 29, 0, 0) :: (23, .aload_n 0, 1, 0, 0, 0) :: (24, .bipush 41, 2, 0, 0, 41) :: (26, .invokevirtual 322, 3, 236, 2, 0) :: px_c237_29
def px_c237_0 : List px_I := (0, .aload_n 0, 1, 0, 0, 0) :: (1, .getfield 86, 3, 8, 32, 0) :: (4, .iload_n 1, 1, 1, 0, 0) :: (5, .iaload, 1, 0, 0, 0) :: (6, .istore_n 3, 1, 3, 0, 0) :: (7, .iload_n 3, 1, 3, 0, 0) :: (8, .iconst 1, 1, 0, 0, 1) :: (9, .if_icmp .ne 9, 3, 18, 0, 0) :: (12, .aload_n 0, 1, 0, 0, 0) :: (13, .bipush 20, 2, 0, 0, 20) :: (15, .invokevirtual 322, 3, 236, 2, 0) :: px_c237_18
def px_c238_115 : List px_I := (115, .ireturn, 1, 0, 0, 0) :: []
def px_c238_113 : List px_I := (113, .iload 6, 2, 6, 0, 0) :: px_c238_115
def px_c238_100 : List px_I := (100, .iload_n 3, 1, 3, 0, 0) :: (101, .bipush 6, 2, 0, 0, 6) :: (103, .if_icmp .ne 10, 3, 113, 0, 0) :: (106, .iload 6, 2, 6, 0, 0) :: (108, .iconst 2, 1, 0, 0, 2) :: (109, .imul, 1, 0, 0, 0) :: (110, .goto 5, 3, 115, 0, 0) :: px_c238_113
def px_c238_71 : List px_I := (71, .aload_n 0, 1, 0, 0, 0) :: (72, .bipush 11, 2, 0, 0, 11) :: (74, .invokevirtual 322, 3, 236, 2, 0) :: (77, .aload_n 0, 1, 0, 0, 0) :: (78, .iload_n 1, 1, 1, 0, 0) :: (79, .iload 4, 2, 4, 0, 0) :: (81, .invokevirtual 326, 3, 237, 3, 0) :: (84, .iconst 2, 1, 0, 0, 2) :: (85, .imul, 1, 0, 0, 0) :: (86, .istore 6, 2, 6, 0, 0) :: (88, .iload 5, 2, 5, 0, 0) :: (90, .ifCond .eq 10, 3, 100, 0, 0) :: (93, .iload 6, 2, 6, 0, 0) :: (95, .iconst 3, 1, 0, 0, 3) :: (96, .imul, 1, 0, 0, 0) :: (97, .goto 18, 3, 115, 0, 0) :: px_c238_100
def px_c238_59 : List px_I := (59, .iload_n 3, 1, 3, 0, 0) :: (60, .bipush 6, 2, 0, 0, 6) :: (62, .if_icmp .ne 9, 3, 71, 0, 0) :: (65, .aload_n 0, 1, 0, 0, 0) :: (66, .bipush 70, 2, 0, 0, 70) :: (68, .invokevirtual 322, 3, 236, 2, 0) :: px_c238_71
def px_c238_46 : List px_I := (46, .istore 5, 2, 5, 0, 0) :: (48, .iload 5, 2, 5, 0, 0) :: (50, .ifCond .eq 9, 3, 59, 0, 0) :: (53, .aload_n 0, 1, 0, 0, 0) :: (54, .bipush 30, 2, 0, 0, 30) :: (56, .invokevirtual 322, 3, 236, 2, 0) :: px_c238_59
def px_c238_45 : List px_I := (45, .iconst 0, 1, 0, 0, 0) :: px_c238_46
def px_c238_41 : List px_I := (41, .iconst 1, 1, 0, 0, 1) :: (42, .goto 4, 3, 46, 0, 0) :: px_c238_45
def px_c238_26 : List px_I := (26, .iload_n 3, 1, 3, 0, 0) :: (27, .iconst 2, 1, 0, 0, 2) :: (28, .if_icmp .eq 13, 3, 41, 0, 0) :: (31, .iload_n 3, 1, 3, 0, 0) :: (32, .iconst 3, 1, 0, 0, 3) :: (33, .if_icmp .eq 8, 3, 41, 0, 0) :: (36, .iload_n 3, 1, 3, 0, 0) :: (37, .iconst 5, 1, 0, 0, 5) :: (38, .if_icmp .ne 7, 3, 45, 0, 0) :: px_c238_41
def px_c238_0 : List px_I := (0, .aload_n 0, 1, 0, 0, 0) :: (1, .getfield 86, 3, 8, 32, 0) :: (4, .iload_n 1, 1, 1, 0, 0) :: (5, .iaload, 1, 0, 0, 0) :: (6, .istore_n 3, 1, 3, 0, 0) :: (7, .iload_n 2, 1, 2, 0, 0) :: (8, .istore 4, 2, 4, 0, 0) :: (10, .iload_n 3, 1, 3, 0, 0) :: (11, .iconst 3, 1, 0, 0, 3) :: (12, .if_icmp .ne 14, 3, 26, 0, 0) :: (15, .aload_n 0, 1, 0, 0, 0) :: (16, .bipush 40, 2, 0, 0, 40) :: (18, .invokevirtual 322, 3, 236, 2, 0) :: (21, .iload_n 2, 1, 2, 0, 0) :: (22, .iconst 1, 1, 0, 0, 1) :: (23, .iadd, 1, 0, 0, 0) :: (24, .istore 4, 2, 4, 0, 0) :: px_c238_26
def px_c239_90 : List px_I := (90, .ireturn, 1, 0, 0, 0) :: []
def px_c239_88 : List px_I := (88, .iload 5, 2, 5, 0, 0) :: px_c239_90
def px_c239_43 : List px_I := (43, .aload_n 0, 1, 0, 0, 0) :: (44, .bipush 12, 2, 0, 0, 12) :: (46, .invokevirtual 322, 3, 236, 2, 0) :: (49, .aload_n 0, 1, 0, 0, 0) :: (50, .iload_n 1, 1, 1, 0, 0) :: (51, .iload 4, 2, 4, 0, 0) :: (53, .invokevirtual 329, 3, 238, 3, 0) :: (56, .istore 5, 2, 5, 0, 0) :: (58, .iload 5, 2, 5, 0, 0) :: (60, .aload_n 0, 1, 0, 0, 0) :: (61, .iload_n 1, 1, 1, 0, 0) :: (62, .iload 4, 2, 4, 0, 0) :: (64, .aload_n 0, 1, 0, 0, 0) :: (65, .getfield 89, 3, 8, 33, 0) :: (68, .iload_n 1, 1, 1, 0, 0) :: (69, .iaload, 1, 0, 0, 0) :: (70, .isub, 1, 0, 0, 0) :: (71, .invokevirtual 326, 3, 237, 3, 0) :: (74, .ixor, 1, 0, 0, 0) :: (75, .istore 5, 2, 5, 0, 0) :: (77, .iload_n 3, 1, 3, 0, 0) :: (78, .iconst 4, 1, 0, 0, 4) :: (79, .if_icmp .ne 9, 3, 88, 0, 0) :: (82, .iload 5, 2, 5, 0, 0) :: (84, .ineg, 1, 0, 0, 0) :: (85, .goto 5, 3, 90, 0, 0) :: px_c239_88
def px_c239_21 : List px_I := (21, .iload_n 3, 1, 3, 0, 0) :: (22, .bipush 6, 2, 0, 0, 6) :: (24, .if_icmp .ne 19, 3, 43, 0, 0) :: (27, .aload_n 0, 1, 0, 0, 0) :: (28, .bipush 71, 2, 0, 0, 71) :: (30, .invokevirtual 322, 3, 236, 2, 0) :: (33, .iload_n 2, 1, 2, 0, 0) :: (34, .aload_n 0, 1, 0, 0, 0) :: (35, .getfield 89, 3, 8, 33, 0) :: (38, .iload_n 1, 1, 1, 0, 0) :: (39, .iaload, 1, 0, 0, 0) :: (40, .isub, 1, 0, 0, 0) :: (41, .istore 4, 2, 4, 0, 0) :: px_c239_43
def px_c239_0 : List px_I := (0, .aload_n 0, 1, 0, 0, 0) :: (1, .getfield 86, 3, 8, 32, 0) :: (4, .iload_n 1, 1, 1, 0, 0) :: (5, .iaload, 1, 0, 0, 0) :: (6, .istore_n 3, 1, 3, 0, 0) :: (7, .iload_n 2, 1, 2, 0, 0) :: (8, .istore 4, 2, 4, 0, 0) :: (10, .iload_n 3, 1, 3, 0, 0) :: (11, .iconst 4, 1, 0, 0, 4) :: (12, .if_icmp .ne 9, 3, 21, 0, 0) :: (15, .aload_n 0, 1, 0, 0, 0) :: (16, .bipush 50, 2, 0, 0, 50) :: (18, .invokevirtual 322, 3, 236, 2, 0) :: px_c239_21
def px_c240_67 : List px_I := (67, .ireturn, 1, 0, 0, 0) :: []
def px_c240_61 : List px_I := (61, .aload_n 0, 1, 0, 0, 0) :: (62, .iload_n 1, 1, 1, 0, 0) :: (63, .iload_n 3, 1, 3, 0, 0) :: (64, .invokevirtual 332, 3, 239, 3, 0) :: px_c240_67
def px_c240_47 : List px_I := (47, .iload_n 2, 1, 2, 0, 0) :: (48, .iconst 1, 1, 0, 0, 1) :: (49, .if_icmp .ne 12, 3, 61, 0, 0) :: (52, .aload_n 0, 1, 0, 0, 0) :: (53, .iload_n 1, 1, 1, 0, 0) :: (54, .iload_n 3, 1, 3, 0, 0) :: (55, .invokevirtual 329, 3, 238, 3, 0) :: (58, .goto 9, 3, 67, 0, 0) :: px_c240_61
def px_c240_34 : List px_I := (34, .iload_n 2, 1, 2, 0, 0) :: (35, .ifCond .ne 12, 3, 47, 0, 0) :: (38, .aload_n 0, 1, 0, 0, 0) :: (39, .iload_n 1, 1, 1, 0, 0) :: (40, .iload_n 3, 1, 3, 0, 0) :: (41, .invokevirtual 326, 3, 237, 3, 0) :: (44, .goto 23, 3, 67, 0, 0) :: px_c240_47
def px_c240_32 : List px_I := (32, .iconst 0, 1, 0, 0, 0) :: (33, .ireturn, 1, 0, 0, 0) :: px_c240_34
def px_c240_0 : List px_I := (0, .aload_n 0, 1, 0, 0, 0) :: (1, .iconst 0, 1, 0, 0, 0) :: (2, .putfield 319, 3, 8, 49, 0) :: (5, .aload_n 0, 1, 0, 0, 0) :: (6, .iload_n 1, 1, 1, 0, 0) :: (7, .invokevirtual 129, 3, 151, 2, 0) :: (10, .ifCond .eq 22, 3, 32, 0, 0) :: (13, .aload_n 0, 1, 0, 0, 0) :: (14, .getfield 77, 3, 8, 29, 0) :: (17, .iload_n 1, 1, 1, 0, 0) :: (18, .iaload, 1, 0, 0, 0) :: (19, .iconst 2, 1, 0, 0, 2) :: (20, .if_icmp .ne 12, 3, 32, 0, 0) :: (23, .iload_n 2, 1, 2, 0, 0) :: (24, .ifCond .lt 8, 3, 32, 0, 0) :: (27, .iload_n 2, 1, 2, 0, 0) :: (28, .iconst 2, 1, 0, 0, 2) :: (29, .if_icmp .le 5, 3, 34, 0, 0) :: px_c240_32
def px_c241_28 : List px_I := (28, .ireturn, 1, 0, 0, 0) :: []
def px_c241_27 : List px_I := (27, .iconst (-1), 1, 0, 0, (-1)) :: px_c241_28
def px_c241_0 : List px_I := (0, .iload_n 1, 1, 1, 0, 0) :: (1, .ifCond .lt 26, 3, 27, 0, 0) :: (4, .iload_n 1, 1, 1, 0, 0) :: (5, .bipush 20, 2, 0, 0, 20) :: (7, .if_icmp .ge 20, 3, 27, 0, 0) :: (10, .iload_n 1, 1, 1, 0, 0) :: (11, .aload_n 0, 1, 0, 0, 0) :: (12, .getfield 319, 3, 8, 49, 0) :: (15, .if_icmp .ge 12, 3, 27, 0, 0) :: (18, .aload_n 0, 1, 0, 0, 0) :: (19, .getfield 117, 3, 8, 48, 0) :: (22, .iload_n 1, 1, 1, 0, 0) :: (23, .iaload, 1, 0, 0, 0) :: (24, .goto 4, 3, 28, 0, 0) :: px_c241_27
def px_c242_49 : List px_I := (49, .iload_n 3, 1, 3, 0, 0) :: (50, .iload_n 2, 1, 2, 0, 0) :: (51, .iadd, 1, 0, 0, 0) :: (52, .ireturn, 1, 0, 0, 0) :: []
def px_c242_43 : List px_I := (43, .iinc 5 1, 3, 5, 0, 1) :: (46, .goto (-43), 3, 3, 0, 0) :: px_c242_49
def px_c242_30 : List px_I := (30, .aload_n 0, 1, 0, 0, 0) :: (31, .getfield 105, 3, 8, 43, 0) :: (34, .iload_n 3, 1, 3, 0, 0) :: (35, .iload 5, 2, 5, 0, 0) :: (37, .iadd, 1, 0, 0, 0) :: (38, .aload_n 1, 1, 1, 0, 0) :: (39, .iload 5, 2, 5, 0, 0) :: (41, .iaload, 1, 0, 0, 0) :: (42, .iastore, 1, 0, 0, 0) :: px_c242_43
def px_c242_3 : List px_I := (3, .iload 5, 2, 5, 0, 0) :: (5, .iload_n 2, 1, 2, 0, 0) :: (6, .if_icmp .ge 43, 3, 49, 0, 0) :: (9, .iload 4, 2, 4, 0, 0) :: (11, .ifCond .eq 19, 3, 30, 0, 0) :: (14, .aload_n 1, 1, 1, 0, 0) :: (15, .iload 5, 2, 5, 0, 0) :: (17, .aload_n 0, 1, 0, 0, 0) :: (18, .getfield 105, 3, 8, 43, 0) :: (21, .iload_n 3, 1, 3, 0, 0) :: (22, .iload 5, 2, 5, 0, 0) :: (24, .iadd, 1, 0, 0, 0) :: (25, .iaload, 1, 0, 0, 0) :: (26, .iastore, 1, 0, 0, 0) :: (27, .goto 16, 3, 43, 0, 0) :: px_c242_30
def px_c242_0 : List px_I := (0, .iconst 0, 1, 0, 0, 0) :: (1, .istore 5, 2, 5, 0, 0) :: px_c242_3
def px_c243_163 : List px_I := (163, .iload_n 2, 1, 2, 0, 0) :: (164, .iload_n 1, 1, 1, 0, 0) :: (165, .invokevirtual 335, 3, 242, 5, 0) :: (168, .istore_n 2, 1, 2, 0, 0) :: (169, .aload_n 0, 1, 0, 0, 0) :: (170, .aload_n 0, 1, 0, 0, 0) :: (171, .getfield 68, 3, 8, 26, 0) :: (174, .bipush 8, 2, 0, 0, 8) :: (176, .iload_n 2, 1, 2, 0, 0) :: (177, .iload_n 1, 1, 1, 0, 0) :: (178, .invokevirtual 335, 3, 242, 5, 0) :: (181, .istore_n 2, 1, 2, 0, 0) :: (182, .aload_n 0, 1, 0, 0, 0) :: (183, .aload_n 0, 1, 0, 0, 0) :: (184, .getfield 71, 3, 8, 27, 0) :: (187, .bipush 8, 2, 0, 0, 8) :: (189, .iload_n 2, 1, 2, 0, 0) :: (190, .iload_n 1, 1, 1, 0, 0) :: (191, .invokevirtual 335, 3, 242, 5, 0) :: (194, .istore_n 2, 1, 2, 0, 0) :: (195, .aload_n 0, 1, 0, 0, 0) :: (196, .aload_n 0, 1, 0, 0, 0) :: (197, .getfield 74, 3, 8, 28, 0) :: (200, .bipush 6, 2, 0, 0, 6) :: (202, .iload_n 2, 1, 2, 0, 0) :: (203, .iload_n 1, 1, 1, 0, 0) :: (204, .invokevirtual 335, 3, 242, 5, 0) :: (207, .pop, 1, 0, 0, 0) :: (208, .aload_n 0, 1, 0, 0, 0) :: (209, .aload_n 0, 1, 0, 0, 0) :: (210, .getfield 120, 3, 8, 50, 0) :: (213, .iload_n 1, 1, 1, 0, 0) :: (214, .invokevirtual 239, 3, 191, 3, 0) :: (217, .return_, 1, 0, 0, 0) :: []
def px_c243_80 : List px_I := (80, .getfield 47, 3, 8, 19, 0) :: (83, .bipush 9, 2, 0, 0, 9) :: (85, .iload_n 2, 1, 2, 0, 0) :: (86, .iload_n 1, 1, 1, 0, 0) :: (87, .invokevirtual 335, 3, 242, 5, 0) :: (90, .istore_n 2, 1, 2, 0, 0) :: (91, .aload_n 0, 1, 0, 0, 0) :: (92, .aload_n 0, 1, 0, 0, 0) :: (93, .getfield 50, 3, 8, 20, 0) :: (96, .bipush 9, 2, 0, 0, 9) :: (98, .iload_n 2, 1, 2, 0, 0) :: (99, .iload_n 1, 1, 1, 0, 0) :: (100, .invokevirtual 335, 3, 242, 5, 0) :: (103, .istore_n 2, 1, 2, 0, 0) :: (104, .aload_n 0, 1, 0, 0, 0) :: (105, .aload_n 0, 1, 0, 0, 0) :: (106, .getfield 53, 3, 8, 21, 0) :: (109, .bipush 12, 2, 0, 0, 12) :: (111, .iload_n 2, 1, 2, 0, 0) :: (112, .iload_n 1, 1, 1, 0, 0) :: (113, .invokevirtual 335, 3, 242, 5, 0) :: (116, .istore_n 2, 1, 2, 0, 0) :: (117, .aload_n 0, 1, 0, 0, 0) :: (118, .aload_n 0, 1, 0, 0, 0) :: (119, .getfield 56, 3, 8, 22, 0) :: (122, .bipush 12, 2, 0, 0, 12) :: (124, .iload_n 2, 1, 2, 0, 0) :: (125, .iload_n 1, 1, 1, 0, 0) :: (126, .invokevirtual 335, 3, 242, 5, 0) :: (129, .istore_n 2, 1, 2, 0, 0) :: (130, .aload_n 0, 1, 0, 0, 0) :: (131, .aload_n 0, 1, 0, 0, 0) :: (132, .getfield 59, 3, 8, 23, 0) :: (135, .bipush 12, 2, 0, 0, 12) :: (137, .iload_n 2, 1, 2, 0, 0) :: (138, .iload_n 1, 1, 1, 0, 0) :: (139, .invokevirtual 335, 3, 242, 5, 0) :: (142, .istore_n 2, 1, 2, 0, 0) :: (143, .aload_n 0, 1, 0, 0, 0) :: (144, .aload_n 0, 1, 0, 0, 0) :: (145, .getfield 62, 3, 8, 24, 0) :: (148, .bipush 12, 2, 0, 0, 12) :: (150, .iload_n 2, 1, 2, 0, 0) :: (151, .iload_n 1, 1, 1, 0, 0) :: (152, .invokevirtual 335, 3, 242, 5, 0) :: (155, .istore_n 2, 1, 2, 0, 0) :: (156, .aload_n 0, 1, 0, 0, 0) :: (157, .aload_n 0, 1, 0, 0, 0) :: (158, .getfield 65, 3, 8, 25, 0) :: (161, .bipush 8, 2, 0, 0, 8) :: px_c243_163
def px_c243_0 : List px_I := (0, .aload_n 0, 1, 0, 0, 0) :: (1, .aload_n 0, 1, 0, 0, 0) :: (2, .getfield 29, 3, 8, 13, 0) :: (5, .bipush 6, 2, 0, 0, 6) :: (7, .iconst 0, 1, 0, 0, 0) :: (8, .iload_n 1, 1, 1, 0, 0) :: (9, .invokevirtual 335, 3, 242, 5, 0) :: (12, .istore_n 2, 1, 2, 0, 0) :: (13, .aload_n 0, 1, 0, 0, 0) :: (14, .aload_n 0, 1, 0, 0, 0) :: (15, .getfield 32, 3, 8, 14, 0) :: (18, .bipush 6, 2, 0, 0, 6) :: (20, .iload_n 2, 1, 2, 0, 0) :: (21, .iload_n 1, 1, 1, 0, 0) :: (22, .invokevirtual 335, 3, 242, 5, 0) :: (25, .istore_n 2, 1, 2, 0, 0) :: (26, .aload_n 0, 1, 0, 0, 0) :: (27, .aload_n 0, 1, 0, 0, 0) :: (28, .getfield 35, 3, 8, 15, 0) :: (31, .bipush 6, 2, 0, 0, 6) :: (33, .iload_n 2, 1, 2, 0, 0) :: (34, .iload_n 1, 1, 1, 0, 0) :: (35, .invokevirtual 335, 3, 242, 5, 0) :: (38, .istore_n 2, 1, 2, 0, 0) :: (39, .aload_n 0, 1, 0, 0, 0) :: (40, .aload_n 0, 1, 0, 0, 0) :: (41, .getfield 38, 3, 8, 16, 0) :: (44, .bipush 6, 2, 0, 0, 6) :: (46, .iload_n 2, 1, 2, 0, 0) :: (47, .iload_n 1, 1, 1, 0, 0) :: (48, .invokevirtual 335, 3, 242, 5, 0) :: (51, .istore_n 2, 1, 2, 0, 0) :: (52, .aload_n 0, 1, 0, 0, 0) :: (53, .aload_n 0, 1, 0, 0, 0) :: (54, .getfield 41, 3, 8, 17, 0) :: (57, .bipush 9, 2, 0, 0, 9) :: (59, .iload_n 2, 1, 2, 0, 0) :: (60, .iload_n 1, 1, 1, 0, 0) :: (61, .invokevirtual 335, 3, 242, 5, 0) :: (64, .istore_n 2, 1, 2, 0, 0) :: (65, .aload_n 0, 1, 0, 0, 0) :: (66, .aload_n 0, 1, 0, 0, 0) :: (67, .getfield 44, 3, 8, 18, 0) :: (70, .bipush 9, 2, 0, 0, 9) :: (72, .iload_n 2, 1, 2, 0, 0) :: (73, .iload_n 1, 1, 1, 0, 0) :: (74, .invokevirtual 335, 3, 242, 5, 0) :: (77, .istore_n 2, 1, 2, 0, 0) :: (78, .aload_n 0, 1, 0, 0, 0) :: (79, .aload_n 0, 1, 0, 0, 0) :: px_c243_80
def px_c244_0 : List px_I := (0, .aload_n 0, 1, 0, 0, 0) :: (1, .iconst 1, 1, 0, 0, 1) :: (2, .putfield 339, 3, 8, 51, 0) :: (5, .aload_n 0, 1, 0, 0, 0) :: (6, .iconst 0, 1, 0, 0, 0) :: (7, .invokevirtual 343, 3, 243, 2, 0) :: (10, .aload_n 0, 1, 0, 0, 0) :: (11, .getfield 126, 3, 8, 1, 0) :: (14, .ireturn, 1, 0, 0, 0) :: []
def px_c245_14 : List px_I := (14, .aload_n 0, 1, 0, 0, 0) :: (15, .iconst 1, 1, 0, 0, 1) :: (16, .invokevirtual 343, 3, 243, 2, 0) :: (19, .aload_n 0, 1, 0, 0, 0) :: (20, .getfield 126, 3, 8, 1, 0) :: (23, .ireturn, 1, 0, 0, 0) :: []
def px_c245_0 : List px_I := (0, .aload_n 0, 1, 0, 0, 0) :: (1, .getfield 339, 3, 8, 51, 0) :: (4, .ifCond .ne 10, 3, 14, 0, 0) :: (7, .aload_n 0, 1, 0, 0, 0) :: (8, .bipush (-6), 2, 0, 0, (-6)) :: (10, .invokevirtual 133, 3, 149, 2, 0) :: (13, .ireturn, 1, 0, 0, 0) :: px_c245_14
def px_c246_168 : List px_I := (168, .iconst (-1), 1, 0, 0, (-1)) :: (169, .ireturn, 1, 0, 0, 0) :: []
def px_c246_163 : List px_I := (163, .aload_n 0, 1, 0, 0, 0) :: (164, .getfield 319, 3, 8, 49, 0) :: (167, .ireturn, 1, 0, 0, 0) :: px_c246_168
def px_c246_158 : List px_I := (158, .aload_n 0, 1, 0, 0, 0) :: (159, .getfield 174, 3, 8, 6, 0) :: (162, .ireturn, 1, 0, 0, 0) :: px_c246_163
def px_c246_153 : List px_I := (153, .aload_n 0, 1, 0, 0, 0) :: (154, .getfield 188, 3, 8, 5, 0) :: (157, .ireturn, 1, 0, 0, 0) :: px_c246_158
def px_c246_148 : List px_I := (148, .aload_n 0, 1, 0, 0, 0) :: (149, .getfield 183, 3, 8, 4, 0) :: (152, .ireturn, 1, 0, 0, 0) :: px_c246_153
def px_c246_143 : List px_I := (143, .aload_n 0, 1, 0, 0, 0) :: (144, .getfield 171, 3, 8, 3, 0) :: (147, .ireturn, 1, 0, 0, 0) :: px_c246_148
def px_c246_138 : List px_I := (138, .aload_n 0, 1, 0, 0, 0) :: (139, .getfield 168, 3, 8, 2, 0) :: (142, .ireturn, 1, 0, 0, 0) :: px_c246_143
def px_c246_136 : List px_I := (136, .iload_n 2, 1, 2, 0, 0) :: (137, .ireturn, 1, 0, 0, 0) :: px_c246_138
def px_c246_128 : List px_I := (128, .iadd, 1, 0, 0, 0) :: (129, .istore_n 2, 1, 2, 0, 0) :: (130, .iinc 3 1, 3, 3, 0, 1) :: (133, .goto (-34), 3, 99, 0, 0) :: px_c246_136
def px_c246_122 : List px_I := (122, .aload_n 0, 1, 0, 0, 0) :: (123, .getfield 50, 3, 8, 20, 0) :: (126, .iload_n 3, 1, 3, 0, 0) :: (127, .iaload, 1, 0, 0, 0) :: px_c246_128
def px_c246_99 : List px_I := (99, .iload_n 3, 1, 3, 0, 0) :: (100, .aload_n 0, 1, 0, 0, 0) :: (101, .getfield 126, 3, 8, 1, 0) :: (104, .if_icmp .ge 32, 3, 136, 0, 0) :: (107, .iload_n 2, 1, 2, 0, 0) :: (108, .aload_n 0, 1, 0, 0, 0) :: (109, .getfield 47, 3, 8, 19, 0) :: (112, .iload_n 3, 1, 3, 0, 0) :: (113, .iaload, 1, 0, 0, 0) :: (114, .iconst (-1), 1, 0, 0, (-1)) :: (115, .if_icmp .ne 7, 3, 122, 0, 0) :: (118, .iconst 0, 1, 0, 0, 0) :: (119, .goto 9, 3, 128, 0, 0) :: px_c246_122
def px_c246_95 : List px_I := (95, .iconst 0, 1, 0, 0, 0) :: (96, .istore_n 2, 1, 2, 0, 0) :: (97, .iconst 0, 1, 0, 0, 0) :: (98, .istore_n 3, 1, 3, 0, 0) :: px_c246_99
def px_c246_86 : List px_I := (86, .aload_n 0, 1, 0, 0, 0) :: (87, .aload_n 0, 1, 0, 0, 0) :: (88, .invokevirtual 140, 3, 198, 1, 0) :: (91, .invokevirtual 152, 3, 165, 2, 0) :: (94, .ireturn, 1, 0, 0, 0) :: px_c246_95
def px_c246_81 : List px_I := (81, .aload_n 0, 1, 0, 0, 0) :: (82, .getfield 126, 3, 8, 1, 0) :: (85, .ireturn, 1, 0, 0, 0) :: px_c246_86
def px_c246_76 : List px_I := (76, .aload_n 0, 1, 0, 0, 0) :: (77, .getfield 123, 3, 8, 0, 0) :: (80, .ireturn, 1, 0, 0, 0) :: px_c246_81
def px_c246_22 : List px_I := (22, .iload_n 1, 1, 1, 0, 0) :: (23, .tableswitch 145 0 9 #[53, 58, 63, 72, 115, 120, 125, 130, 135, 140], 53, 0, 0, 0) :: px_c246_76
def px_c246_0 : List px_I := (0, .iload_n 1, 1, 1, 0, 0) :: (1, .bipush 11, 2, 0, 0, 11) :: (3, .if_icmp .lt 19, 3, 22, 0, 0) :: (6, .iload_n 1, 1, 1, 0, 0) :: (7, .bipush 17, 2, 0, 0, 17) :: (9, .if_icmp .gt 13, 3, 22, 0, 0) :: (12, .aload_n 0, 1, 0, 0, 0) :: (13, .getfield 25, 3, 8, 12, 0) :: (16, .iload_n 1, 1, 1, 0, 0) :: (17, .bipush 10, 2, 0, 0, 10) :: (19, .isub, 1, 0, 0, 0) :: (20, .iaload, 1, 0, 0, 0) :: (21, .ireturn, 1, 0, 0, 0) :: px_c246_22
def px_c247_0 : List px_I := (0, .iload_n 0, 1, 0, 0, 0) :: (1, .iload_n 0, 1, 0, 0, 0) :: (2, .iconst 1, 1, 0, 0, 1) :: (3, .iushr, 1, 0, 0, 0) :: (4, .ldc_w 265, 3, 0, 0, 1431655765) :: (7, .iand, 1, 0, 0, 0) :: (8, .isub, 1, 0, 0, 0) :: (9, .istore_n 0, 1, 0, 0, 0) :: (10, .iload_n 0, 1, 0, 0, 0) :: (11, .ldc_w 266, 3, 0, 0, 858993459) :: (14, .iand, 1, 0, 0, 0) :: (15, .iload_n 0, 1, 0, 0, 0) :: (16, .iconst 2, 1, 0, 0, 2) :: (17, .iushr, 1, 0, 0, 0) :: (18, .ldc_w 266, 3, 0, 0, 858993459) :: (21, .iand, 1, 0, 0, 0) :: (22, .iadd, 1, 0, 0, 0) :: (23, .istore_n 0, 1, 0, 0, 0) :: (24, .iload_n 0, 1, 0, 0, 0) :: (25, .iload_n 0, 1, 0, 0, 0) :: (26, .iconst 4, 1, 0, 0, 4) :: (27, .iushr, 1, 0, 0, 0) :: (28, .iadd, 1, 0, 0, 0) :: (29, .ldc_w 267, 3, 0, 0, 252645135) :: (32, .iand, 1, 0, 0, 0) :: (33, .istore_n 0, 1, 0, 0, 0) :: (34, .iload_n 0, 1, 0, 0, 0) :: (35, .iload_n 0, 1, 0, 0, 0) :: (36, .bipush 8, 2, 0, 0, 8) :: (38, .iushr, 1, 0, 0, 0) :: (39, .iadd, 1, 0, 0, 0) :: (40, .istore_n 0, 1, 0, 0, 0) :: (41, .iload_n 0, 1, 0, 0, 0) :: (42, .iload_n 0, 1, 0, 0, 0) :: (43, .bipush 16, 2, 0, 0, 16) :: (45, .iushr, 1, 0, 0, 0) :: (46, .iadd, 1, 0, 0, 0) :: (47, .istore_n 0, 1, 0, 0, 0) :: (48, .iload_n 0, 1, 0, 0, 0) :: (49, .bipush 63, 2, 0, 0, 63) :: (51, .iand, 1, 0, 0, 0) :: (52, .ireturn, 1, 0, 0, 0) :: []
def px_c248_10 : List px_I := (10, .ireturn, 1, 0, 0, 0) :: []
def px_c248_9 : List px_I := (9, .iload_n 0, 1, 0, 0, 0) :: px_c248_10
def px_c248_0 : List px_I := (0, .iload_n 0, 1, 0, 0, 0) :: (1, .ifCond .ge 8, 3, 9, 0, 0) :: (4, .iload_n 0, 1, 0, 0, 0) :: (5, .ineg, 1, 0, 0, 0) :: (6, .goto 4, 3, 10, 0, 0) :: px_c248_9
def px_c249_10 : List px_I := (10, .ireturn, 1, 0, 0, 0) :: []
def px_c249_9 : List px_I := (9, .iload_n 1, 1, 1, 0, 0) :: px_c249_10
def px_c249_0 : List px_I := (0, .iload_n 0, 1, 0, 0, 0) :: (1, .iload_n 1, 1, 1, 0, 0) :: (2, .if_icmp .lt 7, 3, 9, 0, 0) :: (5, .iload_n 0, 1, 0, 0, 0) :: (6, .goto 4, 3, 10, 0, 0) :: px_c249_9
def px_c250_10 : List px_I := (10, .ireturn, 1, 0, 0, 0) :: []
def px_c250_9 : List px_I := (9, .iload_n 1, 1, 1, 0, 0) :: px_c250_10
def px_c250_0 : List px_I := (0, .iload_n 0, 1, 0, 0, 0) :: (1, .iload_n 1, 1, 1, 0, 0) :: (2, .if_icmp .gt 7, 3, 9, 0, 0) :: (5, .iload_n 0, 1, 0, 0, 0) :: (6, .goto 4, 3, 10, 0, 0) :: px_c250_9
def px_c251_0 : List px_I := (0, .aload_n 0, 1, 0, 0, 0) :: (1, .getfield 9, 3, 14, 0, 0) :: (4, .arraylength, 1, 0, 0, 0) :: (5, .aload_n 0, 1, 0, 0, 0) :: (6, .invokevirtual 335, 3, 253, 1, 0) :: (9, .ishr, 1, 0, 0, 0) :: (10, .ireturn, 1, 0, 0, 0) :: []
def px_c252_16 : List px_I := (16, .aload_n 0, 1, 0, 0, 0) :: (17, .getfield 9, 3, 14, 0, 0) :: (20, .iload_n 1, 1, 1, 0, 0) :: (21, .invokestatic 498, 3, 9999, 0, 0) :: (24, .ireturn, 1, 0, 0, 0) :: []
def px_c252_0 : List px_I := (0, .aload_n 0, 1, 0, 0, 0) :: (1, .invokevirtual 492, 3, 254, 1, 0) :: (4, .ifCond .eq 12, 3, 16, 0, 0) :: (7, .aload_n 0, 1, 0, 0, 0) :: (8, .getfield 9, 3, 14, 0, 0) :: (11, .iload_n 1, 1, 1, 0, 0) :: (12, .invokestatic 495, 3, 256, 2, 0) :: (15, .ireturn, 1, 0, 0, 0) :: px_c252_16
def px_c253_14 : List px_I := (14, .ireturn, 1, 0, 0, 0) :: []
def px_c253_13 : List px_I := (13, .iconst 1, 1, 0, 0, 1) :: px_c253_14
def px_c253_0 : List px_I := (0, .getstatic 38, 3, 4, 0, 0) :: (3, .ifCond .eq 10, 3, 13, 0, 0) :: (6, .aload_n 0, 1, 0, 0, 0) :: (7, .getfield 15, 3, 14, 1, 0) :: (10, .goto 4, 3, 14, 0, 0) :: px_c253_13
def px_c254_18 : List px_I := (18, .ireturn, 1, 0, 0, 0) :: []
def px_c254_17 : List px_I := (17, .iconst 0, 1, 0, 0, 0) :: px_c254_18
def px_c254_0 : List px_I := (0, .getstatic 38, 3, 4, 0, 0) :: (3, .ifCond .eq 14, 3, 17, 0, 0) :: (6, .aload_n 0, 1, 0, 0, 0) :: (7, .getfield 15, 3, 14, 1, 0) :: (10, .ifCond .ne 7, 3, 17, 0, 0) :: (13, .iconst 1, 1, 0, 0, 1) :: (14, .goto 4, 3, 18, 0, 0) :: px_c254_17
def px_c255_0 : List px_I := (0, .iload_n 0, 1, 0, 0, 0) :: (1, .iload_n 1, 1, 1, 0, 0) :: (2, .getstatic 1053, 3, 5, 0, 0) :: (5, .invokestatic 1059, 3, 259, 3, 0) :: (8, .pop, 1, 0, 0, 0) :: (9, .return_, 1, 0, 0, 0) :: []
def px_c256_0 : List px_I := (0, .iload_n 1, 1, 1, 0, 0) :: (1, .aload_n 0, 1, 0, 0, 0) :: (2, .arraylength, 1, 0, 0, 0) :: (3, .invokestatic 9, 3, 255, 2, 0) :: (6, .aload_n 0, 1, 0, 0, 0) :: (7, .iload_n 1, 1, 1, 0, 0) :: (8, .baload, 1, 0, 0, 0) :: (9, .sipush 255, 3, 0, 0, 255) :: (12, .iand, 1, 0, 0, 0) :: (13, .i2c, 1, 0, 0, 0) :: (14, .ireturn, 1, 0, 0, 0) :: []
def px_c257_22 : List px_I := (22, .return_, 1, 0, 0, 0) :: []
def px_c257_6 : List px_I := (6, .iload_n 3, 1, 3, 0, 0) :: (7, .iload 4, 2, 4, 0, 0) :: (9, .if_icmp .ge 13, 3, 22, 0, 0) :: (12, .aload_n 0, 1, 0, 0, 0) :: (13, .iload_n 3, 1, 3, 0, 0) :: (14, .lload_n 1, 1, 1, 0, 0) :: (15, .lastore, 1, 0, 0, 0) :: (16, .iinc 3 1, 3, 3, 0, 1) :: (19, .goto (-13), 3, 6, 0, 0) :: px_c257_22
def px_c257_0 : List px_I := (0, .iconst 0, 1, 0, 0, 0) :: (1, .istore_n 3, 1, 3, 0, 0) :: (2, .aload_n 0, 1, 0, 0, 0) :: (3, .arraylength, 1, 0, 0, 0) :: (4, .istore 4, 2, 4, 0, 0) :: px_c257_6
def px_c258_20 : List px_I := (20, .return_, 1, 0, 0, 0) :: []
def px_c258_5 : List px_I := (5, .iload_n 2, 1, 2, 0, 0) :: (6, .iload_n 3, 1, 3, 0, 0) :: (7, .if_icmp .ge 13, 3, 20, 0, 0) :: (10, .aload_n 0, 1, 0, 0, 0) :: (11, .iload_n 2, 1, 2, 0, 0) :: (12, .iload_n 1, 1, 1, 0, 0) :: (13, .iastore, 1, 0, 0, 0) :: (14, .iinc 2 1, 3, 2, 0, 1) :: (17, .goto (-12), 3, 5, 0, 0) :: px_c258_20
def px_c258_0 : List px_I := (0, .iconst 0, 1, 0, 0, 0) :: (1, .istore_n 2, 1, 2, 0, 0) :: (2, .aload_n 0, 1, 0, 0, 0) :: (3, .arraylength, 1, 0, 0, 0) :: (4, .istore_n 3, 1, 3, 0, 0) :: px_c258_5
def px_c259_16 : List px_I := (16, .iload_n 0, 1, 0, 0, 0) :: (17, .ireturn, 1, 0, 0, 0) :: []
def px_c259_9 : List px_I := (9, .aload_n 2, 1, 2, 0, 0) :: (10, .iload_n 0, 1, 0, 0, 0) :: (11, .iload_n 1, 1, 1, 0, 0) :: (12, .invokestatic 95, 3, 9999, 0, 0) :: (15, .athrow, 1, 0, 0, 0) :: px_c259_16
def px_c259_0 : List px_I := (0, .iload_n 0, 1, 0, 0, 0) :: (1, .ifCond .lt 8, 3, 9, 0, 0) :: (4, .iload_n 0, 1, 0, 0, 0) :: (5, .iload_n 1, 1, 1, 0, 0) :: (6, .if_icmp .lt 10, 3, 16, 0, 0) :: px_c259_9
def px_c260_1738 : List px_I := (1738, .iconst 1, 1, 0, 0, 1) :: (1739, .ireturn, 1, 0, 0, 0) :: []
def px_c260_1732 : List px_I := (1732, .iinc 3 6, 3, 3, 0, 6) :: (1735, .goto (-1717), 3, 18, 0, 0) :: px_c260_1738
def px_c260_1709 : List px_I := (1709, .aload_n 1, 1, 1, 0, 0) :: (1710, .aload_n 0, 1, 0, 0, 0) :: (1711, .iload_n 3, 1, 3, 0, 0) :: (1712, .iconst 1, 1, 0, 0, 1) :: (1713, .iadd, 1, 0, 0, 0) :: (1714, .iaload, 1, 0, 0, 0) :: (1715, .invokevirtual 192, 3, 129, 2, 0) :: (1718, .aload_n 2, 1, 2, 0, 0) :: (1719, .aload_n 0, 1, 0, 0, 0) :: (1720, .iload_n 3, 1, 3, 0, 0) :: (1721, .iconst 1, 1, 0, 0, 1) :: (1722, .iadd, 1, 0, 0, 0) :: (1723, .iaload, 1, 0, 0, 0) :: (1724, .invokevirtual 195, 3, 246, 2, 0) :: (1727, .if_icmp .eq 5, 3, 1732, 0, 0) :: (1730, .iconst 0, 1, 0, 0, 0) :: (1731, .ireturn, 1, 0, 0, 0) :: px_c260_1732
def px_c260_1696 : List px_I := (1696, .aload_n 1, 1, 1, 0, 0) :: (1697, .invokevirtual 188, 3, 128, 1, 0) :: (1700, .aload_n 2, 1, 2, 0, 0) :: (1701, .invokevirtual 191, 3, 245, 1, 0) :: (1704, .if_icmp .eq 28, 3, 1732, 0, 0) :: (1707, .iconst 0, 1, 0, 0, 0) :: (1708, .ireturn, 1, 0, 0, 0) :: px_c260_1709
def px_c260_1683 : List px_I := (1683, .aload_n 1, 1, 1, 0, 0) :: (1684, .invokevirtual 184, 3, 127, 1, 0) :: (1687, .aload_n 2, 1, 2, 0, 0) :: (1688, .invokevirtual 187, 3, 244, 1, 0) :: (1691, .if_icmp .eq 41, 3, 1732, 0, 0) :: (1694, .iconst 0, 1, 0, 0, 0) :: (1695, .ireturn, 1, 0, 0, 0) :: px_c260_1696
def px_c260_1660 : List px_I := (1660, .aload_n 1, 1, 1, 0, 0) :: (1661, .aload_n 0, 1, 0, 0, 0) :: (1662, .iload_n 3, 1, 3, 0, 0) :: (1663, .iconst 1, 1, 0, 0, 1) :: (1664, .iadd, 1, 0, 0, 0) :: (1665, .iaload, 1, 0, 0, 0) :: (1666, .invokevirtual 180, 3, 126, 2, 0) :: (1669, .aload_n 2, 1, 2, 0, 0) :: (1670, .aload_n 0, 1, 0, 0, 0) :: (1671, .iload_n 3, 1, 3, 0, 0) :: (1672, .iconst 1, 1, 0, 0, 1) :: (1673, .iadd, 1, 0, 0, 0) :: (1674, .iaload, 1, 0, 0, 0) :: (1675, .invokevirtual 183, 3, 241, 2, 0) :: (1678, .if_icmp .eq 54, 3, 1732, 0, 0) :: (1681, .iconst 0, 1, 0, 0, 0) :: (1682, .ireturn, 1, 0, 0, 0) :: px_c260_1683
def px_c260_1617 : List px_I := (1617, .aload_n 1, 1, 1, 0, 0) :: (1618, .aload_n 0, 1, 0, 0, 0) :: (1619, .iload_n 3, 1, 3, 0, 0) :: (1620, .iconst 1, 1, 0, 0, 1) :: (1621, .iadd, 1, 0, 0, 0) :: (1622, .iaload, 1, 0, 0, 0) :: (1623, .aload_n 0, 1, 0, 0, 0) :: (1624, .iload_n 3, 1, 3, 0, 0) :: (1625, .iconst 2, 1, 0, 0, 2) :: (1626, .iadd, 1, 0, 0, 0) :: (1627, .iaload, 1, 0, 0, 0) :: (1628, .aload_n 0, 1, 0, 0, 0) :: (1629, .iload_n 3, 1, 3, 0, 0) :: (1630, .iconst 3, 1, 0, 0, 3) :: (1631, .iadd, 1, 0, 0, 0) :: (1632, .iaload, 1, 0, 0, 0) :: (1633, .invokevirtual 176, 3, 125, 4, 0) :: (1636, .aload_n 2, 1, 2, 0, 0) :: (1637, .aload_n 0, 1, 0, 0, 0) :: (1638, .iload_n 3, 1, 3, 0, 0) :: (1639, .iconst 1, 1, 0, 0, 1) :: (1640, .iadd, 1, 0, 0, 0) :: (1641, .iaload, 1, 0, 0, 0) :: (1642, .aload_n 0, 1, 0, 0, 0) :: (1643, .iload_n 3, 1, 3, 0, 0) :: (1644, .iconst 2, 1, 0, 0, 2) :: (1645, .iadd, 1, 0, 0, 0) :: (1646, .iaload, 1, 0, 0, 0) :: (1647, .aload_n 0, 1, 0, 0, 0) :: (1648, .iload_n 3, 1, 3, 0, 0) :: (1649, .iconst 3, 1, 0, 0, 3) :: (1650, .iadd, 1, 0, 0, 0) :: (1651, .iaload, 1, 0, 0, 0) :: (1652, .invokevirtual 179, 3, 240, 4, 0) :: (1655, .if_icmp .eq 77, 3, 1732, 0, 0) :: (1658, .iconst 0, 1, 0, 0, 0) :: (1659, .ireturn, 1, 0, 0, 0) :: px_c260_1660
def px_c260_1574 : List px_I := (1574, .aload_n 1, 1, 1, 0, 0) :: (1575, .aload_n 0, 1, 0, 0, 0) :: (1576, .iload_n 3, 1, 3, 0, 0) :: (1577, .iconst 1, 1, 0, 0, 1) :: (1578, .iadd, 1, 0, 0, 0) :: (1579, .iaload, 1, 0, 0, 0) :: (1580, .aload_n 0, 1, 0, 0, 0) :: (1581, .iload_n 3, 1, 3, 0, 0) :: (1582, .iconst 2, 1, 0, 0, 2) :: (1583, .iadd, 1, 0, 0, 0) :: (1584, .iaload, 1, 0, 0, 0) :: (1585, .aload_n 0, 1, 0, 0, 0) :: (1586, .iload_n 3, 1, 3, 0, 0) :: (1587, .iconst 3, 1, 0, 0, 3) :: (1588, .iadd, 1, 0, 0, 0) :: (1589, .iaload, 1, 0, 0, 0) :: (1590, .invokevirtual 172, 3, 124, 4, 0) :: (1593, .aload_n 2, 1, 2, 0, 0) :: (1594, .aload_n 0, 1, 0, 0, 0) :: (1595, .iload_n 3, 1, 3, 0, 0) :: (1596, .iconst 1, 1, 0, 0, 1) :: (1597, .iadd, 1, 0, 0, 0) :: (1598, .iaload, 1, 0, 0, 0) :: (1599, .aload_n 0, 1, 0, 0, 0) :: (1600, .iload_n 3, 1, 3, 0, 0) :: (1601, .iconst 2, 1, 0, 0, 2) :: (1602, .iadd, 1, 0, 0, 0) :: (1603, .iaload, 1, 0, 0, 0) :: (1604, .aload_n 0, 1, 0, 0, 0) :: (1605, .iload_n 3, 1, 3, 0, 0) :: (1606, .iconst 3, 1, 0, 0, 3) :: (1607, .iadd, 1, 0, 0, 0) :: (1608, .iaload, 1, 0, 0, 0) :: (1609, .invokevirtual 175, 3, 235, 4, 0) :: (1612, .if_icmp .eq 120, 3, 1732, 0, 0) :: (1615, .iconst 0, 1, 0, 0, 0) :: (1616, .ireturn, 1, 0, 0, 0) :: px_c260_1617
def px_c260_1541 : List px_I := (1541, .aload_n 1, 1, 1, 0, 0) :: (1542, .aload_n 0, 1, 0, 0, 0) :: (1543, .iload_n 3, 1, 3, 0, 0) :: (1544, .iconst 1, 1, 0, 0, 1) :: (1545, .iadd, 1, 0, 0, 0) :: (1546, .iaload, 1, 0, 0, 0) :: (1547, .aload_n 0, 1, 0, 0, 0) :: (1548, .iload_n 3, 1, 3, 0, 0) :: (1549, .iconst 2, 1, 0, 0, 2) :: (1550, .iadd, 1, 0, 0, 0) :: (1551, .iaload, 1, 0, 0, 0) :: (1552, .invokevirtual 168, 3, 123, 3, 0) :: (1555, .aload_n 2, 1, 2, 0, 0) :: (1556, .aload_n 0, 1, 0, 0, 0) :: (1557, .iload_n 3, 1, 3, 0, 0) :: (1558, .iconst 1, 1, 0, 0, 1) :: (1559, .iadd, 1, 0, 0, 0) :: (1560, .iaload, 1, 0, 0, 0) :: (1561, .aload_n 0, 1, 0, 0, 0) :: (1562, .iload_n 3, 1, 3, 0, 0) :: (1563, .iconst 2, 1, 0, 0, 2) :: (1564, .iadd, 1, 0, 0, 0) :: (1565, .iaload, 1, 0, 0, 0) :: (1566, .invokevirtual 171, 3, 234, 3, 0) :: (1569, .if_icmp .eq 163, 3, 1732, 0, 0) :: (1572, .iconst 0, 1, 0, 0, 0) :: (1573, .ireturn, 1, 0, 0, 0) :: px_c260_1574
def px_c260_1508 : List px_I := (1508, .aload_n 1, 1, 1, 0, 0) :: (1509, .aload_n 0, 1, 0, 0, 0) :: (1510, .iload_n 3, 1, 3, 0, 0) :: (1511, .iconst 1, 1, 0, 0, 1) :: (1512, .iadd, 1, 0, 0, 0) :: (1513, .iaload, 1, 0, 0, 0) :: (1514, .aload_n 0, 1, 0, 0, 0) :: (1515, .iload_n 3, 1, 3, 0, 0) :: (1516, .iconst 2, 1, 0, 0, 2) :: (1517, .iadd, 1, 0, 0, 0) :: (1518, .iaload, 1, 0, 0, 0) :: (1519, .invokevirtual 164, 3, 122, 3, 0) :: (1522, .aload_n 2, 1, 2, 0, 0) :: (1523, .aload_n 0, 1, 0, 0, 0) :: (1524, .iload_n 3, 1, 3, 0, 0) :: (1525, .iconst 1, 1, 0, 0, 1) :: (1526, .iadd, 1, 0, 0, 0) :: (1527, .iaload, 1, 0, 0, 0) :: (1528, .aload_n 0, 1, 0, 0, 0) :: (1529, .iload_n 3, 1, 3, 0, 0) :: (1530, .iconst 2, 1, 0, 0, 2) :: (1531, .iadd, 1, 0, 0, 0) :: (1532, .iaload, 1, 0, 0, 0) :: (1533, .invokevirtual 167, 3, 233, 3, 0) :: (1536, .if_icmp .eq 196, 3, 1732, 0, 0) :: (1539, .iconst 0, 1, 0, 0, 0) :: (1540, .ireturn, 1, 0, 0, 0) :: px_c260_1541
def px_c260_1500 : List px_I := (1500, .invokevirtual 163, 3, 232, 3, 0) :: (1503, .if_icmp .eq 229, 3, 1732, 0, 0) :: (1506, .iconst 0, 1, 0, 0, 0) :: (1507, .ireturn, 1, 0, 0, 0) :: px_c260_1508
def px_c260_1499 : List px_I := (1499, .iconst 0, 1, 0, 0, 0) :: px_c260_1500
def px_c260_1478 : List px_I := (1478, .invokevirtual 160, 3, 121, 3, 0) :: (1481, .aload_n 2, 1, 2, 0, 0) :: (1482, .aload_n 0, 1, 0, 0, 0) :: (1483, .iload_n 3, 1, 3, 0, 0) :: (1484, .iconst 1, 1, 0, 0, 1) :: (1485, .iadd, 1, 0, 0, 0) :: (1486, .iaload, 1, 0, 0, 0) :: (1487, .aload_n 0, 1, 0, 0, 0) :: (1488, .iload_n 3, 1, 3, 0, 0) :: (1489, .iconst 2, 1, 0, 0, 2) :: (1490, .iadd, 1, 0, 0, 0) :: (1491, .iaload, 1, 0, 0, 0) :: (1492, .ifCond .eq 7, 3, 1499, 0, 0) :: (1495, .iconst 1, 1, 0, 0, 1) :: (1496, .goto 4, 3, 1500, 0, 0) :: px_c260_1499
def px_c260_1477 : List px_I := (1477, .iconst 0, 1, 0, 0, 0) :: px_c260_1478
def px_c260_1459 : List px_I := (1459, .aload_n 1, 1, 1, 0, 0) :: (1460, .aload_n 0, 1, 0, 0, 0) :: (1461, .iload_n 3, 1, 3, 0, 0) :: (1462, .iconst 1, 1, 0, 0, 1) :: (1463, .iadd, 1, 0, 0, 0) :: (1464, .iaload, 1, 0, 0, 0) :: (1465, .aload_n 0, 1, 0, 0, 0) :: (1466, .iload_n 3, 1, 3, 0, 0) :: (1467, .iconst 2, 1, 0, 0, 2) :: (1468, .iadd, 1, 0, 0, 0) :: (1469, .iaload, 1, 0, 0, 0) :: (1470, .ifCond .eq 7, 3, 1477, 0, 0) :: (1473, .iconst 1, 1, 0, 0, 1) :: (1474, .goto 4, 3, 1478, 0, 0) :: px_c260_1477
def px_c260_1436 : List px_I := (1436, .aload_n 1, 1, 1, 0, 0) :: (1437, .aload_n 0, 1, 0, 0, 0) :: (1438, .iload_n 3, 1, 3, 0, 0) :: (1439, .iconst 1, 1, 0, 0, 1) :: (1440, .iadd, 1, 0, 0, 0) :: (1441, .iaload, 1, 0, 0, 0) :: (1442, .invokevirtual 156, 3, 120, 2, 0) :: (1445, .aload_n 2, 1, 2, 0, 0) :: (1446, .aload_n 0, 1, 0, 0, 0) :: (1447, .iload_n 3, 1, 3, 0, 0) :: (1448, .iconst 1, 1, 0, 0, 1) :: (1449, .iadd, 1, 0, 0, 0) :: (1450, .iaload, 1, 0, 0, 0) :: (1451, .invokevirtual 159, 3, 231, 2, 0) :: (1454, .if_icmp .eq 278, 3, 1732, 0, 0) :: (1457, .iconst 0, 1, 0, 0, 0) :: (1458, .ireturn, 1, 0, 0, 0) :: px_c260_1459
def px_c260_1403 : List px_I := (1403, .aload_n 1, 1, 1, 0, 0) :: (1404, .aload_n 0, 1, 0, 0, 0) :: (1405, .iload_n 3, 1, 3, 0, 0) :: (1406, .iconst 1, 1, 0, 0, 1) :: (1407, .iadd, 1, 0, 0, 0) :: (1408, .iaload, 1, 0, 0, 0) :: (1409, .aload_n 0, 1, 0, 0, 0) :: (1410, .iload_n 3, 1, 3, 0, 0) :: (1411, .iconst 2, 1, 0, 0, 2) :: (1412, .iadd, 1, 0, 0, 0) :: (1413, .iaload, 1, 0, 0, 0) :: (1414, .invokevirtual 152, 3, 119, 3, 0) :: (1417, .aload_n 2, 1, 2, 0, 0) :: (1418, .aload_n 0, 1, 0, 0, 0) :: (1419, .iload_n 3, 1, 3, 0, 0) :: (1420, .iconst 1, 1, 0, 0, 1) :: (1421, .iadd, 1, 0, 0, 0) :: (1422, .iaload, 1, 0, 0, 0) :: (1423, .aload_n 0, 1, 0, 0, 0) :: (1424, .iload_n 3, 1, 3, 0, 0) :: (1425, .iconst 2, 1, 0, 0, 2) :: (1426, .iadd, 1, 0, 0, 0) :: (1427, .iaload, 1, 0, 0, 0) :: (1428, .invokevirtual 155, 3, 230, 3, 0) :: (1431, .if_icmp .eq 301, 3, 1732, 0, 0) :: (1434, .iconst 0, 1, 0, 0, 0) :: (1435, .ireturn, 1, 0, 0, 0) :: px_c260_1436
def px_c260_1360 : List px_I := (1360, .aload_n 1, 1, 1, 0, 0) :: (1361, .aload_n 0, 1, 0, 0, 0) :: (1362, .iload_n 3, 1, 3, 0, 0) :: (1363, .iconst 1, 1, 0, 0, 1) :: (1364, .iadd, 1, 0, 0, 0) :: (1365, .iaload, 1, 0, 0, 0) :: (1366, .aload_n 0, 1, 0, 0, 0) :: (1367, .iload_n 3, 1, 3, 0, 0) :: (1368, .iconst 2, 1, 0, 0, 2) :: (1369, .iadd, 1, 0, 0, 0) :: (1370, .iaload, 1, 0, 0, 0) :: (1371, .aload_n 0, 1, 0, 0, 0) :: (1372, .iload_n 3, 1, 3, 0, 0) :: (1373, .iconst 3, 1, 0, 0, 3) :: (1374, .iadd, 1, 0, 0, 0) :: (1375, .iaload, 1, 0, 0, 0) :: (1376, .invokevirtual 148, 3, 118, 4, 0) :: (1379, .aload_n 2, 1, 2, 0, 0) :: (1380, .aload_n 0, 1, 0, 0, 0) :: (1381, .iload_n 3, 1, 3, 0, 0) :: (1382, .iconst 1, 1, 0, 0, 1) :: (1383, .iadd, 1, 0, 0, 0) :: (1384, .iaload, 1, 0, 0, 0) :: (1385, .aload_n 0, 1, 0, 0, 0) :: (1386, .iload_n 3, 1, 3, 0, 0) :: (1387, .iconst 2, 1, 0, 0, 2) :: (1388, .iadd, 1, 0, 0, 0) :: (1389, .iaload, 1, 0, 0, 0) :: (1390, .aload_n 0, 1, 0, 0, 0) :: (1391, .iload_n 3, 1, 3, 0, 0) :: (1392, .iconst 3, 1, 0, 0, 3) :: (1393, .iadd, 1, 0, 0, 0) :: (1394, .iaload, 1, 0, 0, 0) :: (1395, .invokevirtual 151, 3, 229, 4, 0) :: (1398, .if_icmp .eq 334, 3, 1732, 0, 0) :: (1401, .iconst 0, 1, 0, 0, 0) :: (1402, .ireturn, 1, 0, 0, 0) :: px_c260_1403
def px_c260_1347 : List px_I := (1347, .aload_n 1, 1, 1, 0, 0) :: (1348, .invokevirtual 144, 3, 117, 1, 0) :: (1351, .aload_n 2, 1, 2, 0, 0) :: (1352, .invokevirtual 147, 3, 228, 1, 0) :: (1355, .if_icmp .eq 377, 3, 1732, 0, 0) :: (1358, .iconst 0, 1, 0, 0, 0) :: (1359, .ireturn, 1, 0, 0, 0) :: px_c260_1360
def px_c260_1324 : List px_I := (1324, .aload_n 1, 1, 1, 0, 0) :: (1325, .aload_n 0, 1, 0, 0, 0) :: (1326, .iload_n 3, 1, 3, 0, 0) :: (1327, .iconst 1, 1, 0, 0, 1) :: (1328, .iadd, 1, 0, 0, 0) :: (1329, .iaload, 1, 0, 0, 0) :: (1330, .invokevirtual 140, 3, 116, 2, 0) :: (1333, .aload_n 2, 1, 2, 0, 0) :: (1334, .aload_n 0, 1, 0, 0, 0) :: (1335, .iload_n 3, 1, 3, 0, 0) :: (1336, .iconst 1, 1, 0, 0, 1) :: (1337, .iadd, 1, 0, 0, 0) :: (1338, .iaload, 1, 0, 0, 0) :: (1339, .invokevirtual 143, 3, 227, 2, 0) :: (1342, .if_icmp .eq 390, 3, 1732, 0, 0) :: (1345, .iconst 0, 1, 0, 0, 0) :: (1346, .ireturn, 1, 0, 0, 0) :: px_c260_1347
def px_c260_1301 : List px_I := (1301, .aload_n 1, 1, 1, 0, 0) :: (1302, .aload_n 0, 1, 0, 0, 0) :: (1303, .iload_n 3, 1, 3, 0, 0) :: (1304, .iconst 1, 1, 0, 0, 1) :: (1305, .iadd, 1, 0, 0, 0) :: (1306, .iaload, 1, 0, 0, 0) :: (1307, .invokevirtual 136, 3, 115, 2, 0) :: (1310, .aload_n 2, 1, 2, 0, 0) :: (1311, .aload_n 0, 1, 0, 0, 0) :: (1312, .iload_n 3, 1, 3, 0, 0) :: (1313, .iconst 1, 1, 0, 0, 1) :: (1314, .iadd, 1, 0, 0, 0) :: (1315, .iaload, 1, 0, 0, 0) :: (1316, .invokevirtual 139, 3, 226, 2, 0) :: (1319, .if_icmp .eq 413, 3, 1732, 0, 0) :: (1322, .iconst 0, 1, 0, 0, 0) :: (1323, .ireturn, 1, 0, 0, 0) :: px_c260_1324
def px_c260_1268 : List px_I := (1268, .aload_n 1, 1, 1, 0, 0) :: (1269, .aload_n 0, 1, 0, 0, 0) :: (1270, .iload_n 3, 1, 3, 0, 0) :: (1271, .iconst 1, 1, 0, 0, 1) :: (1272, .iadd, 1, 0, 0, 0) :: (1273, .iaload, 1, 0, 0, 0) :: (1274, .aload_n 0, 1, 0, 0, 0) :: (1275, .iload_n 3, 1, 3, 0, 0) :: (1276, .iconst 2, 1, 0, 0, 2) :: (1277, .iadd, 1, 0, 0, 0) :: (1278, .iaload, 1, 0, 0, 0) :: (1279, .invokevirtual 132, 3, 114, 3, 0) :: (1282, .aload_n 2, 1, 2, 0, 0) :: (1283, .aload_n 0, 1, 0, 0, 0) :: (1284, .iload_n 3, 1, 3, 0, 0) :: (1285, .iconst 1, 1, 0, 0, 1) :: (1286, .iadd, 1, 0, 0, 0) :: (1287, .iaload, 1, 0, 0, 0) :: (1288, .aload_n 0, 1, 0, 0, 0) :: (1289, .iload_n 3, 1, 3, 0, 0) :: (1290, .iconst 2, 1, 0, 0, 2) :: (1291, .iadd, 1, 0, 0, 0) :: (1292, .iaload, 1, 0, 0, 0) :: (1293, .invokevirtual 135, 3, 225, 3, 0) :: (1296, .if_icmp .eq 436, 3, 1732, 0, 0) :: (1299, .iconst 0, 1, 0, 0, 0) :: (1300, .ireturn, 1, 0, 0, 0) :: px_c260_1301
def px_c260_1235 : List px_I := (1235, .aload_n 1, 1, 1, 0, 0) :: (1236, .aload_n 0, 1, 0, 0, 0) :: (1237, .iload_n 3, 1, 3, 0, 0) :: (1238, .iconst 1, 1, 0, 0, 1) :: (1239, .iadd, 1, 0, 0, 0) :: (1240, .iaload, 1, 0, 0, 0) :: (1241, .aload_n 0, 1, 0, 0, 0) :: (1242, .iload_n 3, 1, 3, 0, 0) :: (1243, .iconst 2, 1, 0, 0, 2) :: (1244, .iadd, 1, 0, 0, 0) :: (1245, .iaload, 1, 0, 0, 0) :: (1246, .invokevirtual 128, 3, 113, 3, 0) :: (1249, .aload_n 2, 1, 2, 0, 0) :: (1250, .aload_n 0, 1, 0, 0, 0) :: (1251, .iload_n 3, 1, 3, 0, 0) :: (1252, .iconst 1, 1, 0, 0, 1) :: (1253, .iadd, 1, 0, 0, 0) :: (1254, .iaload, 1, 0, 0, 0) :: (1255, .aload_n 0, 1, 0, 0, 0) :: (1256, .iload_n 3, 1, 3, 0, 0) :: (1257, .iconst 2, 1, 0, 0, 2) :: (1258, .iadd, 1, 0, 0, 0) :: (1259, .iaload, 1, 0, 0, 0) :: (1260, .invokevirtual 131, 3, 224, 3, 0) :: (1263, .if_icmp .eq 469, 3, 1732, 0, 0) :: (1266, .iconst 0, 1, 0, 0, 0) :: (1267, .ireturn, 1, 0, 0, 0) :: px_c260_1268
def px_c260_1202 : List px_I := (1202, .aload_n 1, 1, 1, 0, 0) :: (1203, .aload_n 0, 1, 0, 0, 0) :: (1204, .iload_n 3, 1, 3, 0, 0) :: (1205, .iconst 1, 1, 0, 0, 1) :: (1206, .iadd, 1, 0, 0, 0) :: (1207, .iaload, 1, 0, 0, 0) :: (1208, .aload_n 0, 1, 0, 0, 0) :: (1209, .iload_n 3, 1, 3, 0, 0) :: (1210, .iconst 2, 1, 0, 0, 2) :: (1211, .iadd, 1, 0, 0, 0) :: (1212, .iaload, 1, 0, 0, 0) :: (1213, .invokevirtual 124, 3, 112, 3, 0) :: (1216, .aload_n 2, 1, 2, 0, 0) :: (1217, .aload_n 0, 1, 0, 0, 0) :: (1218, .iload_n 3, 1, 3, 0, 0) :: (1219, .iconst 1, 1, 0, 0, 1) :: (1220, .iadd, 1, 0, 0, 0) :: (1221, .iaload, 1, 0, 0, 0) :: (1222, .aload_n 0, 1, 0, 0, 0) :: (1223, .iload_n 3, 1, 3, 0, 0) :: (1224, .iconst 2, 1, 0, 0, 2) :: (1225, .iadd, 1, 0, 0, 0) :: (1226, .iaload, 1, 0, 0, 0) :: (1227, .invokevirtual 127, 3, 223, 3, 0) :: (1230, .if_icmp .eq 502, 3, 1732, 0, 0) :: (1233, .iconst 0, 1, 0, 0, 0) :: (1234, .ireturn, 1, 0, 0, 0) :: px_c260_1235
def px_c260_1169 : List px_I := (1169, .aload_n 1, 1, 1, 0, 0) :: (1170, .aload_n 0, 1, 0, 0, 0) :: (1171, .iload_n 3, 1, 3, 0, 0) :: (1172, .iconst 1, 1, 0, 0, 1) :: (1173, .iadd, 1, 0, 0, 0) :: (1174, .iaload, 1, 0, 0, 0) :: (1175, .aload_n 0, 1, 0, 0, 0) :: (1176, .iload_n 3, 1, 3, 0, 0) :: (1177, .iconst 2, 1, 0, 0, 2) :: (1178, .iadd, 1, 0, 0, 0) :: (1179, .iaload, 1, 0, 0, 0) :: (1180, .invokevirtual 120, 3, 111, 3, 0) :: (1183, .aload_n 2, 1, 2, 0, 0) :: (1184, .aload_n 0, 1, 0, 0, 0) :: (1185, .iload_n 3, 1, 3, 0, 0) :: (1186, .iconst 1, 1, 0, 0, 1) :: (1187, .iadd, 1, 0, 0, 0) :: (1188, .iaload, 1, 0, 0, 0) :: (1189, .aload_n 0, 1, 0, 0, 0) :: (1190, .iload_n 3, 1, 3, 0, 0) :: (1191, .iconst 2, 1, 0, 0, 2) :: (1192, .iadd, 1, 0, 0, 0) :: (1193, .iaload, 1, 0, 0, 0) :: (1194, .invokevirtual 123, 3, 222, 3, 0) :: (1197, .if_icmp .eq 535, 3, 1732, 0, 0) :: (1200, .iconst 0, 1, 0, 0, 0) :: (1201, .ireturn, 1, 0, 0, 0) :: px_c260_1202
def px_c260_1136 : List px_I := (1136, .aload_n 1, 1, 1, 0, 0) :: (1137, .aload_n 0, 1, 0, 0, 0) :: (1138, .iload_n 3, 1, 3, 0, 0) :: (1139, .iconst 1, 1, 0, 0, 1) :: (1140, .iadd, 1, 0, 0, 0) :: (1141, .iaload, 1, 0, 0, 0) :: (1142, .aload_n 0, 1, 0, 0, 0) :: (1143, .iload_n 3, 1, 3, 0, 0) :: (1144, .iconst 2, 1, 0, 0, 2) :: (1145, .iadd, 1, 0, 0, 0) :: (1146, .iaload, 1, 0, 0, 0) :: (1147, .invokevirtual 116, 3, 110, 3, 0) :: (1150, .aload_n 2, 1, 2, 0, 0) :: (1151, .aload_n 0, 1, 0, 0, 0) :: (1152, .iload_n 3, 1, 3, 0, 0) :: (1153, .iconst 1, 1, 0, 0, 1) :: (1154, .iadd, 1, 0, 0, 0) :: (1155, .iaload, 1, 0, 0, 0) :: (1156, .aload_n 0, 1, 0, 0, 0) :: (1157, .iload_n 3, 1, 3, 0, 0) :: (1158, .iconst 2, 1, 0, 0, 2) :: (1159, .iadd, 1, 0, 0, 0) :: (1160, .iaload, 1, 0, 0, 0) :: (1161, .invokevirtual 119, 3, 216, 3, 0) :: (1164, .if_icmp .eq 568, 3, 1732, 0, 0) :: (1167, .iconst 0, 1, 0, 0, 0) :: (1168, .ireturn, 1, 0, 0, 0) :: px_c260_1169
def px_c260_1093 : List px_I := (1093, .aload_n 1, 1, 1, 0, 0) :: (1094, .aload_n 0, 1, 0, 0, 0) :: (1095, .iload_n 3, 1, 3, 0, 0) :: (1096, .iconst 1, 1, 0, 0, 1) :: (1097, .iadd, 1, 0, 0, 0) :: (1098, .iaload, 1, 0, 0, 0) :: (1099, .aload_n 0, 1, 0, 0, 0) :: (1100, .iload_n 3, 1, 3, 0, 0) :: (1101, .iconst 2, 1, 0, 0, 2) :: (1102, .iadd, 1, 0, 0, 0) :: (1103, .iaload, 1, 0, 0, 0) :: (1104, .aload_n 0, 1, 0, 0, 0) :: (1105, .iload_n 3, 1, 3, 0, 0) :: (1106, .iconst 3, 1, 0, 0, 3) :: (1107, .iadd, 1, 0, 0, 0) :: (1108, .iaload, 1, 0, 0, 0) :: (1109, .invokevirtual 112, 3, 109, 4, 0) :: (1112, .aload_n 2, 1, 2, 0, 0) :: (1113, .aload_n 0, 1, 0, 0, 0) :: (1114, .iload_n 3, 1, 3, 0, 0) :: (1115, .iconst 1, 1, 0, 0, 1) :: (1116, .iadd, 1, 0, 0, 0) :: (1117, .iaload, 1, 0, 0, 0) :: (1118, .aload_n 0, 1, 0, 0, 0) :: (1119, .iload_n 3, 1, 3, 0, 0) :: (1120, .iconst 2, 1, 0, 0, 2) :: (1121, .iadd, 1, 0, 0, 0) :: (1122, .iaload, 1, 0, 0, 0) :: (1123, .aload_n 0, 1, 0, 0, 0) :: (1124, .iload_n 3, 1, 3, 0, 0) :: (1125, .iconst 3, 1, 0, 0, 3) :: (1126, .iadd, 1, 0, 0, 0) :: (1127, .iaload, 1, 0, 0, 0) :: (1128, .invokevirtual 115, 3, 214, 4, 0) :: (1131, .if_icmp .eq 601, 3, 1732, 0, 0) :: (1134, .iconst 0, 1, 0, 0, 0) :: (1135, .ireturn, 1, 0, 0, 0) :: px_c260_1136
def px_c260_1050 : List px_I := (1050, .aload_n 1, 1, 1, 0, 0) :: (1051, .aload_n 0, 1, 0, 0, 0) :: (1052, .iload_n 3, 1, 3, 0, 0) :: (1053, .iconst 1, 1, 0, 0, 1) :: (1054, .iadd, 1, 0, 0, 0) :: (1055, .iaload, 1, 0, 0, 0) :: (1056, .aload_n 0, 1, 0, 0, 0) :: (1057, .iload_n 3, 1, 3, 0, 0) :: (1058, .iconst 2, 1, 0, 0, 2) :: (1059, .iadd, 1, 0, 0, 0) :: (1060, .iaload, 1, 0, 0, 0) :: (1061, .aload_n 0, 1, 0, 0, 0) :: (1062, .iload_n 3, 1, 3, 0, 0) :: (1063, .iconst 3, 1, 0, 0, 3) :: (1064, .iadd, 1, 0, 0, 0) :: (1065, .iaload, 1, 0, 0, 0) :: (1066, .invokevirtual 108, 3, 108, 4, 0) :: (1069, .aload_n 2, 1, 2, 0, 0) :: (1070, .aload_n 0, 1, 0, 0, 0) :: (1071, .iload_n 3, 1, 3, 0, 0) :: (1072, .iconst 1, 1, 0, 0, 1) :: (1073, .iadd, 1, 0, 0, 0) :: (1074, .iaload, 1, 0, 0, 0) :: (1075, .aload_n 0, 1, 0, 0, 0) :: (1076, .iload_n 3, 1, 3, 0, 0) :: (1077, .iconst 2, 1, 0, 0, 2) :: (1078, .iadd, 1, 0, 0, 0) :: (1079, .iaload, 1, 0, 0, 0) :: (1080, .aload_n 0, 1, 0, 0, 0) :: (1081, .iload_n 3, 1, 3, 0, 0) :: (1082, .iconst 3, 1, 0, 0, 3) :: (1083, .iadd, 1, 0, 0, 0) :: (1084, .iaload, 1, 0, 0, 0) :: (1085, .invokevirtual 111, 3, 213, 4, 0) :: (1088, .if_icmp .eq 644, 3, 1732, 0, 0) :: (1091, .iconst 0, 1, 0, 0, 0) :: (1092, .ireturn, 1, 0, 0, 0) :: px_c260_1093
def px_c260_997 : List px_I := (997, .aload_n 1, 1, 1, 0, 0) :: (998, .aload_n 0, 1, 0, 0, 0) :: (999, .iload_n 3, 1, 3, 0, 0) :: (1000, .iconst 1, 1, 0, 0, 1) :: (1001, .iadd, 1, 0, 0, 0) :: (1002, .iaload, 1, 0, 0, 0) :: (1003, .aload_n 0, 1, 0, 0, 0) :: (1004, .iload_n 3, 1, 3, 0, 0) :: (1005, .iconst 2, 1, 0, 0, 2) :: (1006, .iadd, 1, 0, 0, 0) :: (1007, .iaload, 1, 0, 0, 0) :: (1008, .aload_n 0, 1, 0, 0, 0) :: (1009, .iload_n 3, 1, 3, 0, 0) :: (1010, .iconst 3, 1, 0, 0, 3) :: (1011, .iadd, 1, 0, 0, 0) :: (1012, .iaload, 1, 0, 0, 0) :: (1013, .aload_n 0, 1, 0, 0, 0) :: (1014, .iload_n 3, 1, 3, 0, 0) :: (1015, .iconst 4, 1, 0, 0, 4) :: (1016, .iadd, 1, 0, 0, 0) :: (1017, .iaload, 1, 0, 0, 0) :: (1018, .invokevirtual 104, 3, 107, 5, 0) :: (1021, .aload_n 2, 1, 2, 0, 0) :: (1022, .aload_n 0, 1, 0, 0, 0) :: (1023, .iload_n 3, 1, 3, 0, 0) :: (1024, .iconst 1, 1, 0, 0, 1) :: (1025, .iadd, 1, 0, 0, 0) :: (1026, .iaload, 1, 0, 0, 0) :: (1027, .aload_n 0, 1, 0, 0, 0) :: (1028, .iload_n 3, 1, 3, 0, 0) :: (1029, .iconst 2, 1, 0, 0, 2) :: (1030, .iadd, 1, 0, 0, 0) :: (1031, .iaload, 1, 0, 0, 0) :: (1032, .aload_n 0, 1, 0, 0, 0) :: (1033, .iload_n 3, 1, 3, 0, 0) :: (1034, .iconst 3, 1, 0, 0, 3) :: (1035, .iadd, 1, 0, 0, 0) :: (1036, .iaload, 1, 0, 0, 0) :: (1037, .aload_n 0, 1, 0, 0, 0) :: (1038, .iload_n 3, 1, 3, 0, 0) :: (1039, .iconst 4, 1, 0, 0, 4) :: (1040, .iadd, 1, 0, 0, 0) :: (1041, .iaload, 1, 0, 0, 0) :: (1042, .invokevirtual 107, 3, 209, 5, 0) :: (1045, .if_icmp .eq 687, 3, 1732, 0, 0) :: (1048, .iconst 0, 1, 0, 0, 0) :: (1049, .ireturn, 1, 0, 0, 0) :: px_c260_1050
def px_c260_944 : List px_I := (944, .aload_n 1, 1, 1, 0, 0) :: (945, .aload_n 0, 1, 0, 0, 0) :: (946, .iload_n 3, 1, 3, 0, 0) :: (947, .iconst 1, 1, 0, 0, 1) :: (948, .iadd, 1, 0, 0, 0) :: (949, .iaload, 1, 0, 0, 0) :: (950, .aload_n 0, 1, 0, 0, 0) :: (951, .iload_n 3, 1, 3, 0, 0) :: (952, .iconst 2, 1, 0, 0, 2) :: (953, .iadd, 1, 0, 0, 0) :: (954, .iaload, 1, 0, 0, 0) :: (955, .aload_n 0, 1, 0, 0, 0) :: (956, .iload_n 3, 1, 3, 0, 0) :: (957, .iconst 3, 1, 0, 0, 3) :: (958, .iadd, 1, 0, 0, 0) :: (959, .iaload, 1, 0, 0, 0) :: (960, .aload_n 0, 1, 0, 0, 0) :: (961, .iload_n 3, 1, 3, 0, 0) :: (962, .iconst 4, 1, 0, 0, 4) :: (963, .iadd, 1, 0, 0, 0) :: (964, .iaload, 1, 0, 0, 0) :: (965, .invokevirtual 100, 3, 106, 5, 0) :: (968, .aload_n 2, 1, 2, 0, 0) :: (969, .aload_n 0, 1, 0, 0, 0) :: (970, .iload_n 3, 1, 3, 0, 0) :: (971, .iconst 1, 1, 0, 0, 1) :: (972, .iadd, 1, 0, 0, 0) :: (973, .iaload, 1, 0, 0, 0) :: (974, .aload_n 0, 1, 0, 0, 0) :: (975, .iload_n 3, 1, 3, 0, 0) :: (976, .iconst 2, 1, 0, 0, 2) :: (977, .iadd, 1, 0, 0, 0) :: (978, .iaload, 1, 0, 0, 0) :: (979, .aload_n 0, 1, 0, 0, 0) :: (980, .iload_n 3, 1, 3, 0, 0) :: (981, .iconst 3, 1, 0, 0, 3) :: (982, .iadd, 1, 0, 0, 0) :: (983, .iaload, 1, 0, 0, 0) :: (984, .aload_n 0, 1, 0, 0, 0) :: (985, .iload_n 3, 1, 3, 0, 0) :: (986, .iconst 4, 1, 0, 0, 4) :: (987, .iadd, 1, 0, 0, 0) :: (988, .iaload, 1, 0, 0, 0) :: (989, .invokevirtual 103, 3, 208, 5, 0) :: (992, .if_icmp .eq 740, 3, 1732, 0, 0) :: (995, .iconst 0, 1, 0, 0, 0) :: (996, .ireturn, 1, 0, 0, 0) :: px_c260_997
def px_c260_936 : List px_I := (936, .invokevirtual 99, 3, 197, 3, 0) :: (939, .if_icmp .eq 793, 3, 1732, 0, 0) :: (942, .iconst 0, 1, 0, 0, 0) :: (943, .ireturn, 1, 0, 0, 0) :: px_c260_944
def px_c260_935 : List px_I := (935, .iconst 0, 1, 0, 0, 0) :: px_c260_936
def px_c260_914 : List px_I := (914, .invokevirtual 95, 3, 105, 3, 0) :: (917, .aload_n 2, 1, 2, 0, 0) :: (918, .aload_n 0, 1, 0, 0, 0) :: (919, .iload_n 3, 1, 3, 0, 0) :: (920, .iconst 1, 1, 0, 0, 1) :: (921, .iadd, 1, 0, 0, 0) :: (922, .iaload, 1, 0, 0, 0) :: (923, .aload_n 0, 1, 0, 0, 0) :: (924, .iload_n 3, 1, 3, 0, 0) :: (925, .iconst 2, 1, 0, 0, 2) :: (926, .iadd, 1, 0, 0, 0) :: (927, .iaload, 1, 0, 0, 0) :: (928, .ifCond .eq 7, 3, 935, 0, 0) :: (931, .iconst 1, 1, 0, 0, 1) :: (932, .goto 4, 3, 936, 0, 0) :: px_c260_935
def px_c260_913 : List px_I := (913, .iconst 0, 1, 0, 0, 0) :: px_c260_914
def px_c260_895 : List px_I := (895, .aload_n 1, 1, 1, 0, 0) :: (896, .aload_n 0, 1, 0, 0, 0) :: (897, .iload_n 3, 1, 3, 0, 0) :: (898, .iconst 1, 1, 0, 0, 1) :: (899, .iadd, 1, 0, 0, 0) :: (900, .iaload, 1, 0, 0, 0) :: (901, .aload_n 0, 1, 0, 0, 0) :: (902, .iload_n 3, 1, 3, 0, 0) :: (903, .iconst 2, 1, 0, 0, 2) :: (904, .iadd, 1, 0, 0, 0) :: (905, .iaload, 1, 0, 0, 0) :: (906, .ifCond .eq 7, 3, 913, 0, 0) :: (909, .iconst 1, 1, 0, 0, 1) :: (910, .goto 4, 3, 914, 0, 0) :: px_c260_913
def px_c260_862 : List px_I := (862, .aload_n 1, 1, 1, 0, 0) :: (863, .aload_n 0, 1, 0, 0, 0) :: (864, .iload_n 3, 1, 3, 0, 0) :: (865, .iconst 1, 1, 0, 0, 1) :: (866, .iadd, 1, 0, 0, 0) :: (867, .iaload, 1, 0, 0, 0) :: (868, .aload_n 0, 1, 0, 0, 0) :: (869, .iload_n 3, 1, 3, 0, 0) :: (870, .iconst 2, 1, 0, 0, 2) :: (871, .iadd, 1, 0, 0, 0) :: (872, .iaload, 1, 0, 0, 0) :: (873, .invokevirtual 91, 3, 104, 3, 0) :: (876, .aload_n 2, 1, 2, 0, 0) :: (877, .aload_n 0, 1, 0, 0, 0) :: (878, .iload_n 3, 1, 3, 0, 0) :: (879, .iconst 1, 1, 0, 0, 1) :: (880, .iadd, 1, 0, 0, 0) :: (881, .iaload, 1, 0, 0, 0) :: (882, .aload_n 0, 1, 0, 0, 0) :: (883, .iload_n 3, 1, 3, 0, 0) :: (884, .iconst 2, 1, 0, 0, 2) :: (885, .iadd, 1, 0, 0, 0) :: (886, .iaload, 1, 0, 0, 0) :: (887, .invokevirtual 94, 3, 196, 3, 0) :: (890, .if_icmp .eq 842, 3, 1732, 0, 0) :: (893, .iconst 0, 1, 0, 0, 0) :: (894, .ireturn, 1, 0, 0, 0) :: px_c260_895
def px_c260_829 : List px_I := (829, .aload_n 1, 1, 1, 0, 0) :: (830, .aload_n 0, 1, 0, 0, 0) :: (831, .iload_n 3, 1, 3, 0, 0) :: (832, .iconst 1, 1, 0, 0, 1) :: (833, .iadd, 1, 0, 0, 0) :: (834, .iaload, 1, 0, 0, 0) :: (835, .aload_n 0, 1, 0, 0, 0) :: (836, .iload_n 3, 1, 3, 0, 0) :: (837, .iconst 2, 1, 0, 0, 2) :: (838, .iadd, 1, 0, 0, 0) :: (839, .iaload, 1, 0, 0, 0) :: (840, .invokevirtual 87, 3, 103, 3, 0) :: (843, .aload_n 2, 1, 2, 0, 0) :: (844, .aload_n 0, 1, 0, 0, 0) :: (845, .iload_n 3, 1, 3, 0, 0) :: (846, .iconst 1, 1, 0, 0, 1) :: (847, .iadd, 1, 0, 0, 0) :: (848, .iaload, 1, 0, 0, 0) :: (849, .aload_n 0, 1, 0, 0, 0) :: (850, .iload_n 3, 1, 3, 0, 0) :: (851, .iconst 2, 1, 0, 0, 2) :: (852, .iadd, 1, 0, 0, 0) :: (853, .iaload, 1, 0, 0, 0) :: (854, .invokevirtual 90, 3, 195, 3, 0) :: (857, .if_icmp .eq 875, 3, 1732, 0, 0) :: (860, .iconst 0, 1, 0, 0, 0) :: (861, .ireturn, 1, 0, 0, 0) :: px_c260_862
def px_c260_796 : List px_I := (796, .aload_n 1, 1, 1, 0, 0) :: (797, .aload_n 0, 1, 0, 0, 0) :: (798, .iload_n 3, 1, 3, 0, 0) :: (799, .iconst 1, 1, 0, 0, 1) :: (800, .iadd, 1, 0, 0, 0) :: (801, .iaload, 1, 0, 0, 0) :: (802, .aload_n 0, 1, 0, 0, 0) :: (803, .iload_n 3, 1, 3, 0, 0) :: (804, .iconst 2, 1, 0, 0, 2) :: (805, .iadd, 1, 0, 0, 0) :: (806, .iaload, 1, 0, 0, 0) :: (807, .invokevirtual 83, 3, 102, 3, 0) :: (810, .aload_n 2, 1, 2, 0, 0) :: (811, .aload_n 0, 1, 0, 0, 0) :: (812, .iload_n 3, 1, 3, 0, 0) :: (813, .iconst 1, 1, 0, 0, 1) :: (814, .iadd, 1, 0, 0, 0) :: (815, .iaload, 1, 0, 0, 0) :: (816, .aload_n 0, 1, 0, 0, 0) :: (817, .iload_n 3, 1, 3, 0, 0) :: (818, .iconst 2, 1, 0, 0, 2) :: (819, .iadd, 1, 0, 0, 0) :: (820, .iaload, 1, 0, 0, 0) :: (821, .invokevirtual 86, 3, 194, 3, 0) :: (824, .if_icmp .eq 908, 3, 1732, 0, 0) :: (827, .iconst 0, 1, 0, 0, 0) :: (828, .ireturn, 1, 0, 0, 0) :: px_c260_829
def px_c260_783 : List px_I := (783, .aload_n 1, 1, 1, 0, 0) :: (784, .invokevirtual 78, 3, 101, 1, 0) :: (787, .aload_n 2, 1, 2, 0, 0) :: (788, .invokevirtual 82, 3, 193, 1, 0) :: (791, .if_icmp .eq 941, 3, 1732, 0, 0) :: (794, .iconst 0, 1, 0, 0, 0) :: (795, .ireturn, 1, 0, 0, 0) :: px_c260_796
def px_c260_760 : List px_I := (760, .aload_n 1, 1, 1, 0, 0) :: (761, .aload_n 0, 1, 0, 0, 0) :: (762, .iload_n 3, 1, 3, 0, 0) :: (763, .iconst 1, 1, 0, 0, 1) :: (764, .iadd, 1, 0, 0, 0) :: (765, .iaload, 1, 0, 0, 0) :: (766, .invokevirtual 74, 3, 100, 2, 0) :: (769, .aload_n 2, 1, 2, 0, 0) :: (770, .aload_n 0, 1, 0, 0, 0) :: (771, .iload_n 3, 1, 3, 0, 0) :: (772, .iconst 1, 1, 0, 0, 1) :: (773, .iadd, 1, 0, 0, 0) :: (774, .iaload, 1, 0, 0, 0) :: (775, .invokevirtual 77, 3, 192, 2, 0) :: (778, .if_icmp .eq 954, 3, 1732, 0, 0) :: (781, .iconst 0, 1, 0, 0, 0) :: (782, .ireturn, 1, 0, 0, 0) :: px_c260_783
def px_c260_727 : List px_I := (727, .aload_n 1, 1, 1, 0, 0) :: (728, .aload_n 0, 1, 0, 0, 0) :: (729, .iload_n 3, 1, 3, 0, 0) :: (730, .iconst 1, 1, 0, 0, 1) :: (731, .iadd, 1, 0, 0, 0) :: (732, .iaload, 1, 0, 0, 0) :: (733, .aload_n 0, 1, 0, 0, 0) :: (734, .iload_n 3, 1, 3, 0, 0) :: (735, .iconst 2, 1, 0, 0, 2) :: (736, .iadd, 1, 0, 0, 0) :: (737, .iaload, 1, 0, 0, 0) :: (738, .invokevirtual 70, 3, 99, 3, 0) :: (741, .aload_n 2, 1, 2, 0, 0) :: (742, .aload_n 0, 1, 0, 0, 0) :: (743, .iload_n 3, 1, 3, 0, 0) :: (744, .iconst 1, 1, 0, 0, 1) :: (745, .iadd, 1, 0, 0, 0) :: (746, .iaload, 1, 0, 0, 0) :: (747, .aload_n 0, 1, 0, 0, 0) :: (748, .iload_n 3, 1, 3, 0, 0) :: (749, .iconst 2, 1, 0, 0, 2) :: (750, .iadd, 1, 0, 0, 0) :: (751, .iaload, 1, 0, 0, 0) :: (752, .invokevirtual 73, 3, 182, 3, 0) :: (755, .if_icmp .eq 977, 3, 1732, 0, 0) :: (758, .iconst 0, 1, 0, 0, 0) :: (759, .ireturn, 1, 0, 0, 0) :: px_c260_760
def px_c260_684 : List px_I := (684, .aload_n 1, 1, 1, 0, 0) :: (685, .aload_n 0, 1, 0, 0, 0) :: (686, .iload_n 3, 1, 3, 0, 0) :: (687, .iconst 1, 1, 0, 0, 1) :: (688, .iadd, 1, 0, 0, 0) :: (689, .iaload, 1, 0, 0, 0) :: (690, .aload_n 0, 1, 0, 0, 0) :: (691, .iload_n 3, 1, 3, 0, 0) :: (692, .iconst 2, 1, 0, 0, 2) :: (693, .iadd, 1, 0, 0, 0) :: (694, .iaload, 1, 0, 0, 0) :: (695, .aload_n 0, 1, 0, 0, 0) :: (696, .iload_n 3, 1, 3, 0, 0) :: (697, .iconst 3, 1, 0, 0, 3) :: (698, .iadd, 1, 0, 0, 0) :: (699, .iaload, 1, 0, 0, 0) :: (700, .invokevirtual 66, 3, 98, 4, 0) :: (703, .aload_n 2, 1, 2, 0, 0) :: (704, .aload_n 0, 1, 0, 0, 0) :: (705, .iload_n 3, 1, 3, 0, 0) :: (706, .iconst 1, 1, 0, 0, 1) :: (707, .iadd, 1, 0, 0, 0) :: (708, .iaload, 1, 0, 0, 0) :: (709, .aload_n 0, 1, 0, 0, 0) :: (710, .iload_n 3, 1, 3, 0, 0) :: (711, .iconst 2, 1, 0, 0, 2) :: (712, .iadd, 1, 0, 0, 0) :: (713, .iaload, 1, 0, 0, 0) :: (714, .aload_n 0, 1, 0, 0, 0) :: (715, .iload_n 3, 1, 3, 0, 0) :: (716, .iconst 3, 1, 0, 0, 3) :: (717, .iadd, 1, 0, 0, 0) :: (718, .iaload, 1, 0, 0, 0) :: (719, .invokevirtual 69, 3, 179, 4, 0) :: (722, .if_icmp .eq 1010, 3, 1732, 0, 0) :: (725, .iconst 0, 1, 0, 0, 0) :: (726, .ireturn, 1, 0, 0, 0) :: px_c260_727
def px_c260_651 : List px_I := (651, .aload_n 1, 1, 1, 0, 0) :: (652, .aload_n 0, 1, 0, 0, 0) :: (653, .iload_n 3, 1, 3, 0, 0) :: (654, .iconst 1, 1, 0, 0, 1) :: (655, .iadd, 1, 0, 0, 0) :: (656, .iaload, 1, 0, 0, 0) :: (657, .aload_n 0, 1, 0, 0, 0) :: (658, .iload_n 3, 1, 3, 0, 0) :: (659, .iconst 2, 1, 0, 0, 2) :: (660, .iadd, 1, 0, 0, 0) :: (661, .iaload, 1, 0, 0, 0) :: (662, .invokevirtual 62, 3, 97, 3, 0) :: (665, .aload_n 2, 1, 2, 0, 0) :: (666, .aload_n 0, 1, 0, 0, 0) :: (667, .iload_n 3, 1, 3, 0, 0) :: (668, .iconst 1, 1, 0, 0, 1) :: (669, .iadd, 1, 0, 0, 0) :: (670, .iaload, 1, 0, 0, 0) :: (671, .aload_n 0, 1, 0, 0, 0) :: (672, .iload_n 3, 1, 3, 0, 0) :: (673, .iconst 2, 1, 0, 0, 2) :: (674, .iadd, 1, 0, 0, 0) :: (675, .iaload, 1, 0, 0, 0) :: (676, .invokevirtual 65, 3, 177, 3, 0) :: (679, .if_icmp .eq 1053, 3, 1732, 0, 0) :: (682, .iconst 0, 1, 0, 0, 0) :: (683, .ireturn, 1, 0, 0, 0) :: px_c260_684
def px_c260_618 : List px_I := (618, .aload_n 1, 1, 1, 0, 0) :: (619, .aload_n 0, 1, 0, 0, 0) :: (620, .iload_n 3, 1, 3, 0, 0) :: (621, .iconst 1, 1, 0, 0, 1) :: (622, .iadd, 1, 0, 0, 0) :: (623, .iaload, 1, 0, 0, 0) :: (624, .aload_n 0, 1, 0, 0, 0) :: (625, .iload_n 3, 1, 3, 0, 0) :: (626, .iconst 2, 1, 0, 0, 2) :: (627, .iadd, 1, 0, 0, 0) :: (628, .iaload, 1, 0, 0, 0) :: (629, .invokevirtual 58, 3, 96, 3, 0) :: (632, .aload_n 2, 1, 2, 0, 0) :: (633, .aload_n 0, 1, 0, 0, 0) :: (634, .iload_n 3, 1, 3, 0, 0) :: (635, .iconst 1, 1, 0, 0, 1) :: (636, .iadd, 1, 0, 0, 0) :: (637, .iaload, 1, 0, 0, 0) :: (638, .aload_n 0, 1, 0, 0, 0) :: (639, .iload_n 3, 1, 3, 0, 0) :: (640, .iconst 2, 1, 0, 0, 2) :: (641, .iadd, 1, 0, 0, 0) :: (642, .iaload, 1, 0, 0, 0) :: (643, .invokevirtual 61, 3, 175, 3, 0) :: (646, .if_icmp .eq 1086, 3, 1732, 0, 0) :: (649, .iconst 0, 1, 0, 0, 0) :: (650, .ireturn, 1, 0, 0, 0) :: px_c260_651
def px_c260_585 : List px_I := (585, .aload_n 1, 1, 1, 0, 0) :: (586, .aload_n 0, 1, 0, 0, 0) :: (587, .iload_n 3, 1, 3, 0, 0) :: (588, .iconst 1, 1, 0, 0, 1) :: (589, .iadd, 1, 0, 0, 0) :: (590, .iaload, 1, 0, 0, 0) :: (591, .aload_n 0, 1, 0, 0, 0) :: (592, .iload_n 3, 1, 3, 0, 0) :: (593, .iconst 2, 1, 0, 0, 2) :: (594, .iadd, 1, 0, 0, 0) :: (595, .iaload, 1, 0, 0, 0) :: (596, .invokevirtual 54, 3, 95, 3, 0) :: (599, .aload_n 2, 1, 2, 0, 0) :: (600, .aload_n 0, 1, 0, 0, 0) :: (601, .iload_n 3, 1, 3, 0, 0) :: (602, .iconst 1, 1, 0, 0, 1) :: (603, .iadd, 1, 0, 0, 0) :: (604, .iaload, 1, 0, 0, 0) :: (605, .aload_n 0, 1, 0, 0, 0) :: (606, .iload_n 3, 1, 3, 0, 0) :: (607, .iconst 2, 1, 0, 0, 2) :: (608, .iadd, 1, 0, 0, 0) :: (609, .iaload, 1, 0, 0, 0) :: (610, .invokevirtual 57, 3, 172, 3, 0) :: (613, .if_icmp .eq 1119, 3, 1732, 0, 0) :: (616, .iconst 0, 1, 0, 0, 0) :: (617, .ireturn, 1, 0, 0, 0) :: px_c260_618
def px_c260_532 : List px_I := (532, .aload_n 1, 1, 1, 0, 0) :: (533, .aload_n 0, 1, 0, 0, 0) :: (534, .iload_n 3, 1, 3, 0, 0) :: (535, .iconst 1, 1, 0, 0, 1) :: (536, .iadd, 1, 0, 0, 0) :: (537, .iaload, 1, 0, 0, 0) :: (538, .aload_n 0, 1, 0, 0, 0) :: (539, .iload_n 3, 1, 3, 0, 0) :: (540, .iconst 2, 1, 0, 0, 2) :: (541, .iadd, 1, 0, 0, 0) :: (542, .iaload, 1, 0, 0, 0) :: (543, .aload_n 0, 1, 0, 0, 0) :: (544, .iload_n 3, 1, 3, 0, 0) :: (545, .iconst 3, 1, 0, 0, 3) :: (546, .iadd, 1, 0, 0, 0) :: (547, .iaload, 1, 0, 0, 0) :: (548, .aload_n 0, 1, 0, 0, 0) :: (549, .iload_n 3, 1, 3, 0, 0) :: (550, .iconst 4, 1, 0, 0, 4) :: (551, .iadd, 1, 0, 0, 0) :: (552, .iaload, 1, 0, 0, 0) :: (553, .invokevirtual 49, 3, 94, 5, 0) :: (556, .aload_n 2, 1, 2, 0, 0) :: (557, .aload_n 0, 1, 0, 0, 0) :: (558, .iload_n 3, 1, 3, 0, 0) :: (559, .iconst 1, 1, 0, 0, 1) :: (560, .iadd, 1, 0, 0, 0) :: (561, .iaload, 1, 0, 0, 0) :: (562, .aload_n 0, 1, 0, 0, 0) :: (563, .iload_n 3, 1, 3, 0, 0) :: (564, .iconst 2, 1, 0, 0, 2) :: (565, .iadd, 1, 0, 0, 0) :: (566, .iaload, 1, 0, 0, 0) :: (567, .aload_n 0, 1, 0, 0, 0) :: (568, .iload_n 3, 1, 3, 0, 0) :: (569, .iconst 3, 1, 0, 0, 3) :: (570, .iadd, 1, 0, 0, 0) :: (571, .iaload, 1, 0, 0, 0) :: (572, .aload_n 0, 1, 0, 0, 0) :: (573, .iload_n 3, 1, 3, 0, 0) :: (574, .iconst 4, 1, 0, 0, 4) :: (575, .iadd, 1, 0, 0, 0) :: (576, .iaload, 1, 0, 0, 0) :: (577, .invokevirtual 53, 3, 170, 5, 0) :: (580, .if_icmp .eq 1152, 3, 1732, 0, 0) :: (583, .iconst 0, 1, 0, 0, 0) :: (584, .ireturn, 1, 0, 0, 0) :: px_c260_585
def px_c260_499 : List px_I := (499, .aload_n 1, 1, 1, 0, 0) :: (500, .aload_n 0, 1, 0, 0, 0) :: (501, .iload_n 3, 1, 3, 0, 0) :: (502, .iconst 1, 1, 0, 0, 1) :: (503, .iadd, 1, 0, 0, 0) :: (504, .iaload, 1, 0, 0, 0) :: (505, .aload_n 0, 1, 0, 0, 0) :: (506, .iload_n 3, 1, 3, 0, 0) :: (507, .iconst 2, 1, 0, 0, 2) :: (508, .iadd, 1, 0, 0, 0) :: (509, .iaload, 1, 0, 0, 0) :: (510, .invokevirtual 44, 3, 93, 3, 0) :: (513, .aload_n 2, 1, 2, 0, 0) :: (514, .aload_n 0, 1, 0, 0, 0) :: (515, .iload_n 3, 1, 3, 0, 0) :: (516, .iconst 1, 1, 0, 0, 1) :: (517, .iadd, 1, 0, 0, 0) :: (518, .iaload, 1, 0, 0, 0) :: (519, .aload_n 0, 1, 0, 0, 0) :: (520, .iload_n 3, 1, 3, 0, 0) :: (521, .iconst 2, 1, 0, 0, 2) :: (522, .iadd, 1, 0, 0, 0) :: (523, .iaload, 1, 0, 0, 0) :: (524, .invokevirtual 48, 3, 164, 3, 0) :: (527, .if_icmp .eq 1205, 3, 1732, 0, 0) :: (530, .iconst 0, 1, 0, 0, 0) :: (531, .ireturn, 1, 0, 0, 0) :: px_c260_532
def px_c260_476 : List px_I := (476, .aload_n 1, 1, 1, 0, 0) :: (477, .aload_n 0, 1, 0, 0, 0) :: (478, .iload_n 3, 1, 3, 0, 0) :: (479, .iconst 1, 1, 0, 0, 1) :: (480, .iadd, 1, 0, 0, 0) :: (481, .iaload, 1, 0, 0, 0) :: (482, .invokevirtual 39, 3, 92, 2, 0) :: (485, .aload_n 2, 1, 2, 0, 0) :: (486, .aload_n 0, 1, 0, 0, 0) :: (487, .iload_n 3, 1, 3, 0, 0) :: (488, .iconst 1, 1, 0, 0, 1) :: (489, .iadd, 1, 0, 0, 0) :: (490, .iaload, 1, 0, 0, 0) :: (491, .invokevirtual 43, 3, 162, 2, 0) :: (494, .if_icmp .eq 1238, 3, 1732, 0, 0) :: (497, .iconst 0, 1, 0, 0, 0) :: (498, .ireturn, 1, 0, 0, 0) :: px_c260_499
def px_c260_433 : List px_I := (433, .aload_n 1, 1, 1, 0, 0) :: (434, .aload_n 0, 1, 0, 0, 0) :: (435, .iload_n 3, 1, 3, 0, 0) :: (436, .iconst 1, 1, 0, 0, 1) :: (437, .iadd, 1, 0, 0, 0) :: (438, .iaload, 1, 0, 0, 0) :: (439, .aload_n 0, 1, 0, 0, 0) :: (440, .iload_n 3, 1, 3, 0, 0) :: (441, .iconst 2, 1, 0, 0, 2) :: (442, .iadd, 1, 0, 0, 0) :: (443, .iaload, 1, 0, 0, 0) :: (444, .aload_n 0, 1, 0, 0, 0) :: (445, .iload_n 3, 1, 3, 0, 0) :: (446, .iconst 3, 1, 0, 0, 3) :: (447, .iadd, 1, 0, 0, 0) :: (448, .iaload, 1, 0, 0, 0) :: (449, .invokevirtual 35, 3, 91, 4, 0) :: (452, .aload_n 2, 1, 2, 0, 0) :: (453, .aload_n 0, 1, 0, 0, 0) :: (454, .iload_n 3, 1, 3, 0, 0) :: (455, .iconst 1, 1, 0, 0, 1) :: (456, .iadd, 1, 0, 0, 0) :: (457, .iaload, 1, 0, 0, 0) :: (458, .aload_n 0, 1, 0, 0, 0) :: (459, .iload_n 3, 1, 3, 0, 0) :: (460, .iconst 2, 1, 0, 0, 2) :: (461, .iadd, 1, 0, 0, 0) :: (462, .iaload, 1, 0, 0, 0) :: (463, .aload_n 0, 1, 0, 0, 0) :: (464, .iload_n 3, 1, 3, 0, 0) :: (465, .iconst 3, 1, 0, 0, 3) :: (466, .iadd, 1, 0, 0, 0) :: (467, .iaload, 1, 0, 0, 0) :: (468, .invokevirtual 38, 3, 161, 4, 0) :: (471, .if_icmp .eq 1261, 3, 1732, 0, 0) :: (474, .iconst 0, 1, 0, 0, 0) :: (475, .ireturn, 1, 0, 0, 0) :: px_c260_476
def px_c260_399 : List px_I := (399, .aload_n 1, 1, 1, 0, 0) :: (400, .aload_n 0, 1, 0, 0, 0) :: (401, .iload_n 3, 1, 3, 0, 0) :: (402, .iconst 1, 1, 0, 0, 1) :: (403, .iadd, 1, 0, 0, 0) :: (404, .iaload, 1, 0, 0, 0) :: (405, .aload_n 0, 1, 0, 0, 0) :: (406, .iload_n 3, 1, 3, 0, 0) :: (407, .iconst 2, 1, 0, 0, 2) :: (408, .iadd, 1, 0, 0, 0) :: (409, .iaload, 1, 0, 0, 0) :: (410, .invokevirtual 30, 3, 90, 3, 0) :: (413, .aload_n 2, 1, 2, 0, 0) :: (414, .aload_n 0, 1, 0, 0, 0) :: (415, .iload_n 3, 1, 3, 0, 0) :: (416, .iconst 1, 1, 0, 0, 1) :: (417, .iadd, 1, 0, 0, 0) :: (418, .iaload, 1, 0, 0, 0) :: (419, .aload_n 0, 1, 0, 0, 0) :: (420, .iload_n 3, 1, 3, 0, 0) :: (421, .iconst 2, 1, 0, 0, 2) :: (422, .iadd, 1, 0, 0, 0) :: (423, .iaload, 1, 0, 0, 0) :: (424, .invokevirtual 34, 3, 160, 3, 0) :: (427, .lcmp, 1, 0, 0, 0) :: (428, .ifCond .eq 1304, 3, 1732, 0, 0) :: (431, .iconst 0, 1, 0, 0, 0) :: (432, .ireturn, 1, 0, 0, 0) :: px_c260_433
def px_c260_336 : List px_I := (336, .aload_n 1, 1, 1, 0, 0) :: (337, .aload_n 0, 1, 0, 0, 0) :: (338, .iload_n 3, 1, 3, 0, 0) :: (339, .iconst 1, 1, 0, 0, 1) :: (340, .iadd, 1, 0, 0, 0) :: (341, .iaload, 1, 0, 0, 0) :: (342, .aload_n 0, 1, 0, 0, 0) :: (343, .iload_n 3, 1, 3, 0, 0) :: (344, .iconst 2, 1, 0, 0, 2) :: (345, .iadd, 1, 0, 0, 0) :: (346, .iaload, 1, 0, 0, 0) :: (347, .aload_n 0, 1, 0, 0, 0) :: (348, .iload_n 3, 1, 3, 0, 0) :: (349, .iconst 3, 1, 0, 0, 3) :: (350, .iadd, 1, 0, 0, 0) :: (351, .iaload, 1, 0, 0, 0) :: (352, .aload_n 0, 1, 0, 0, 0) :: (353, .iload_n 3, 1, 3, 0, 0) :: (354, .iconst 4, 1, 0, 0, 4) :: (355, .iadd, 1, 0, 0, 0) :: (356, .iaload, 1, 0, 0, 0) :: (357, .aload_n 0, 1, 0, 0, 0) :: (358, .iload_n 3, 1, 3, 0, 0) :: (359, .iconst 5, 1, 0, 0, 5) :: (360, .iadd, 1, 0, 0, 0) :: (361, .iaload, 1, 0, 0, 0) :: (362, .invokevirtual 25, 3, 89, 6, 0) :: (365, .aload_n 2, 1, 2, 0, 0) :: (366, .aload_n 0, 1, 0, 0, 0) :: (367, .iload_n 3, 1, 3, 0, 0) :: (368, .iconst 1, 1, 0, 0, 1) :: (369, .iadd, 1, 0, 0, 0) :: (370, .iaload, 1, 0, 0, 0) :: (371, .aload_n 0, 1, 0, 0, 0) :: (372, .iload_n 3, 1, 3, 0, 0) :: (373, .iconst 2, 1, 0, 0, 2) :: (374, .iadd, 1, 0, 0, 0) :: (375, .iaload, 1, 0, 0, 0) :: (376, .aload_n 0, 1, 0, 0, 0) :: (377, .iload_n 3, 1, 3, 0, 0) :: (378, .iconst 3, 1, 0, 0, 3) :: (379, .iadd, 1, 0, 0, 0) :: (380, .iaload, 1, 0, 0, 0) :: (381, .aload_n 0, 1, 0, 0, 0) :: (382, .iload_n 3, 1, 3, 0, 0) :: (383, .iconst 4, 1, 0, 0, 4) :: (384, .iadd, 1, 0, 0, 0) :: (385, .iaload, 1, 0, 0, 0) :: (386, .aload_n 0, 1, 0, 0, 0) :: (387, .iload_n 3, 1, 3, 0, 0) :: (388, .iconst 5, 1, 0, 0, 5) :: (389, .iadd, 1, 0, 0, 0) :: (390, .iaload, 1, 0, 0, 0) :: (391, .invokevirtual 29, 3, 159, 6, 0) :: (394, .if_icmp .eq 1338, 3, 1732, 0, 0) :: (397, .iconst 0, 1, 0, 0, 0) :: (398, .ireturn, 1, 0, 0, 0) :: px_c260_399
def px_c260_319 : List px_I := (319, .iconst 4, 1, 0, 0, 4) :: (320, .iadd, 1, 0, 0, 0) :: (321, .iaload, 1, 0, 0, 0) :: (322, .i2l, 1, 0, 0, 0) :: (323, .ldc2_w 18, 3, 0, 0, 0) :: (326, .land, 1, 0, 0, 0) :: (327, .lor, 1, 0, 0, 0) :: (328, .invokevirtual 24, 3, 158, 4, 0) :: (331, .if_icmp .eq 1401, 3, 1732, 0, 0) :: (334, .iconst 0, 1, 0, 0, 0) :: (335, .ireturn, 1, 0, 0, 0) :: px_c260_336
def px_c260_263 : List px_I := (263, .aload_n 1, 1, 1, 0, 0) :: (264, .aload_n 0, 1, 0, 0, 0) :: (265, .iload_n 3, 1, 3, 0, 0) :: (266, .iconst 1, 1, 0, 0, 1) :: (267, .iadd, 1, 0, 0, 0) :: (268, .iaload, 1, 0, 0, 0) :: (269, .aload_n 0, 1, 0, 0, 0) :: (270, .iload_n 3, 1, 3, 0, 0) :: (271, .iconst 2, 1, 0, 0, 2) :: (272, .iadd, 1, 0, 0, 0) :: (273, .iaload, 1, 0, 0, 0) :: (274, .aload_n 0, 1, 0, 0, 0) :: (275, .iload_n 3, 1, 3, 0, 0) :: (276, .iconst 3, 1, 0, 0, 3) :: (277, .iadd, 1, 0, 0, 0) :: (278, .iaload, 1, 0, 0, 0) :: (279, .i2l, 1, 0, 0, 0) :: (280, .bipush 32, 2, 0, 0, 32) :: (282, .lshl, 1, 0, 0, 0) :: (283, .aload_n 0, 1, 0, 0, 0) :: (284, .iload_n 3, 1, 3, 0, 0) :: (285, .iconst 4, 1, 0, 0, 4) :: (286, .iadd, 1, 0, 0, 0) :: (287, .iaload, 1, 0, 0, 0) :: (288, .i2l, 1, 0, 0, 0) :: (289, .ldc2_w 18, 3, 0, 0, 0) :: (292, .land, 1, 0, 0, 0) :: (293, .lor, 1, 0, 0, 0) :: (294, .invokevirtual 20, 3, 88, 4, 0) :: (297, .aload_n 2, 1, 2, 0, 0) :: (298, .aload_n 0, 1, 0, 0, 0) :: (299, .iload_n 3, 1, 3, 0, 0) :: (300, .iconst 1, 1, 0, 0, 1) :: (301, .iadd, 1, 0, 0, 0) :: (302, .iaload, 1, 0, 0, 0) :: (303, .aload_n 0, 1, 0, 0, 0) :: (304, .iload_n 3, 1, 3, 0, 0) :: (305, .iconst 2, 1, 0, 0, 2) :: (306, .iadd, 1, 0, 0, 0) :: (307, .iaload, 1, 0, 0, 0) :: (308, .aload_n 0, 1, 0, 0, 0) :: (309, .iload_n 3, 1, 3, 0, 0) :: (310, .iconst 3, 1, 0, 0, 3) :: (311, .iadd, 1, 0, 0, 0) :: (312, .iaload, 1, 0, 0, 0) :: (313, .i2l, 1, 0, 0, 0) :: (314, .bipush 32, 2, 0, 0, 32) :: (316, .lshl, 1, 0, 0, 0) :: (317, .aload_n 0, 1, 0, 0, 0) :: (318, .iload_n 3, 1, 3, 0, 0) :: px_c260_319
def px_c260_220 : List px_I := (220, .aload_n 1, 1, 1, 0, 0) :: (221, .aload_n 0, 1, 0, 0, 0) :: (222, .iload_n 3, 1, 3, 0, 0) :: (223, .iconst 1, 1, 0, 0, 1) :: (224, .iadd, 1, 0, 0, 0) :: (225, .iaload, 1, 0, 0, 0) :: (226, .aload_n 0, 1, 0, 0, 0) :: (227, .iload_n 3, 1, 3, 0, 0) :: (228, .iconst 2, 1, 0, 0, 2) :: (229, .iadd, 1, 0, 0, 0) :: (230, .iaload, 1, 0, 0, 0) :: (231, .aload_n 0, 1, 0, 0, 0) :: (232, .iload_n 3, 1, 3, 0, 0) :: (233, .iconst 3, 1, 0, 0, 3) :: (234, .iadd, 1, 0, 0, 0) :: (235, .iaload, 1, 0, 0, 0) :: (236, .invokevirtual 13, 3, 87, 4, 0) :: (239, .aload_n 2, 1, 2, 0, 0) :: (240, .aload_n 0, 1, 0, 0, 0) :: (241, .iload_n 3, 1, 3, 0, 0) :: (242, .iconst 1, 1, 0, 0, 1) :: (243, .iadd, 1, 0, 0, 0) :: (244, .iaload, 1, 0, 0, 0) :: (245, .aload_n 0, 1, 0, 0, 0) :: (246, .iload_n 3, 1, 3, 0, 0) :: (247, .iconst 2, 1, 0, 0, 2) :: (248, .iadd, 1, 0, 0, 0) :: (249, .iaload, 1, 0, 0, 0) :: (250, .aload_n 0, 1, 0, 0, 0) :: (251, .iload_n 3, 1, 3, 0, 0) :: (252, .iconst 3, 1, 0, 0, 3) :: (253, .iadd, 1, 0, 0, 0) :: (254, .iaload, 1, 0, 0, 0) :: (255, .invokevirtual 17, 3, 157, 4, 0) :: (258, .if_icmp .eq 1474, 3, 1732, 0, 0) :: (261, .iconst 0, 1, 0, 0, 0) :: (262, .ireturn, 1, 0, 0, 0) :: px_c260_263
def px_c260_18 : List px_I := (18, .iload_n 3, 1, 3, 0, 0) :: (19, .aload_n 0, 1, 0, 0, 0) :: (20, .arraylength, 1, 0, 0, 0) :: (21, .bipush 6, 2, 0, 0, 6) :: (23, .isub, 1, 0, 0, 0) :: (24, .if_icmp .gt 1714, 3, 1738, 0, 0) :: (27, .aload_n 0, 1, 0, 0, 0) :: (28, .iload_n 3, 1, 3, 0, 0) :: (29, .iaload, 1, 0, 0, 0) :: (30, .bipush 63, 2, 0, 0, 63) :: (32, .iand, 1, 0, 0, 0) :: (33, .tableswitch 1699 0 42 #[187, 230, 303, 366, 400, 443, 466, 499, 552, 585, 618, 651, 694, 727, 750, 763, 796, 829, 862, 911, 964, 1017, 1060, 1103, 1136, 1169, 1202, 1235, 1268, 1291, 1314, 1327, 1370, 1403, 1426, 1475, 1508, 1541, 1584, 1627, 1650, 1663, 1676], 187, 0, 0, 0) :: px_c260_220
def px_c260_0 : List px_I := (0, .new 7, 3, 7, 0, 0) :: (3, .dup, 1, 0, 0, 0) :: (4, .invokespecial 9, 3, 86, 1, 0) :: (7, .astore_n 1, 1, 1, 0, 0) :: (8, .new 10, 3, 8, 0, 0) :: (11, .dup, 1, 0, 0, 0) :: (12, .invokespecial 12, 3, 148, 1, 0) :: (15, .astore_n 2, 1, 2, 0, 0) :: (16, .iconst 0, 1, 0, 0, 0) :: (17, .istore_n 3, 1, 3, 0, 0) :: px_c260_18
end
section
/-! THE METHODS, by program. -/
def px_B : List (List (Nat × List px_I)) := [
  [(0, px_c0_0)],
  [(0, px_c1_0)],
  [(0, px_c2_0)],
  [(0, px_c3_0), (30, px_c3_30), (31, px_c3_31)],
  [(0, px_c4_0), (22, px_c4_22)],
  [(0, px_c5_0), (14, px_c5_14), (28, px_c5_28), (42, px_c5_42), (92, px_c5_92), (99, px_c5_99), (106, px_c5_106), (110, px_c5_110)],
  [(0, px_c6_0), (24, px_c6_24), (28, px_c6_28), (29, px_c6_29), (44, px_c6_44), (54, px_c6_54), (69, px_c6_69), (90, px_c6_90), (91, px_c6_91), (105, px_c6_105), (120, px_c6_120), (121, px_c6_121)],
  [(0, px_c7_0), (14, px_c7_14), (29, px_c7_29), (47, px_c7_47), (48, px_c7_48), (89, px_c7_89), (91, px_c7_91)],
  [(0, px_c8_0)],
  [(0, px_c9_0), (38, px_c9_38), (74, px_c9_74), (80, px_c9_80), (96, px_c9_96), (98, px_c9_98), (116, px_c9_116), (154, px_c9_154), (160, px_c9_160), (163, px_c9_163), (194, px_c9_194)],
  [(0, px_c10_0), (5, px_c10_5), (35, px_c10_35), (59, px_c10_59), (63, px_c10_63), (64, px_c10_64), (74, px_c10_74), (80, px_c10_80)],
  [(0, px_c11_0), (30, px_c11_30), (31, px_c11_31), (32, px_c11_32), (49, px_c11_49), (50, px_c11_50)],
  [(0, px_c12_0), (4, px_c12_4), (29, px_c12_29), (35, px_c12_35)],
  [(0, px_c13_0), (23, px_c13_23), (24, px_c13_24)],
  [(0, px_c14_0), (2, px_c14_2), (34, px_c14_34), (40, px_c14_40)],
  [(0, px_c15_0), (2, px_c15_2), (20, px_c15_20), (53, px_c15_53), (59, px_c15_59), (79, px_c15_79), (81, px_c15_81), (97, px_c15_97)],
  [(0, px_c16_0), (4, px_c16_4), (25, px_c16_25), (37, px_c16_37)],
  [(0, px_c17_0), (12, px_c17_12), (34, px_c17_34), (50, px_c17_50), (78, px_c17_78), (95, px_c17_95), (96, px_c17_96)],
  [(0, px_c18_0), (5, px_c18_5), (26, px_c18_26), (57, px_c18_57), (60, px_c18_60), (66, px_c18_66)],
  [(0, px_c19_0)],
  [(0, px_c20_0), (19, px_c20_19), (44, px_c20_44)],
  [(0, px_c21_0), (8, px_c21_8), (40, px_c21_40)],
  [(0, px_c22_0), (2, px_c22_2), (35, px_c22_35)],
  [(0, px_c23_0), (11, px_c23_11), (21, px_c23_21), (32, px_c23_32), (45, px_c23_45), (46, px_c23_46)],
  [(0, px_c24_0), (32, px_c24_32), (38, px_c24_38), (43, px_c24_43), (49, px_c24_49), (55, px_c24_55)],
  [(0, px_c25_0), (24, px_c25_24), (25, px_c25_25)],
  [(0, px_c26_0), (2, px_c26_2), (36, px_c26_36), (42, px_c26_42)],
  [(0, px_c27_0), (2, px_c27_2), (31, px_c27_31), (37, px_c27_37)],
  [(0, px_c28_0), (15, px_c28_15), (17, px_c28_17), (34, px_c28_34), (66, px_c28_66), (72, px_c28_72)],
  [(0, px_c29_0), (2, px_c29_2), (39, px_c29_39), (40, px_c29_40), (67, px_c29_67), (73, px_c29_73)],
  [(0, px_c30_0), (6, px_c30_6), (26, px_c30_26), (41, px_c30_41), (50, px_c30_50), (56, px_c30_56)],
  [(0, px_c31_0)],
  [(0, px_c32_0), (13, px_c32_13), (14, px_c32_14)],
  [(0, px_c33_0), (20, px_c33_20), (21, px_c33_21)],
  [(0, px_c34_0)],
  [(0, px_c35_0)],
  [(0, px_c36_0), (21, px_c36_21), (25, px_c36_25), (26, px_c36_26), (48, px_c36_48), (49, px_c36_49)],
  [(0, px_c37_0), (16, px_c37_16), (17, px_c37_17)],
  [(0, px_c38_0), (26, px_c38_26), (27, px_c38_27)],
  [(0, px_c39_0), (21, px_c39_21), (22, px_c39_22)],
  [(0, px_c40_0)],
  [(0, px_c41_0), (19, px_c41_19)],
  [(0, px_c42_0), (32, px_c42_32), (37, px_c42_37), (42, px_c42_42), (46, px_c42_46)],
  [(0, px_c43_0), (12, px_c43_12), (17, px_c43_17), (38, px_c43_38), (42, px_c43_42), (43, px_c43_43)],
  [(0, px_c44_0), (20, px_c44_20), (21, px_c44_21)],
  [(0, px_c45_0), (90, px_c45_90)],
  [(0, px_c46_0)],
  [(0, px_c47_0), (16, px_c47_16), (20, px_c47_20), (21, px_c47_21)],
  [(0, px_c48_0), (16, px_c48_16), (17, px_c48_17), (34, px_c48_34), (58, px_c48_58), (79, px_c48_79)],
  [(0, px_c49_0), (40, px_c49_40), (45, px_c49_45), (50, px_c49_50), (55, px_c49_55), (60, px_c49_60), (65, px_c49_65), (70, px_c49_70)],
  [(0, px_c50_0), (2, px_c50_2), (28, px_c50_28), (34, px_c50_34)],
  [(0, px_c51_0), (21, px_c51_21), (22, px_c51_22)],
  [(0, px_c52_0), (17, px_c52_17), (18, px_c52_18)],
  [(0, px_c53_0), (17, px_c53_17), (18, px_c53_18)],
  [(0, px_c54_0)],
  [(0, px_c55_0), (4, px_c55_4), (29, px_c55_29), (35, px_c55_35)],
  [(0, px_c56_0), (4, px_c56_4), (37, px_c56_37), (43, px_c56_43)],
  [(0, px_c57_0), (48, px_c57_48), (59, px_c57_59), (69, px_c57_69), (76, px_c57_76), (83, px_c57_83)],
  [(0, px_c58_0), (4, px_c58_4), (37, px_c58_37), (43, px_c58_43)],
  [(0, px_c59_0), (8, px_c59_8), (18, px_c59_18), (84, px_c59_84), (90, px_c59_90), (96, px_c59_96)],
  [(0, px_c60_0), (27, px_c60_27), (43, px_c60_43)],
  [(0, px_c61_0), (10, px_c61_10), (37, px_c61_37), (86, px_c61_86), (111, px_c61_111), (139, px_c61_139)],
  [(0, px_c62_0), (32, px_c62_32), (86, px_c62_86), (92, px_c62_92)],
  [(0, px_c63_0), (30, px_c63_30), (32, px_c63_32)],
  [(0, px_c64_0), (6, px_c64_6), (42, px_c64_42), (48, px_c64_48)],
  [(0, px_c65_0), (6, px_c65_6), (42, px_c65_42), (43, px_c65_43), (76, px_c65_76), (82, px_c65_82)],
  [(0, px_c66_0), (9, px_c66_9), (43, px_c66_43), (44, px_c66_44), (61, px_c66_61), (67, px_c66_67)],
  [(0, px_c67_0), (36, px_c67_36), (38, px_c67_38), (88, px_c67_88), (91, px_c67_91), (96, px_c67_96), (101, px_c67_101)],
  [(0, px_c68_0), (5, px_c68_5), (34, px_c68_34)],
  [(0, px_c69_0), (5, px_c69_5), (49, px_c69_49), (55, px_c69_55)],
  [(0, px_c70_0), (4, px_c70_4), (26, px_c70_26), (59, px_c70_59), (63, px_c70_63), (84, px_c70_84), (90, px_c70_90)],
  [(0, px_c71_0), (9, px_c71_9), (33, px_c71_33), (73, px_c71_73), (79, px_c71_79), (88, px_c71_88), (96, px_c71_96)],
  [(0, px_c72_0)],
  [(0, px_c73_0), (12, px_c73_12), (37, px_c73_37), (60, px_c73_60), (78, px_c73_78), (94, px_c73_94)],
  [(0, px_c74_0), (26, px_c74_26), (31, px_c74_31), (42, px_c74_42), (53, px_c74_53), (82, px_c74_82), (109, px_c74_109), (115, px_c74_115)],
  [(0, px_c75_0), (7, px_c75_7), (55, px_c75_55), (61, px_c75_61)],
  [(0, px_c76_0), (2, px_c76_2), (31, px_c76_31)],
  [(0, px_c77_0), (6, px_c77_6), (57, px_c77_57), (81, px_c77_81), (83, px_c77_83)],
  [(0, px_c78_0), (16, px_c78_16), (17, px_c78_17)],
  [(0, px_c79_0)],
  [(0, px_c80_0), (15, px_c80_15), (16, px_c80_16)],
  [(0, px_c81_0), (16, px_c81_16), (17, px_c81_17)],
  [(0, px_c82_0), (25, px_c82_25), (26, px_c82_26), (44, px_c82_44), (45, px_c82_45)],
  [(0, px_c83_0), (28, px_c83_28)],
  [(0, px_c84_0), (9, px_c84_9)],
  [(0, px_c85_0)],
  [(0, px_c86_0), (110, px_c86_110), (135, px_c86_135)],
  [(0, px_c87_0), (13, px_c87_13), (24, px_c87_24), (33, px_c87_33), (40, px_c87_40), (53, px_c87_53)],
  [(0, px_c88_0), (19, px_c88_19), (39, px_c88_39)],
  [(0, px_c89_0), (14, px_c89_14), (20, px_c89_20), (52, px_c89_52), (59, px_c89_59), (95, px_c89_95), (111, px_c89_111), (118, px_c89_118), (130, px_c89_130), (153, px_c89_153), (160, px_c89_160)],
  [(0, px_c90_0), (19, px_c90_19), (21, px_c90_21)],
  [(0, px_c91_0), (18, px_c91_18), (24, px_c91_24), (40, px_c91_40), (55, px_c91_55)],
  [(0, px_c92_0), (19, px_c92_19), (20, px_c92_20)],
  [(0, px_c93_0), (10, px_c93_10), (16, px_c93_16), (32, px_c93_32), (56, px_c93_56), (92, px_c93_92), (105, px_c93_105), (115, px_c93_115), (121, px_c93_121)],
  [(0, px_c94_0), (18, px_c94_18), (25, px_c94_25), (44, px_c94_44), (51, px_c94_51), (71, px_c94_71)],
  [(0, px_c95_0), (13, px_c95_13), (29, px_c95_29), (49, px_c95_49)],
  [(0, px_c96_0), (16, px_c96_16), (22, px_c96_22), (36, px_c96_36), (51, px_c96_51), (58, px_c96_58), (73, px_c96_73)],
  [(0, px_c97_0), (13, px_c97_13), (30, px_c97_30), (50, px_c97_50)],
  [(0, px_c98_0), (13, px_c98_13), (33, px_c98_33), (40, px_c98_40), (60, px_c98_60)],
  [(0, px_c99_0), (18, px_c99_18), (25, px_c99_25)],
  [(0, px_c100_0), (16, px_c100_16), (63, px_c100_63)],
  [(0, px_c101_0)],
  [(0, px_c102_0), (23, px_c102_23), (30, px_c102_30)],
  [(0, px_c103_0), (23, px_c103_23), (30, px_c103_30)],
  [(0, px_c104_0), (33, px_c104_33), (37, px_c104_37), (38, px_c104_38), (49, px_c104_49)],
  [(0, px_c105_0), (20, px_c105_20), (38, px_c105_38), (64, px_c105_64), (65, px_c105_65), (77, px_c105_77), (78, px_c105_78)],
  [(0, px_c106_0), (25, px_c106_25), (26, px_c106_26), (43, px_c106_43)],
  [(0, px_c107_0), (25, px_c107_25), (26, px_c107_26), (43, px_c107_43)],
  [(0, px_c108_0), (21, px_c108_21), (22, px_c108_22), (39, px_c108_39)],
  [(0, px_c109_0), (21, px_c109_21), (22, px_c109_22), (39, px_c109_39), (62, px_c109_62), (75, px_c109_75)],
  [(0, px_c110_0), (25, px_c110_25), (31, px_c110_31)],
  [(0, px_c111_0)],
  [(0, px_c112_0)],
  [(0, px_c113_0)],
  [(0, px_c114_0), (20, px_c114_20), (34, px_c114_34)],
  [(0, px_c115_0), (14, px_c115_14), (21, px_c115_21), (73, px_c115_73), (97, px_c115_97), (103, px_c115_103), (109, px_c115_109), (123, px_c115_123), (124, px_c115_124)],
  [(0, px_c116_0), (20, px_c116_20), (24, px_c116_24), (55, px_c116_55), (61, px_c116_61)],
  [(0, px_c117_0), (6, px_c117_6), (63, px_c117_63), (68, px_c117_68), (74, px_c117_74)],
  [(0, px_c118_0), (27, px_c118_27)],
  [(0, px_c119_0), (20, px_c119_20), (34, px_c119_34), (59, px_c119_59), (87, px_c119_87), (132, px_c119_132), (138, px_c119_138)],
  [(0, px_c120_0), (14, px_c120_14), (39, px_c120_39), (72, px_c120_72), (80, px_c120_80)],
  [(0, px_c121_0), (12, px_c121_12), (19, px_c121_19), (34, px_c121_34), (42, px_c121_42)],
  [(0, px_c122_0), (25, px_c122_25), (31, px_c122_31), (36, px_c122_36), (64, px_c122_64), (65, px_c122_65), (88, px_c122_88), (94, px_c122_94)],
  [(0, px_c123_0), (25, px_c123_25), (31, px_c123_31), (33, px_c123_33), (64, px_c123_64), (65, px_c123_65), (74, px_c123_74)],
  [(0, px_c124_0), (14, px_c124_14), (20, px_c124_20), (52, px_c124_52), (59, px_c124_59), (75, px_c124_75), (82, px_c124_82), (96, px_c124_96), (99, px_c124_99), (129, px_c124_129), (135, px_c124_135)],
  [(0, px_c125_0), (26, px_c125_26), (28, px_c125_28), (80, px_c125_80), (89, px_c125_89), (98, px_c125_98), (107, px_c125_107)],
  [(0, px_c126_0)],
  [(0, px_c127_0)],
  [(0, px_c128_0), (14, px_c128_14)],
  [(0, px_c129_0), (56, px_c129_56), (67, px_c129_67), (78, px_c129_78), (89, px_c129_89), (110, px_c129_110), (121, px_c129_121), (132, px_c129_132), (143, px_c129_143), (154, px_c129_154), (165, px_c129_165), (173, px_c129_173), (197, px_c129_197), (198, px_c129_198)],
  [(0, px_c130_0), (22, px_c130_22)],
  [(0, px_c131_0)],
  [(0, px_c132_0), (9, px_c132_9), (24, px_c132_24), (40, px_c132_40), (42, px_c132_42)],
  [(0, px_c133_0), (9, px_c133_9), (24, px_c133_24), (40, px_c133_40), (42, px_c133_42)],
  [(0, px_c134_0), (6, px_c134_6), (21, px_c134_21), (29, px_c134_29), (31, px_c134_31)],
  [(0, px_c135_0), (20, px_c135_20), (34, px_c135_34), (76, px_c135_76), (78, px_c135_78)],
  [(0, px_c136_0)],
  [(0, px_c137_0)],
  [(0, px_c138_0), (14, px_c138_14), (15, px_c138_15)],
  [(0, px_c139_0), (14, px_c139_14), (15, px_c139_15)],
  [(0, px_c140_0), (14, px_c140_14), (15, px_c140_15)],
  [(0, px_c141_0), (14, px_c141_14), (15, px_c141_15)],
  [(0, px_c142_0), (12, px_c142_12), (13, px_c142_13)],
  [(0, px_c143_0)],
  [(0, px_c144_0)],
  [(0, px_c145_0), (26, px_c145_26), (28, px_c145_28), (50, px_c145_50), (51, px_c145_51)],
  [(0, px_c146_0), (40, px_c146_40), (49, px_c146_49), (53, px_c146_53), (54, px_c146_54), (55, px_c146_55), (60, px_c146_60), (75, px_c146_75), (76, px_c146_76), (77, px_c146_77)],
  [(0, px_c147_0), (56, px_c147_56), (60, px_c147_60), (64, px_c147_64), (68, px_c147_68), (72, px_c147_72), (76, px_c147_76), (80, px_c147_80), (84, px_c147_84), (88, px_c147_88), (92, px_c147_92), (96, px_c147_96)],
  [(0, px_c148_0), (98, px_c148_98), (198, px_c148_198), (275, px_c148_275), (348, px_c148_348), (421, px_c148_421), (494, px_c148_494), (567, px_c148_567), (642, px_c148_642)],
  [(0, px_c149_0)],
  [(0, px_c150_0)],
  [(0, px_c151_0), (14, px_c151_14), (15, px_c151_15)],
  [(0, px_c152_0), (14, px_c152_14), (15, px_c152_15)],
  [(0, px_c153_0), (16, px_c153_16), (17, px_c153_17)],
  [(0, px_c154_0), (16, px_c154_16), (17, px_c154_17)],
  [(0, px_c155_0), (18, px_c155_18), (19, px_c155_19)],
  [(0, px_c156_0), (14, px_c156_14), (15, px_c156_15)],
  [(0, px_c157_0), (14, px_c157_14), (25, px_c157_25), (34, px_c157_34), (41, px_c157_41), (54, px_c157_54), (78, px_c157_78), (104, px_c157_104)],
  [(0, px_c158_0), (14, px_c158_14), (31, px_c158_31), (47, px_c158_47), (61, px_c158_61), (68, px_c158_68), (94, px_c158_94), (111, px_c158_111), (127, px_c158_127), (128, px_c158_128)],
  [(0, px_c159_0), (16, px_c159_16), (22, px_c159_22), (77, px_c159_77), (84, px_c159_84), (102, px_c159_102), (109, px_c159_109), (121, px_c159_121), (157, px_c159_157), (164, px_c159_164), (167, px_c159_167), (201, px_c159_201), (204, px_c159_204), (239, px_c159_239)],
  [(0, px_c160_0), (46, px_c160_46), (47, px_c160_47)],
  [(0, px_c161_0), (19, px_c161_19), (25, px_c161_25), (39, px_c161_39), (49, px_c161_49), (58, px_c161_58), (71, px_c161_71), (88, px_c161_88), (92, px_c161_92), (93, px_c161_93), (107, px_c161_107), (147, px_c161_147), (151, px_c161_151), (152, px_c161_152), (170, px_c161_170), (171, px_c161_171)],
  [(0, px_c162_0), (17, px_c162_17), (19, px_c162_19), (41, px_c162_41), (47, px_c162_47)],
  [(0, px_c163_0), (24, px_c163_24), (28, px_c163_28), (29, px_c163_29)],
  [(0, px_c164_0), (18, px_c164_18), (24, px_c164_24), (41, px_c164_41), (57, px_c164_57), (78, px_c164_78), (111, px_c164_111), (118, px_c164_118), (132, px_c164_132), (138, px_c164_138)],
  [(0, px_c165_0), (4, px_c165_4), (20, px_c165_20)],
  [(0, px_c166_0), (12, px_c166_12), (29, px_c166_29), (43, px_c166_43), (44, px_c166_44)],
  [(0, px_c167_0)],
  [(0, px_c168_0), (49, px_c168_49), (50, px_c168_50)],
  [(0, px_c169_0)],
  [(0, px_c170_0), (19, px_c170_19), (37, px_c170_37), (46, px_c170_46)],
  [(0, px_c171_0)],
  [(0, px_c172_0), (14, px_c172_14), (24, px_c172_24), (31, px_c172_31), (49, px_c172_49), (55, px_c172_55)],
  [(0, px_c173_0), (17, px_c173_17), (21, px_c173_21), (39, px_c173_39), (43, px_c173_43), (56, px_c173_56), (57, px_c173_57)],
  [(0, px_c174_0), (24, px_c174_24), (49, px_c174_49), (66, px_c174_66), (77, px_c174_77), (89, px_c174_89), (93, px_c174_93)],
  [(0, px_c175_0), (17, px_c175_17), (23, px_c175_23), (40, px_c175_40), (46, px_c175_46)],
  [(0, px_c176_0)],
  [(0, px_c177_0), (14, px_c177_14), (25, px_c177_25), (32, px_c177_32), (50, px_c177_50), (56, px_c177_56)],
  [(0, px_c178_0)],
  [(0, px_c179_0), (14, px_c179_14), (34, px_c179_34), (41, px_c179_41), (59, px_c179_59), (66, px_c179_66)],
  [(0, px_c180_0), (19, px_c180_19), (23, px_c180_23), (42, px_c180_42), (56, px_c180_56), (67, px_c180_67), (71, px_c180_71), (72, px_c180_72)],
  [(0, px_c181_0), (11, px_c181_11), (23, px_c181_23), (35, px_c181_35), (39, px_c181_39), (52, px_c181_52), (65, px_c181_65), (78, px_c181_78), (83, px_c181_83)],
  [(0, px_c182_0), (18, px_c182_18), (24, px_c182_24)],
  [(0, px_c183_0)],
  [(0, px_c184_0), (9, px_c184_9), (24, px_c184_24), (75, px_c184_75), (93, px_c184_93), (104, px_c184_104), (105, px_c184_105), (106, px_c184_106), (121, px_c184_121), (130, px_c184_130)],
  [(0, px_c185_0), (55, px_c185_55), (56, px_c185_56)],
  [(0, px_c186_0), (26, px_c186_26), (29, px_c186_29), (88, px_c186_88), (104, px_c186_104), (112, px_c186_112), (116, px_c186_116), (117, px_c186_117)],
  [(0, px_c187_0), (31, px_c187_31), (40, px_c187_40)],
  [(0, px_c188_0), (18, px_c188_18), (22, px_c188_22), (40, px_c188_40), (44, px_c188_44), (66, px_c188_66), (85, px_c188_85), (89, px_c188_89), (108, px_c188_108), (109, px_c188_109)],
  [(0, px_c189_0), (4, px_c189_4), (23, px_c189_23), (24, px_c189_24), (32, px_c189_32), (37, px_c189_37), (86, px_c189_86), (101, px_c189_101), (102, px_c189_102)],
  [(0, px_c190_0), (2, px_c190_2), (33, px_c190_33), (39, px_c190_39), (56, px_c190_56), (70, px_c190_70), (71, px_c190_71), (81, px_c190_81), (91, px_c190_91), (101, px_c190_101), (103, px_c190_103), (111, px_c190_111), (123, px_c190_123), (141, px_c190_141), (145, px_c190_145), (163, px_c190_163), (167, px_c190_167), (184, px_c190_184), (203, px_c190_203), (207, px_c190_207), (220, px_c190_220), (221, px_c190_221), (232, px_c190_232), (242, px_c190_242), (243, px_c190_243), (253, px_c190_253), (255, px_c190_255), (263, px_c190_263), (294, px_c190_294), (306, px_c190_306), (310, px_c190_310), (311, px_c190_311), (321, px_c190_321), (326, px_c190_326), (329, px_c190_329), (337, px_c190_337), (360, px_c190_360), (378, px_c190_378), (396, px_c190_396), (412, px_c190_412), (424, px_c190_424), (442, px_c190_442), (457, px_c190_457)],
  [(0, px_c191_0), (87, px_c191_87)],
  [(0, px_c192_0), (17, px_c192_17), (62, px_c192_62), (111, px_c192_111), (133, px_c192_133), (140, px_c192_140)],
  [(0, px_c193_0)],
  [(0, px_c194_0), (17, px_c194_17), (24, px_c194_24), (37, px_c194_37), (51, px_c194_51), (65, px_c194_65), (71, px_c194_71)],
  [(0, px_c195_0), (17, px_c195_17), (24, px_c195_24), (37, px_c195_37), (51, px_c195_51), (65, px_c195_65), (71, px_c195_71)],
  [(0, px_c196_0), (21, px_c196_21), (27, px_c196_27)],
  [(0, px_c197_0), (14, px_c197_14), (31, px_c197_31), (39, px_c197_39), (40, px_c197_40), (53, px_c197_53)],
  [(0, px_c198_0), (4, px_c198_4), (28, px_c198_28), (34, px_c198_34)],
  [(0, px_c199_0), (11, px_c199_11), (15, px_c199_15), (26, px_c199_26), (30, px_c199_30), (45, px_c199_45), (46, px_c199_46)],
  [(0, px_c200_0), (38, px_c200_38), (52, px_c200_52), (56, px_c200_56), (57, px_c200_57)],
  [(0, px_c201_0), (63, px_c201_63), (81, px_c201_81), (126, px_c201_126), (132, px_c201_132), (135, px_c201_135), (168, px_c201_168), (174, px_c201_174)],
  [(0, px_c202_0), (14, px_c202_14), (38, px_c202_38), (84, px_c202_84), (88, px_c202_88), (94, px_c202_94), (103, px_c202_103), (128, px_c202_128), (153, px_c202_153), (154, px_c202_154), (156, px_c202_156), (175, px_c202_175), (176, px_c202_176), (178, px_c202_178), (198, px_c202_198), (199, px_c202_199), (201, px_c202_201), (224, px_c202_224), (225, px_c202_225), (243, px_c202_243), (257, px_c202_257), (263, px_c202_263)],
  [(0, px_c203_0), (5, px_c203_5), (35, px_c203_35), (41, px_c203_41)],
  [(0, px_c204_0), (22, px_c204_22), (23, px_c204_23), (43, px_c204_43), (45, px_c204_45), (58, px_c204_58), (74, px_c204_74), (82, px_c204_82)],
  [(0, px_c205_0), (27, px_c205_27), (29, px_c205_29)],
  [(0, px_c206_0), (22, px_c206_22), (66, px_c206_66), (67, px_c206_67), (73, px_c206_73), (79, px_c206_79)],
  [(0, px_c207_0)],
  [(0, px_c208_0), (16, px_c208_16), (22, px_c208_22), (42, px_c208_42), (59, px_c208_59), (66, px_c208_66)],
  [(0, px_c209_0), (16, px_c209_16), (22, px_c209_22), (42, px_c209_42), (59, px_c209_59), (66, px_c209_66), (96, px_c209_96), (163, px_c209_163), (164, px_c209_164), (172, px_c209_172), (178, px_c209_178)],
  [(0, px_c210_0), (2, px_c210_2), (22, px_c210_22), (28, px_c210_28)],
  [(0, px_c211_0), (19, px_c211_19), (37, px_c211_37), (59, px_c211_59), (80, px_c211_80), (83, px_c211_83), (104, px_c211_104), (105, px_c211_105), (106, px_c211_106), (112, px_c211_112), (115, px_c211_115), (144, px_c211_144), (152, px_c211_152), (158, px_c211_158), (185, px_c211_185), (188, px_c211_188), (233, px_c211_233), (246, px_c211_246), (252, px_c211_252)],
  [(0, px_c212_0), (3, px_c212_3), (40, px_c212_40)],
  [(0, px_c213_0), (20, px_c213_20), (36, px_c213_36), (43, px_c213_43)],
  [(0, px_c214_0), (20, px_c214_20), (36, px_c214_36), (43, px_c214_43)],
  [(0, px_c215_0), (5, px_c215_5), (41, px_c215_41), (47, px_c215_47)],
  [(0, px_c216_0), (25, px_c216_25), (30, px_c216_30)],
  [(0, px_c217_0), (2, px_c217_2), (15, px_c217_15), (51, px_c217_51), (69, px_c217_69)],
  [(0, px_c218_0), (2, px_c218_2), (26, px_c218_26), (63, px_c218_63), (69, px_c218_69), (75, px_c218_75)],
  [(0, px_c219_0), (2, px_c219_2), (21, px_c219_21), (43, px_c219_43), (45, px_c219_45), (51, px_c219_51)],
  [(0, px_c220_0), (12, px_c220_12), (89, px_c220_89), (93, px_c220_93), (97, px_c220_97), (108, px_c220_108), (109, px_c220_109), (119, px_c220_119), (145, px_c220_145), (149, px_c220_149), (155, px_c220_155)],
  [(0, px_c221_0), (14, px_c221_14), (29, px_c221_29), (53, px_c221_53), (55, px_c221_55)],
  [(0, px_c222_0)],
  [(0, px_c223_0)],
  [(0, px_c224_0)],
  [(0, px_c225_0), (14, px_c225_14), (29, px_c225_29), (40, px_c225_40), (63, px_c225_63), (78, px_c225_78), (93, px_c225_93), (147, px_c225_147), (151, px_c225_151), (157, px_c225_157), (165, px_c225_165), (198, px_c225_198), (209, px_c225_209), (210, px_c225_210), (211, px_c225_211), (217, px_c225_217)],
  [(0, px_c226_0), (15, px_c226_15), (22, px_c226_22), (50, px_c226_50), (74, px_c226_74), (80, px_c226_80), (86, px_c226_86), (100, px_c226_100), (101, px_c226_101)],
  [(0, px_c227_0), (14, px_c227_14), (18, px_c227_18), (61, px_c227_61), (67, px_c227_67)],
  [(0, px_c228_0), (6, px_c228_6), (27, px_c228_27), (65, px_c228_65), (74, px_c228_74), (80, px_c228_80), (100, px_c228_100), (105, px_c228_105), (111, px_c228_111)],
  [(0, px_c229_0), (16, px_c229_16), (22, px_c229_22), (42, px_c229_42), (57, px_c229_57), (90, px_c229_90), (112, px_c229_112), (140, px_c229_140), (141, px_c229_141), (156, px_c229_156), (164, px_c229_164), (170, px_c229_170)],
  [(0, px_c230_0), (12, px_c230_12), (18, px_c230_18), (33, px_c230_33), (44, px_c230_44), (49, px_c230_49), (98, px_c230_98), (104, px_c230_104)],
  [(0, px_c231_0), (15, px_c231_15), (20, px_c231_20), (42, px_c231_42), (50, px_c231_50)],
  [(0, px_c232_0), (12, px_c232_12), (19, px_c232_19), (30, px_c232_30), (53, px_c232_53), (120, px_c232_120), (125, px_c232_125), (127, px_c232_127), (129, px_c232_129), (135, px_c232_135), (141, px_c232_141), (151, px_c232_151), (161, px_c232_161)],
  [(0, px_c233_0), (16, px_c233_16), (22, px_c233_22), (27, px_c233_27), (57, px_c233_57), (58, px_c233_58), (64, px_c233_64), (70, px_c233_70)],
  [(0, px_c234_0), (16, px_c234_16), (22, px_c234_22), (24, px_c234_24), (50, px_c234_50), (51, px_c234_51), (65, px_c234_65)],
  [(0, px_c235_0), (16, px_c235_16), (22, px_c235_22), (42, px_c235_42), (49, px_c235_49), (67, px_c235_67), (74, px_c235_74), (89, px_c235_89), (92, px_c235_92), (120, px_c235_120), (121, px_c235_121), (140, px_c235_140), (146, px_c235_146)],
  [(0, px_c236_0), (19, px_c236_19)],
  [(0, px_c237_0), (18, px_c237_18), (29, px_c237_29), (40, px_c237_40), (68, px_c237_68), (80, px_c237_80), (92, px_c237_92), (94, px_c237_94)],
  [(0, px_c238_0), (26, px_c238_26), (41, px_c238_41), (45, px_c238_45), (46, px_c238_46), (59, px_c238_59), (71, px_c238_71), (100, px_c238_100), (113, px_c238_113), (115, px_c238_115)],
  [(0, px_c239_0), (21, px_c239_21), (43, px_c239_43), (88, px_c239_88), (90, px_c239_90)],
  [(0, px_c240_0), (32, px_c240_32), (34, px_c240_34), (47, px_c240_47), (61, px_c240_61), (67, px_c240_67)],
  [(0, px_c241_0), (27, px_c241_27), (28, px_c241_28)],
  [(0, px_c242_0), (3, px_c242_3), (30, px_c242_30), (43, px_c242_43), (49, px_c242_49)],
  [(0, px_c243_0), (80, px_c243_80), (163, px_c243_163)],
  [(0, px_c244_0)],
  [(0, px_c245_0), (14, px_c245_14)],
  [(0, px_c246_0), (22, px_c246_22), (76, px_c246_76), (81, px_c246_81), (86, px_c246_86), (95, px_c246_95), (99, px_c246_99), (122, px_c246_122), (128, px_c246_128), (136, px_c246_136), (138, px_c246_138), (143, px_c246_143), (148, px_c246_148), (153, px_c246_153), (158, px_c246_158), (163, px_c246_163), (168, px_c246_168)],
  [(0, px_c247_0)],
  [(0, px_c248_0), (9, px_c248_9), (10, px_c248_10)],
  [(0, px_c249_0), (9, px_c249_9), (10, px_c249_10)],
  [(0, px_c250_0), (9, px_c250_9), (10, px_c250_10)],
  [(0, px_c251_0)],
  [(0, px_c252_0), (16, px_c252_16)],
  [(0, px_c253_0), (13, px_c253_13), (14, px_c253_14)],
  [(0, px_c254_0), (17, px_c254_17), (18, px_c254_18)],
  [(0, px_c255_0)],
  [(0, px_c256_0)],
  [(0, px_c257_0), (6, px_c257_6), (22, px_c257_22)],
  [(0, px_c258_0), (5, px_c258_5), (20, px_c258_20)],
  [(0, px_c259_0), (9, px_c259_9), (16, px_c259_16)],
  [(0, px_c260_0), (18, px_c260_18), (220, px_c260_220), (263, px_c260_263), (319, px_c260_319), (336, px_c260_336), (399, px_c260_399), (433, px_c260_433), (476, px_c260_476), (499, px_c260_499), (532, px_c260_532), (585, px_c260_585), (618, px_c260_618), (651, px_c260_651), (684, px_c260_684), (727, px_c260_727), (760, px_c260_760), (783, px_c260_783), (796, px_c260_796), (829, px_c260_829), (862, px_c260_862), (895, px_c260_895), (913, px_c260_913), (914, px_c260_914), (935, px_c260_935), (936, px_c260_936), (944, px_c260_944), (997, px_c260_997), (1050, px_c260_1050), (1093, px_c260_1093), (1136, px_c260_1136), (1169, px_c260_1169), (1202, px_c260_1202), (1235, px_c260_1235), (1268, px_c260_1268), (1301, px_c260_1301), (1324, px_c260_1324), (1347, px_c260_1347), (1360, px_c260_1360), (1403, px_c260_1403), (1436, px_c260_1436), (1459, px_c260_1459), (1477, px_c260_1477), (1478, px_c260_1478), (1499, px_c260_1499), (1500, px_c260_1500), (1508, px_c260_1508), (1541, px_c260_1541), (1574, px_c260_1574), (1617, px_c260_1617), (1660, px_c260_1660), (1683, px_c260_1683), (1696, px_c260_1696), (1709, px_c260_1709), (1732, px_c260_1732), (1738, px_c260_1738)]]
def yL_law : MethodName := ⟨R_law, "law", "([I)Z"⟩
def px_Y : List MethodName := [yX0_init, yX0_forget, yX0_take, yX0_bodyAt, yX0_begin, yX0_burns, yX0_falls, yX0_costs, yX1_init, yX1_prepare, yX1_best, yX1_isBetter, yX1_coinsOf, yX1_isWell, yX1_isFirm, yX1_isBrightEnough, yX1_lampsNeeded, yX1_lampsNeededAt, yX1_brightestAside, yX2_init, yX2_measure, yX2_shine, yX2_addShops, yX2_ruleBroken, yX2_pointAgainst, yX2_leastLight, yX2_firstTooDark, yX2_firstBrightPool, yX2_firstUneven, yX2_firstBrightWindow, yX2_darkest, yX3_init, yX3_isRow, yX3_isLaying, yX3_holdNothing, yX3_holdRow, yX3_holdLaying, yX3_has, yX3_hasRun, yX3_elementAt, yX3_intAt, yX3_put, yX3_lowestBits, yX3_isOfKind, yX3_isHalfAt, yX4_init, yX4_become, yX4_hasRoom, yX4_add, yX4_tableOf, yX4_isPool, yX4_isSet, yX4_hasLamp, yX4_isOut, yX4_putLamp, yX4_lampBits, yX4_burningBits, yX4_burning, yX4_bitsOnSide, yX4_bitsInTurn, yX4_bareLight, yX4_given, yX4_countBetween, yX4_ofLamp, yX4_ofLamps, yX4_faceOfLamps, yX4_brightest, yX4_ofShop, yX4_ofShops, yX4_coinOf, yX4_bulbsAsTheyGo, yX4_bulbsTogether, yX5_init, yX5_read, yX5_readItem, yX5_readWord, yX5_sameLetters, yX5_readNumber, yX5_isDigit, yX6_init, yX6_isFull, yX6_has, yX6_number, yX6_change, yX6_add, yX6_become, yX7_init, yX7_row, yX7_set, yX7_copy, yX7_element, yX7_laying, yX7_holds, yX7_says, yX7_sort, yX7_place, yX7_stand, yX7_window, yX7_shop, yX7_ask, yX7_street, yX7_fault, yX7_sortOf, yX7_placeOf, yX7_lamp, yX7_out, yX7_light, yX7_face, yX7_faulty, yX7_dark, yX7_coin, yX7_cheapest, yX7_fewest, yX7_firm, yX7_bound, yX7_which, yX7_reach, yX7_worst, yX7_shade, yX7_spill, yX7_dim, yX7_bulbs, yX7_moved, yX7_lay, yX7_judge, yX7_act, yX7_trace, yX7_image, yX7_restore, yX7_status, yX7_refuse, yX7_refuseApart, yX7_hindranceOfRow, yX7_hindranceOfLaying, yX7_hindranceOfLight, yX7_chosen, yX7_lightAt, yX7_brokenRule, yX7_isShelf, yX7_isPoint, yX7_isMonth, yX7_isHour, yX7_isIn, yX7_yardOf, yX7_sideOf, yX7_mayBe, yX7_mayBeBy, yX7_wordOf, yX8_init, yX8_no, yX8_noTen, yX8_isShelf, yX8_isPoint, yX8_isSort, yX8_isPlace, yX8_isSet, yX8_isHour, yX8_row, yX8_set, yX8_copy, yX8_element, yX8_laying, yX8_holds, yX8_isUnder, yX8_says, yX8_bits, yX8_wants, yX8_intAt, yX8_isLamp, yX8_sorts, yX8_sort, yX8_places, yX8_place, yX8_isFull, yX8_stands, yX8_stand, yX8_windows, yX8_window, yX8_shops, yX8_shop, yX8_isAsked, yX8_asks, yX8_ask, yX8_wrong, yX8_word, yX8_isDigit, yX8_number, yX8_next, yX8_isWordFull, yX8_isWordAt, yX8_item, yX8_counts, yX8_street, yX8_fault, yX8_sortOf, yX8_placeOf, yX8_lamp, yX8_out, yX8_lamps, yX8_leaves, yX8_isBetween, yX8_given, yX8_burns, yX8_shopsAt, yX8_shopAt, yX8_of, yX8_lightOf, yX8_lightBy, yX8_light, yX8_face, yX8_isPool, yX8_judged, yX8_lights, yX8_faulty, yX8_dark, yX8_coinOf, yX8_coin, yX8_singles, yX8_faultyBy, yX8_isFirm, yX8_chosen, yX8_told, yX8_cheapest, yX8_fewest, yX8_firm, yX8_bound, yX8_which, yX8_reach, yX8_worst, yX8_shade, yX8_spill, yX8_dim, yX8_bulbs, yX8_moved, yX8_lay, yX8_judge, yX8_body, yX8_burning, yX8_falling, yX8_costing, yX8_act, yX8_trace, yX8_keeps, yX8_all, yX8_image, yX8_restore, yX8_status, yJ6_bitCount_0f7a4, yJ9_abs_0f7a4, yJ9_max_7cf53, yJ9_min_7cf53, yJ0_length_8abf5, yJ0_charAt_5068e, yJ0_coder_7d493, yJ0_isLatin1_aae02, yJ0_checkIndex_df160, yJ1_charAt_3b067, yJ7_fill_d0a16, yJ7_fill_53178, yJ3_checkIndex_8e157, yL_law]
def px_Bs : List ByteArray := [cX0_init, cX0_forget, cX0_take, cX0_bodyAt, cX0_begin, cX0_burns, cX0_falls, cX0_costs, cX1_init, cX1_prepare, cX1_best, cX1_isBetter, cX1_coinsOf, cX1_isWell, cX1_isFirm, cX1_isBrightEnough, cX1_lampsNeeded, cX1_lampsNeededAt, cX1_brightestAside, cX2_init, cX2_measure, cX2_shine, cX2_addShops, cX2_ruleBroken, cX2_pointAgainst, cX2_leastLight, cX2_firstTooDark, cX2_firstBrightPool, cX2_firstUneven, cX2_firstBrightWindow, cX2_darkest, cX3_init, cX3_isRow, cX3_isLaying, cX3_holdNothing, cX3_holdRow, cX3_holdLaying, cX3_has, cX3_hasRun, cX3_elementAt, cX3_intAt, cX3_put, cX3_lowestBits, cX3_isOfKind, cX3_isHalfAt, cX4_init, cX4_become, cX4_hasRoom, cX4_add, cX4_tableOf, cX4_isPool, cX4_isSet, cX4_hasLamp, cX4_isOut, cX4_putLamp, cX4_lampBits, cX4_burningBits, cX4_burning, cX4_bitsOnSide, cX4_bitsInTurn, cX4_bareLight, cX4_given, cX4_countBetween, cX4_ofLamp, cX4_ofLamps, cX4_faceOfLamps, cX4_brightest, cX4_ofShop, cX4_ofShops, cX4_coinOf, cX4_bulbsAsTheyGo, cX4_bulbsTogether, cX5_init, cX5_read, cX5_readItem, cX5_readWord, cX5_sameLetters, cX5_readNumber, cX5_isDigit, cX6_init, cX6_isFull, cX6_has, cX6_number, cX6_change, cX6_add, cX6_become, cX7_init, cX7_row, cX7_set, cX7_copy, cX7_element, cX7_laying, cX7_holds, cX7_says, cX7_sort, cX7_place, cX7_stand, cX7_window, cX7_shop, cX7_ask, cX7_street, cX7_fault, cX7_sortOf, cX7_placeOf, cX7_lamp, cX7_out, cX7_light, cX7_face, cX7_faulty, cX7_dark, cX7_coin, cX7_cheapest, cX7_fewest, cX7_firm, cX7_bound, cX7_which, cX7_reach, cX7_worst, cX7_shade, cX7_spill, cX7_dim, cX7_bulbs, cX7_moved, cX7_lay, cX7_judge, cX7_act, cX7_trace, cX7_image, cX7_restore, cX7_status, cX7_refuse, cX7_refuseApart, cX7_hindranceOfRow, cX7_hindranceOfLaying, cX7_hindranceOfLight, cX7_chosen, cX7_lightAt, cX7_brokenRule, cX7_isShelf, cX7_isPoint, cX7_isMonth, cX7_isHour, cX7_isIn, cX7_yardOf, cX7_sideOf, cX7_mayBe, cX7_mayBeBy, cX7_wordOf, cX8_init, cX8_no, cX8_noTen, cX8_isShelf, cX8_isPoint, cX8_isSort, cX8_isPlace, cX8_isSet, cX8_isHour, cX8_row, cX8_set, cX8_copy, cX8_element, cX8_laying, cX8_holds, cX8_isUnder, cX8_says, cX8_bits, cX8_wants, cX8_intAt, cX8_isLamp, cX8_sorts, cX8_sort, cX8_places, cX8_place, cX8_isFull, cX8_stands, cX8_stand, cX8_windows, cX8_window, cX8_shops, cX8_shop, cX8_isAsked, cX8_asks, cX8_ask, cX8_wrong, cX8_word, cX8_isDigit, cX8_number, cX8_next, cX8_isWordFull, cX8_isWordAt, cX8_item, cX8_counts, cX8_street, cX8_fault, cX8_sortOf, cX8_placeOf, cX8_lamp, cX8_out, cX8_lamps, cX8_leaves, cX8_isBetween, cX8_given, cX8_burns, cX8_shopsAt, cX8_shopAt, cX8_of, cX8_lightOf, cX8_lightBy, cX8_light, cX8_face, cX8_isPool, cX8_judged, cX8_lights, cX8_faulty, cX8_dark, cX8_coinOf, cX8_coin, cX8_singles, cX8_faultyBy, cX8_isFirm, cX8_chosen, cX8_told, cX8_cheapest, cX8_fewest, cX8_firm, cX8_bound, cX8_which, cX8_reach, cX8_worst, cX8_shade, cX8_spill, cX8_dim, cX8_bulbs, cX8_moved, cX8_lay, cX8_judge, cX8_body, cX8_burning, cX8_falling, cX8_costing, cX8_act, cX8_trace, cX8_keeps, cX8_all, cX8_image, cX8_restore, cX8_status, cJ6_bitCount_0f7a4, cJ9_abs_0f7a4, cJ9_max_7cf53, cJ9_min_7cf53, cJ0_length_8abf5, cJ0_charAt_5068e, cJ0_coder_7d493, cJ0_isLatin1_aae02, cJ0_checkIndex_df160, cJ1_charAt_3b067, cJ7_fill_d0a16, cJ7_fill_53178, cJ3_checkIndex_8e157, code]
def px_Rt : List (Option FieldType) := [none, none, none, some .int, none, some .int, some .int, some .int, none, none, some .int, some .boolean, some .int, some .boolean, some .boolean, some .boolean, some .int, some .int, some .int, none, none, none, none, some .int, some .int, some .int, some .int, some .int, some .int, some .int, some .int, none, some .boolean, some .boolean, none, none, none, some .boolean, some .boolean, some .long, some .int, none, some .long, some .boolean, some .boolean, none, none, some .boolean, none, some (.object "LightAlong$Table"), some .boolean, some .boolean, some .boolean, some .boolean, none, some .int, some .int, some .int, some .int, some .int, some .int, some .int, some .int, some .int, some .int, some .int, some .int, some .int, some .int, some .int, some .int, some .int, none, some .int, some .int, some .int, some .int, some .boolean, some .boolean, none, some .boolean, some .boolean, some .int, none, some .int, none, none, some .int, some .int, some .int, some .long, some .int, some .int, some .int, some .int, some .int, some .int, some .int, some .int, some .int, some .int, some .int, some .int, some .int, some .int, some .int, some .int, some .int, some .int, some .int, some .int, some .int, some .int, some .int, some .int, some .int, some .int, some .int, some .int, some .int, some .int, some .int, some .int, some .int, some .int, some .int, some .int, some .int, some .int, some .int, some .int, some .int, some .int, some .int, some .int, some .int, some .int, some .int, some .boolean, some .boolean, some .boolean, some .boolean, some .boolean, some .int, some .int, some .boolean, some .boolean, some (.object "java/lang/String"), none, some .int, some .int, some .boolean, some .boolean, some .boolean, some .boolean, some .boolean, some .boolean, some .int, some .int, some .int, some .long, some .int, some .int, some .boolean, some .int, some .int, some .int, some .int, some .boolean, some .int, some .int, some .int, some .int, some .boolean, some .int, some .int, some .int, some .int, some .int, some .int, some .boolean, some .int, some .int, some .boolean, some .int, some .boolean, some .boolean, some .boolean, some .boolean, some .boolean, some .boolean, none, some .int, some .int, some .int, some .int, some .int, some .int, some .int, some .int, some .boolean, some .int, some .int, some .int, some .int, some .int, some .int, some .int, some .int, some .int, some .boolean, some .int, none, some .int, some .int, some .int, some .int, none, some .int, some .boolean, some .int, some .int, some .int, some .int, some .int, some .int, some .int, some .int, some .int, some .int, some .int, some .int, some .int, some .int, some .int, some .int, none, some .int, some .int, some .int, some .int, some .int, some .int, none, some .int, some .int, some .int, some .int, some .int, some .int, some .int, some .int, some .char, some .byte, some .boolean, none, some .char, none, none, some .int, some .boolean]
/-- most locals, the class's number, 1 + that for a constructor, parameters, 1 for a static one; frames, words, cells, slots that it may take -/
def px_Nu : List (List Nat) := [[1, 0, 1, 0, 0, 1, 20, 1, 20], [1, 0, 0, 0, 0, 0, 0, 0, 0], [4, 0, 0, 3, 0, 0, 0, 0, 0], [2, 0, 0, 1, 0, 0, 0, 0, 0], [2, 0, 0, 1, 0, 0, 0, 0, 0], [3, 0, 0, 1, 0, 1, 21, 0, 0], [4, 0, 0, 1, 0, 2, 43, 0, 0], [5, 0, 0, 1, 0, 3, 66, 0, 0], [1, 1, 2, 0, 0, 2, 40, 9, 1813], [7, 1, 0, 3, 0, 3, 85, 0, 0], [6, 1, 0, 2, 0, 4, 90, 0, 0], [5, 1, 0, 3, 0, 2, 44, 0, 0], [4, 1, 0, 1, 0, 1, 21, 0, 0], [3, 1, 0, 2, 0, 3, 68, 0, 0], [3, 1, 0, 1, 0, 2, 45, 0, 0], [5, 1, 0, 1, 0, 1, 21, 0, 0], [4, 1, 0, 0, 0, 3, 70, 0, 0], [6, 1, 0, 1, 0, 2, 45, 0, 0], [5, 1, 0, 2, 0, 1, 21, 0, 0], [1, 2, 3, 0, 0, 1, 20, 3, 360], [3, 2, 0, 1, 0, 2, 45, 0, 0], [6, 2, 0, 4, 0, 5, 136, 0, 0], [4, 2, 0, 2, 0, 3, 75, 0, 0], [2, 2, 0, 1, 0, 2, 47, 0, 0], [3, 2, 0, 2, 0, 2, 47, 0, 0], [2, 2, 0, 0, 0, 1, 23, 0, 0], [3, 2, 0, 1, 0, 0, 0, 0, 0], [2, 2, 0, 0, 0, 0, 0, 0, 0], [5, 2, 0, 1, 0, 1, 23, 0, 0], [5, 2, 0, 1, 0, 1, 23, 0, 0], [4, 2, 0, 0, 0, 0, 0, 0, 0], [1, 3, 4, 0, 0, 1, 20, 1, 120], [1, 3, 0, 0, 0, 0, 0, 0, 0], [1, 3, 0, 0, 0, 0, 0, 0, 0], [1, 3, 0, 0, 0, 0, 0, 0, 0], [3, 3, 0, 2, 0, 1, 26, 0, 0], [5, 3, 0, 3, 0, 0, 0, 0, 0], [2, 3, 0, 1, 0, 0, 0, 0, 0], [3, 3, 0, 2, 0, 0, 0, 0, 0], [2, 3, 0, 1, 0, 0, 0, 0, 0], [2, 3, 0, 1, 0, 1, 21, 0, 0], [4, 3, 0, 2, 0, 1, 22, 0, 0], [3, 3, 0, 1, 0, 0, 0, 0, 0], [2, 3, 0, 1, 0, 1, 20, 0, 0], [2, 3, 0, 1, 0, 0, 0, 0, 0], [1, 4, 5, 0, 0, 2, 41, 15, 361], [2, 4, 0, 1, 0, 2, 48, 0, 0], [2, 4, 0, 1, 0, 1, 21, 0, 0], [3, 4, 0, 2, 0, 3, 69, 0, 0], [2, 4, 0, 1, 0, 0, 0, 0, 0], [3, 4, 0, 1, 0, 1, 23, 0, 0], [2, 4, 0, 1, 0, 0, 0, 0, 0], [2, 4, 0, 1, 0, 1, 23, 0, 0], [2, 4, 0, 1, 0, 1, 23, 0, 0], [3, 4, 0, 2, 0, 2, 44, 0, 0], [3, 4, 0, 0, 0, 2, 44, 0, 0], [3, 4, 0, 0, 0, 2, 44, 0, 0], [3, 4, 0, 1, 0, 3, 66, 0, 0], [4, 4, 0, 1, 0, 1, 23, 0, 0], [8, 4, 0, 2, 0, 1, 23, 0, 0], [5, 4, 0, 2, 0, 1, 23, 0, 0], [11, 4, 0, 4, 0, 2, 55, 0, 0], [10, 4, 0, 3, 0, 1, 26, 0, 0], [6, 4, 0, 4, 0, 3, 85, 0, 0], [7, 4, 0, 4, 0, 4, 110, 0, 0], [8, 4, 0, 4, 0, 4, 110, 0, 0], [9, 4, 0, 4, 0, 4, 110, 0, 0], [6, 4, 0, 3, 0, 1, 26, 0, 0], [5, 4, 0, 2, 0, 2, 51, 0, 0], [5, 4, 0, 2, 0, 1, 23, 0, 0], [7, 4, 0, 1, 0, 2, 44, 0, 0], [6, 4, 0, 1, 0, 2, 44, 0, 0], [1, 5, 6, 0, 0, 1, 20, 1, 4], [5, 5, 0, 2, 0, 7, 158, 0, 0], [6, 5, 0, 2, 0, 6, 133, 0, 0], [6, 5, 0, 1, 0, 5, 108, 0, 0], [4, 5, 0, 3, 1, 4, 85, 0, 0], [6, 5, 0, 3, 0, 2, 42, 0, 0], [1, 5, 0, 1, 1, 0, 0, 0, 0], [2, 6, 7, 1, 0, 1, 20, 1, 48], [1, 6, 0, 0, 0, 0, 0, 0, 0], [2, 6, 0, 1, 0, 0, 0, 0, 0], [4, 6, 0, 2, 0, 0, 0, 0, 0], [4, 6, 0, 3, 0, 1, 21, 0, 0], [6, 6, 0, 4, 0, 2, 44, 0, 0], [3, 6, 0, 1, 0, 1, 26, 0, 0], [2, 7, 8, 0, 0, 3, 61, 84, 4340], [4, 7, 0, 3, 0, 2, 48, 0, 0], [6, 7, 0, 3, 0, 2, 45, 0, 0], [8, 7, 0, 5, 0, 1, 26, 0, 0], [3, 7, 0, 2, 0, 1, 21, 0, 0], [4, 7, 0, 3, 0, 3, 66, 0, 0], [2, 7, 0, 1, 0, 1, 20, 0, 0], [5, 7, 0, 2, 0, 4, 88, 0, 0], [5, 7, 0, 4, 0, 3, 69, 0, 0], [3, 7, 0, 2, 0, 3, 69, 0, 0], [4, 7, 0, 2, 0, 3, 69, 0, 0], [3, 7, 0, 2, 0, 3, 69, 0, 0], [4, 7, 0, 3, 0, 3, 69, 0, 0], [4, 7, 0, 2, 0, 1, 23, 0, 0], [3, 7, 0, 1, 0, 8, 182, 0, 0], [1, 7, 0, 0, 0, 0, 0, 0, 0], [3, 7, 0, 2, 0, 1, 23, 0, 0], [3, 7, 0, 2, 0, 1, 23, 0, 0], [5, 7, 0, 2, 0, 3, 66, 0, 0], [4, 7, 0, 2, 0, 2, 44, 0, 0], [6, 7, 0, 4, 0, 6, 161, 0, 0], [7, 7, 0, 4, 0, 5, 137, 0, 0], [5, 7, 0, 3, 0, 7, 184, 0, 0], [6, 7, 0, 3, 0, 7, 184, 0, 0], [3, 7, 0, 2, 0, 2, 47, 0, 0], [3, 7, 0, 2, 0, 6, 139, 0, 0], [3, 7, 0, 2, 0, 6, 139, 0, 0], [3, 7, 0, 2, 0, 6, 139, 0, 0], [3, 7, 0, 2, 0, 4, 111, 0, 0], [7, 7, 0, 1, 0, 5, 115, 0, 0], [4, 7, 0, 1, 0, 2, 47, 0, 0], [5, 7, 0, 0, 0, 6, 161, 0, 0], [6, 7, 0, 3, 0, 5, 138, 0, 0], [9, 7, 0, 2, 0, 5, 136, 0, 0], [4, 7, 0, 1, 0, 6, 161, 0, 0], [3, 7, 0, 2, 0, 3, 70, 0, 0], [6, 7, 0, 2, 0, 1, 23, 0, 0], [4, 7, 0, 2, 0, 3, 66, 0, 0], [7, 7, 0, 3, 0, 6, 161, 0, 0], [4, 7, 0, 3, 0, 4, 90, 0, 0], [2, 7, 0, 1, 0, 1, 21, 0, 0], [1, 7, 0, 0, 0, 3, 69, 0, 0], [1, 7, 0, 0, 0, 3, 69, 0, 0], [2, 7, 0, 1, 0, 3, 66, 0, 0], [2, 7, 0, 1, 0, 0, 0, 0, 0], [2, 7, 0, 1, 0, 1, 21, 0, 0], [2, 7, 0, 1, 0, 1, 20, 0, 0], [2, 7, 0, 1, 0, 1, 20, 0, 0], [5, 7, 0, 3, 0, 2, 41, 0, 0], [5, 7, 0, 3, 0, 5, 115, 0, 0], [6, 7, 0, 4, 0, 5, 136, 0, 0], [4, 7, 0, 3, 0, 6, 161, 0, 0], [1, 7, 0, 1, 1, 0, 0, 0, 0], [1, 7, 0, 1, 1, 0, 0, 0, 0], [1, 7, 0, 1, 1, 0, 0, 0, 0], [1, 7, 0, 1, 1, 0, 0, 0, 0], [2, 7, 0, 2, 1, 0, 0, 0, 0], [1, 7, 0, 1, 1, 0, 0, 0, 0], [1, 7, 0, 1, 1, 0, 0, 0, 0], [4, 7, 0, 3, 1, 0, 0, 0, 0], [2, 7, 0, 2, 1, 1, 20, 0, 0], [1, 7, 0, 1, 1, 0, 0, 0, 0], [1, 8, 9, 0, 0, 1, 20, 32, 2878], [2, 8, 0, 1, 0, 0, 0, 0, 0], [2, 8, 0, 1, 0, 0, 0, 0, 0], [2, 8, 0, 1, 0, 0, 0, 0, 0], [2, 8, 0, 1, 0, 0, 0, 0, 0], [2, 8, 0, 1, 0, 0, 0, 0, 0], [2, 8, 0, 1, 0, 0, 0, 0, 0], [2, 8, 0, 1, 0, 0, 0, 0, 0], [2, 8, 0, 1, 0, 0, 0, 0, 0], [5, 8, 0, 3, 0, 1, 21, 0, 0], [5, 8, 0, 3, 0, 1, 21, 0, 0], [7, 8, 0, 5, 0, 1, 21, 0, 0], [3, 8, 0, 2, 0, 1, 21, 0, 0], [5, 8, 0, 3, 0, 1, 22, 0, 0], [2, 8, 0, 1, 0, 1, 21, 0, 0], [3, 8, 0, 2, 0, 0, 0, 0, 0], [4, 8, 0, 2, 0, 1, 29, 0, 0], [4, 8, 0, 1, 0, 0, 0, 0, 0], [3, 8, 0, 2, 0, 1, 21, 0, 0], [3, 8, 0, 2, 0, 0, 0, 0, 0], [5, 8, 0, 4, 0, 0, 0, 0, 0], [5, 8, 0, 4, 0, 0, 0, 0, 0], [5, 8, 0, 4, 0, 1, 24, 0, 0], [3, 8, 0, 2, 0, 0, 0, 0, 0], [3, 8, 0, 2, 0, 1, 22, 0, 0], [2, 8, 0, 1, 0, 0, 0, 0, 0], [3, 8, 0, 2, 0, 0, 0, 0, 0], [3, 8, 0, 2, 0, 1, 22, 0, 0], [3, 8, 0, 2, 0, 0, 0, 0, 0], [3, 8, 0, 2, 0, 1, 22, 0, 0], [4, 8, 0, 3, 0, 0, 0, 0, 0], [4, 8, 0, 3, 0, 1, 23, 0, 0], [3, 8, 0, 2, 0, 0, 0, 0, 0], [4, 8, 0, 2, 0, 0, 0, 0, 0], [3, 8, 0, 2, 0, 1, 23, 0, 0], [2, 8, 0, 1, 0, 0, 0, 0, 0], [6, 8, 0, 0, 0, 0, 0, 0, 0], [1, 8, 0, 0, 0, 0, 0, 0, 0], [5, 8, 0, 2, 0, 1, 21, 0, 0], [3, 8, 0, 2, 0, 2, 45, 0, 0], [2, 8, 0, 1, 0, 1, 21, 0, 0], [4, 8, 0, 1, 0, 0, 0, 0, 0], [7, 8, 0, 0, 0, 3, 67, 0, 0], [3, 8, 0, 2, 0, 0, 0, 0, 0], [5, 8, 0, 1, 0, 4, 93, 0, 0], [1, 8, 0, 0, 0, 0, 0, 0, 0], [3, 8, 0, 2, 0, 1, 21, 0, 0], [3, 8, 0, 2, 0, 1, 21, 0, 0], [4, 8, 0, 2, 0, 1, 21, 0, 0], [4, 8, 0, 2, 0, 1, 21, 0, 0], [3, 8, 0, 0, 0, 0, 0, 0, 0], [2, 8, 0, 1, 0, 0, 0, 0, 0], [7, 8, 0, 3, 0, 0, 0, 0, 0], [9, 8, 0, 4, 0, 1, 26, 0, 0], [10, 8, 0, 3, 0, 0, 0, 0, 0], [5, 8, 0, 2, 0, 1, 23, 0, 0], [4, 8, 0, 2, 0, 0, 0, 0, 0], [6, 8, 0, 4, 0, 2, 54, 0, 0], [10, 8, 0, 6, 0, 3, 79, 0, 0], [5, 8, 0, 4, 0, 4, 108, 0, 0], [6, 8, 0, 4, 0, 5, 132, 0, 0], [9, 8, 0, 4, 0, 3, 79, 0, 0], [3, 8, 0, 1, 0, 0, 0, 0, 0], [5, 8, 0, 0, 0, 1, 22, 0, 0], [7, 8, 0, 5, 0, 4, 108, 0, 0], [5, 8, 0, 3, 0, 5, 134, 0, 0], [5, 8, 0, 3, 0, 5, 134, 0, 0], [5, 8, 0, 2, 0, 0, 0, 0, 0], [3, 8, 0, 2, 0, 1, 24, 0, 0], [5, 8, 0, 2, 0, 2, 54, 0, 0], [4, 8, 0, 1, 0, 2, 46, 0, 0], [4, 8, 0, 1, 0, 3, 69, 0, 0], [11, 8, 0, 3, 0, 4, 92, 0, 0], [5, 8, 0, 3, 0, 5, 122, 0, 0], [3, 8, 0, 2, 0, 6, 146, 0, 0], [3, 8, 0, 2, 0, 6, 146, 0, 0], [3, 8, 0, 2, 0, 6, 146, 0, 0], [10, 8, 0, 2, 0, 3, 78, 0, 0], [7, 8, 0, 1, 0, 5, 122, 0, 0], [4, 8, 0, 1, 0, 1, 21, 0, 0], [6, 8, 0, 0, 0, 5, 134, 0, 0], [10, 8, 0, 3, 0, 3, 79, 0, 0], [6, 8, 0, 2, 0, 4, 108, 0, 0], [4, 8, 0, 1, 0, 5, 134, 0, 0], [8, 8, 0, 2, 0, 1, 21, 0, 0], [5, 8, 0, 2, 0, 1, 21, 0, 0], [4, 8, 0, 2, 0, 1, 24, 0, 0], [6, 8, 0, 3, 0, 5, 132, 0, 0], [2, 8, 0, 1, 0, 0, 0, 0, 0], [5, 8, 0, 2, 0, 1, 21, 0, 0], [7, 8, 0, 2, 0, 2, 45, 0, 0], [6, 8, 0, 2, 0, 3, 71, 0, 0], [4, 8, 0, 3, 0, 4, 96, 0, 0], [2, 8, 0, 1, 0, 0, 0, 0, 0], [6, 8, 0, 4, 0, 0, 0, 0, 0], [3, 8, 0, 1, 0, 1, 25, 0, 0], [1, 8, 0, 0, 0, 2, 47, 0, 0], [1, 8, 0, 0, 0, 2, 47, 0, 0], [4, 8, 0, 1, 0, 1, 23, 0, 0], [1, 13, 0, 1, 1, 0, 0, 0, 0], [1, 10, 0, 1, 1, 0, 0, 0, 0], [2, 10, 0, 2, 1, 0, 0, 0, 0], [2, 10, 0, 2, 1, 0, 0, 0, 0], [1, 14, 0, 0, 0, 1, 20, 0, 0], [2, 14, 0, 1, 0, 3, 64, 0, 0], [1, 14, 0, 0, 0, 0, 0, 0, 0], [1, 14, 0, 0, 0, 0, 0, 0, 0], [2, 14, 0, 2, 1, 1, 22, 0, 0], [2, 15, 0, 2, 1, 2, 43, 0, 0], [5, 11, 0, 2, 1, 0, 0, 0, 0], [4, 11, 0, 2, 1, 0, 0, 0, 0], [3, 16, 0, 3, 1, 0, 0, 0, 0], [4, 9, 0, 1, 1, 9, 209, 1000, 20000]]
def px_Cl : List String := [RX0, RX1, RX2, RX3, RX4, RX5, RX6, RX7, RX8, R_law, "java/lang/Math", "java/util/Arrays", "java/lang/System", "java/lang/Integer", "java/lang/String", "java/lang/StringLatin1", "jdk/internal/util/Preconditions"]
/-! THE LINKS, by program: class, pool number, what it is; where its words stand in lw_tbl. -/
def px_LM0 : List (Nat × Nat × Nat × Nat × List Nat) := [(0, 3, 9000, 0, [255, 109]), (0, 28, 4, 0, [984, 986, 29, 92]), (0, 32, 5, 0, [992, 981, 982, 92]), (0, 36, 6, 0, [997, 989, 990, 92]), (1, 3, 9000, 0, [222, 109]), (1, 29, 19, 1, [224, 197, 90]), (1, 41, 20, 0, [849, 778, 779, 90]), (1, 56, 9004, 0, [850, 353, 95, 354]), (1, 72, 68, 0, [852, 747, 748, 87]), (1, 74, 61, 0, [853, 730, 731, 87]), (1, 78, 69, 0, [854, 834, 835, 87]), (1, 81, 11, 0, [859, 861, 22, 91]), (1, 85, 13, 0, [869, 871, 24, 91]), (1, 89, 14, 0, [878, 880, 26, 91]), (1, 93, 247, 0, [863, 486, 98]), (1, 97, 12, 0, [864, 866, 23, 91]), (1, 100, 142, 1, [868, 480, 86]), (1, 104, 15, 0, [873, 875, 25, 91]), (1, 107, 23, 0, [877, 793, 794, 90]), (1, 114, 17, 0, [898, 900, 27, 91]), (1, 117, 9003, 0, [906, 356, 95, 357]), (1, 120, 18, 0, [902, 904, 28, 91]), (2, 3, 9000, 0, [199, 109]), (2, 31, 9004, 0, [781, 353, 95, 354])]
def px_LM1 : List (Nat × Nat × Nat × Nat × List Nat) := [(2, 37, 50, 0, [782, 783, 784, 87]), (2, 40, 20, 0, [777, 778, 779, 90]), (2, 44, 64, 0, [786, 722, 723, 87]), (2, 47, 68, 0, [791, 747, 748, 87]), (2, 50, 26, 0, [796, 798, 16, 90]), (2, 54, 27, 0, [800, 802, 17, 90]), (2, 58, 28, 0, [804, 806, 18, 90]), (2, 61, 29, 0, [812, 814, 20, 90]), (2, 64, 30, 0, [808, 810, 19, 90]), (2, 76, 82, 0, [816, 432, 433, 88]), (3, 3, 9000, 0, [277, 109]), (3, 28, 9004, 0, [352, 353, 95, 354]), (3, 34, 9003, 0, [355, 356, 95, 357]), (3, 37, 257, 0, [358, 359, 96]), (3, 43, 39, 0, [600, 406, 407, 93]), (3, 47, 37, 0, [385, 378, 379, 93]), (3, 51, 42, 0, [386, 388, 2, 93]), (3, 55, 33, 0, [455, 370, 371, 93]), (4, 3, 9000, 0, [116, 109]), (4, 17, 79, 0, [119, 120, 88]), (4, 42, 9001, 0, [550, 400, 399, 97]), (4, 48, 85, 0, [551, 552, 553, 88]), (4, 52, 49, 0, [646, 648, 8, 87]), (4, 56, 80, 0, [650, 503, 504, 88])]
def px_LM2 : List (Nat × Nat × Nat × Nat × List Nat) := [(4, 60, 84, 0, [666, 507, 508, 88]), (4, 68, 82, 0, [431, 432, 433, 88]), (4, 72, 83, 0, [694, 512, 513, 88]), (4, 76, 52, 0, [427, 428, 429, 87]), (4, 80, 53, 0, [464, 465, 466, 87]), (4, 83, 56, 0, [460, 461, 462, 87]), (4, 95, 58, 0, [468, 470, 4, 87]), (4, 99, 59, 0, [475, 477, 5, 87]), (4, 105, 144, 1, [472, 473, 86]), (4, 108, 142, 1, [479, 480, 86]), (4, 112, 143, 1, [482, 483, 86]), (4, 115, 140, 1, [733, 707, 86]), (4, 118, 62, 0, [734, 736, 14, 87]), (4, 122, 60, 0, [740, 741, 742, 87]), (4, 128, 9004, 0, [738, 353, 95, 354]), (4, 133, 9003, 0, [739, 356, 95, 357]), (4, 136, 61, 0, [729, 730, 731, 87]), (4, 139, 63, 0, [725, 727, 13, 87]), (4, 143, 9002, 0, [754, 755, 95, 756]), (4, 146, 67, 0, [750, 751, 752, 87]), (5, 3, 9000, 0, [182, 109]), (5, 27, 74, 0, [561, 563, 6, 89]), (5, 31, 40, 0, [596, 597, 598, 93]), (5, 35, 75, 0, [565, 567, 7, 89])]
def px_LM3 : List (Nat × Nat × Nat × Nat × List Nat) := [(5, 42, 47, 0, [642, 643, 644, 87]), (5, 48, 258, 0, [651, 652, 96]), (5, 54, 77, 0, [654, 656, 9, 89]), (5, 58, 48, 0, [662, 663, 664, 87]), (5, 62, 147, 1, [569, 570, 86]), (5, 66, 76, 0, [583, 584, 89]), (5, 70, 9003, 0, [639, 356, 95, 357]), (5, 76, 251, 0, [586, 587, 588, 99]), (5, 82, 252, 0, [601, 602, 603, 99]), (5, 86, 78, 0, [658, 659, 89]), (5, 89, 145, 1, [661, 496, 86]), (6, 3, 9000, 0, [122, 109]), (6, 22, 81, 0, [515, 516, 517, 88]), (6, 26, 80, 0, [510, 503, 504, 88]), (6, 30, 83, 0, [511, 512, 513, 88]), (6, 34, 9004, 0, [555, 353, 95, 354]), (6, 40, 9001, 0, [556, 400, 399, 97]), (7, 1, 9000, 0, [108, 109]), (7, 9, 45, 1, [113, 114, 87]), (7, 34, 72, 1, [179, 180, 89]), (7, 41, 19, 1, [196, 197, 90]), (7, 48, 8, 1, [219, 220, 91]), (7, 55, 0, 1, [252, 253, 92]), (7, 68, 31, 1, [274, 275, 93])]
def px_LM4 : List (Nat × Nat × Nat × Nat × List Nat) := [(7, 69, 138, 0, [341, 342, 86]), (7, 73, 130, 0, [344, 346, 0, 86]), (7, 77, 35, 0, [348, 349, 350, 93]), (7, 81, 132, 0, [365, 367, 1, 86]), (7, 84, 37, 0, [377, 378, 379, 93]), (7, 87, 41, 0, [381, 382, 383, 93]), (7, 91, 33, 0, [369, 370, 371, 93]), (7, 95, 32, 0, [373, 374, 375, 93]), (7, 101, 38, 0, [394, 395, 396, 93]), (7, 109, 9001, 0, [398, 400, 399, 97]), (7, 115, 39, 0, [405, 406, 407, 93]), (7, 119, 34, 0, [413, 414, 415, 93]), (7, 122, 146, 0, [417, 418, 86]), (7, 125, 55, 0, [423, 424, 425, 87]), (7, 129, 36, 0, [435, 436, 437, 93]), (7, 133, 133, 0, [447, 449, 3, 86]), (7, 136, 43, 0, [451, 452, 453, 93]), (7, 139, 57, 0, [456, 457, 458, 87]), (7, 143, 247, 0, [485, 486, 98]), (7, 154, 145, 0, [495, 496, 86]), (7, 162, 80, 0, [502, 503, 504, 88]), (7, 167, 84, 0, [506, 507, 508, 88]), (7, 171, 139, 0, [523, 524, 86]), (7, 195, 46, 0, [546, 547, 548, 87])]
def px_LM5 : List (Nat × Nat × Nat × Nat × List Nat) := [(7, 199, 73, 0, [557, 558, 559, 89]), (7, 206, 81, 0, [676, 516, 517, 88]), (7, 207, 82, 0, [677, 432, 433, 88]), (7, 211, 131, 0, [686, 688, 10, 86]), (7, 214, 54, 0, [690, 691, 692, 87]), (7, 217, 52, 0, [699, 428, 429, 87]), (7, 220, 53, 0, [700, 465, 466, 87]), (7, 223, 83, 0, [701, 512, 513, 88]), (7, 226, 140, 0, [706, 707, 86]), (7, 229, 141, 0, [420, 421, 86]), (7, 232, 134, 0, [709, 711, 11, 86]), (7, 236, 136, 0, [713, 715, 12, 86]), (7, 240, 44, 0, [717, 718, 719, 93]), (7, 243, 65, 0, [761, 762, 763, 87]), (7, 247, 137, 0, [769, 771, 15, 86]), (7, 251, 24, 0, [821, 822, 823, 90]), (7, 255, 51, 0, [829, 830, 831, 87]), (7, 258, 69, 0, [833, 834, 835, 87]), (7, 261, 135, 0, [841, 843, 21, 86]), (7, 265, 9, 0, [845, 846, 847, 91]), (7, 269, 16, 0, [894, 895, 896, 91]), (7, 275, 10, 0, [855, 856, 857, 91]), (7, 278, 60, 0, [915, 741, 742, 87]), (7, 281, 56, 0, [920, 461, 462, 87])]
def px_LM6 : List (Nat × Nat × Nat × Nat × List Nat) := [(7, 284, 21, 0, [773, 774, 775, 90]), (7, 288, 22, 0, [787, 788, 789, 90]), (7, 292, 25, 0, [921, 922, 923, 90]), (7, 295, 66, 0, [929, 930, 931, 87]), (7, 298, 67, 0, [937, 751, 752, 87]), (7, 301, 64, 0, [721, 722, 723, 87]), (7, 304, 68, 0, [746, 747, 748, 87]), (7, 307, 23, 0, [792, 793, 794, 90]), (7, 311, 71, 0, [946, 947, 948, 87]), (7, 314, 70, 0, [950, 951, 952, 87]), (7, 317, 142, 0, [958, 480, 86]), (7, 320, 40, 0, [967, 597, 598, 93]), (7, 323, 1, 0, [972, 973, 974, 92]), (7, 326, 2, 0, [976, 977, 978, 92]), (7, 329, 5, 0, [980, 981, 982, 92]), (7, 332, 6, 0, [988, 989, 990, 92]), (7, 335, 7, 0, [993, 994, 995, 92]), (7, 338, 3, 0, [1002, 1003, 1004, 92]), (8, 1, 9000, 0, [1023, 109]), (8, 129, 151, 0, [1185, 1187, 30, 94]), (8, 133, 149, 0, [1189, 1191, 31, 94]), (8, 137, 156, 0, [1209, 1211, 32, 94]), (8, 140, 198, 0, [1213, 1215, 33, 94]), (8, 144, 163, 0, [1225, 1227, 34, 94])]
def px_LM7 : List (Nat × Nat × Nat × Nat × List Nat) := [(8, 148, 202, 0, [1229, 1231, 35, 94]), (8, 152, 165, 0, [1233, 1235, 36, 94]), (8, 155, 168, 0, [1241, 1243, 37, 94]), (8, 159, 169, 0, [1245, 1247, 38, 94]), (8, 162, 152, 0, [1253, 1255, 39, 94]), (8, 165, 171, 0, [1257, 1259, 40, 94]), (8, 177, 173, 0, [1265, 1267, 41, 94]), (8, 180, 174, 0, [1269, 1271, 42, 94]), (8, 186, 176, 0, [1277, 1279, 43, 94]), (8, 191, 178, 0, [1285, 1287, 44, 94]), (8, 193, 180, 0, [1293, 1295, 45, 94]), (8, 196, 181, 0, [1297, 1299, 46, 94]), (8, 214, 185, 0, [1337, 1339, 55, 94]), (8, 218, 183, 0, [1325, 1327, 52, 94]), (8, 221, 186, 0, [1333, 1335, 54, 94]), (8, 224, 189, 0, [1317, 1319, 50, 94]), (8, 227, 188, 0, [1321, 1323, 51, 94]), (8, 230, 184, 0, [1329, 1331, 53, 94]), (8, 233, 187, 0, [1341, 1343, 56, 94]), (8, 236, 166, 0, [1305, 1307, 47, 94]), (8, 239, 191, 0, [1309, 1311, 48, 94]), (8, 243, 190, 0, [1313, 1315, 49, 94]), (8, 246, 153, 0, [1353, 1355, 57, 94]), (8, 249, 154, 0, [1361, 1363, 58, 94])]
def px_LM8 : List (Nat × Nat × Nat × Nat × List Nat) := [(8, 252, 150, 0, [1369, 1371, 59, 94]), (8, 255, 200, 0, [1405, 1407, 66, 94]), (8, 259, 199, 0, [1409, 1411, 67, 94]), (8, 262, 204, 0, [1393, 1395, 63, 94]), (8, 265, 201, 0, [1401, 1403, 65, 94]), (8, 268, 203, 0, [1389, 1391, 62, 94]), (8, 271, 205, 0, [1397, 1399, 64, 94]), (8, 275, 206, 0, [1385, 1387, 61, 94]), (8, 279, 207, 0, [1381, 1383, 60, 94]), (8, 285, 210, 0, [1429, 1431, 70, 94]), (8, 288, 212, 0, [1421, 1423, 68, 94]), (8, 292, 211, 0, [1425, 1427, 69, 94]), (8, 295, 155, 0, [1441, 1443, 71, 94]), (8, 298, 215, 0, [1445, 1447, 72, 94]), (8, 301, 218, 0, [1465, 1467, 76, 94]), (8, 304, 217, 0, [1461, 1463, 75, 94]), (8, 308, 219, 0, [1469, 1471, 77, 94]), (8, 311, 220, 0, [1457, 1459, 74, 94]), (8, 314, 221, 0, [1453, 1455, 73, 94]), (8, 316, 167, 0, [1525, 1527, 78, 94]), (8, 322, 236, 0, [1537, 1539, 80, 94]), (8, 326, 237, 0, [1533, 1535, 79, 94]), (8, 329, 238, 0, [1541, 1543, 81, 94]), (8, 332, 239, 0, [1545, 1547, 82, 94])]
def px_LM9 : List (Nat × Nat × Nat × Nat × List Nat) := [(8, 335, 242, 0, [1561, 1563, 84, 94]), (8, 343, 243, 0, [1557, 1559, 83, 94]), (14, 335, 253, 0, [590, 591, 592, 99]), (14, 492, 254, 0, [605, 606, 607, 99]), (14, 495, 256, 0, [609, 610, 100]), (14, 1059, 259, 0, [617, 618, 101]), (15, 9, 255, 0, [612, 613, 99]), (9, 9, 86, 0, [105, 106, 86]), (9, 12, 148, 0, [1020, 1021, 94]), (9, 13, 87, 0, [337, 338, 339, 86]), (9, 17, 157, 0, [1181, 1182, 1183, 94]), (9, 20, 88, 0, [361, 362, 363, 86]), (9, 24, 158, 0, [1193, 1194, 1195, 94]), (9, 25, 89, 0, [390, 391, 392, 86]), (9, 29, 159, 0, [1197, 1198, 1199, 94]), (9, 30, 90, 0, [401, 402, 403, 86]), (9, 34, 160, 0, [1201, 1202, 1203, 94]), (9, 35, 91, 0, [409, 410, 411, 86]), (9, 38, 161, 0, [1205, 1206, 1207, 94]), (9, 39, 92, 0, [439, 440, 441, 86]), (9, 43, 162, 0, [1217, 1218, 1219, 94]), (9, 44, 93, 0, [443, 444, 445, 86]), (9, 48, 164, 0, [1221, 1222, 1223, 94]), (9, 49, 94, 0, [491, 492, 493, 86])]
def px_LM10 : List (Nat × Nat × Nat × Nat × List Nat) := [(9, 53, 170, 0, [1237, 1238, 1239, 94]), (9, 54, 95, 0, [519, 520, 521, 86]), (9, 57, 172, 0, [1249, 1250, 1251, 94]), (9, 58, 96, 0, [526, 527, 528, 86]), (9, 61, 175, 0, [1261, 1262, 1263, 94]), (9, 62, 97, 0, [530, 531, 532, 86]), (9, 65, 177, 0, [1273, 1274, 1275, 94]), (9, 66, 98, 0, [534, 535, 536, 86]), (9, 69, 179, 0, [1281, 1282, 1283, 94]), (9, 70, 99, 0, [538, 539, 540, 86]), (9, 73, 182, 0, [1289, 1290, 1291, 94]), (9, 74, 100, 0, [542, 543, 544, 86]), (9, 77, 192, 0, [1301, 1302, 1303, 94]), (9, 78, 101, 0, [668, 669, 670, 86]), (9, 82, 193, 0, [1345, 1346, 1347, 94]), (9, 83, 102, 0, [672, 673, 674, 86]), (9, 86, 194, 0, [1349, 1350, 1351, 94]), (9, 87, 103, 0, [678, 679, 680, 86]), (9, 90, 195, 0, [1357, 1358, 1359, 94]), (9, 91, 104, 0, [682, 683, 684, 86]), (9, 94, 196, 0, [1365, 1366, 1367, 94]), (9, 95, 105, 0, [695, 696, 697, 86]), (9, 99, 197, 0, [1373, 1374, 1375, 94]), (9, 100, 106, 0, [702, 703, 704, 86])]
def px_LM11 : List (Nat × Nat × Nat × Nat × List Nat) := [(9, 103, 208, 0, [1377, 1378, 1379, 94]), (9, 104, 107, 0, [757, 758, 759, 86]), (9, 107, 209, 0, [1413, 1414, 1415, 94]), (9, 108, 108, 0, [765, 766, 767, 86]), (9, 111, 213, 0, [1417, 1418, 1419, 94]), (9, 112, 109, 0, [817, 818, 819, 86]), (9, 115, 214, 0, [1433, 1434, 1435, 94]), (9, 116, 110, 0, [825, 826, 827, 86]), (9, 119, 216, 0, [1437, 1438, 1439, 94]), (9, 120, 111, 0, [837, 838, 839, 86]), (9, 123, 222, 0, [1449, 1450, 1451, 94]), (9, 124, 112, 0, [882, 883, 884, 86]), (9, 127, 223, 0, [1473, 1474, 1475, 94]), (9, 128, 113, 0, [886, 887, 888, 86]), (9, 131, 224, 0, [1477, 1478, 1479, 94]), (9, 132, 114, 0, [890, 891, 892, 86]), (9, 135, 225, 0, [1481, 1482, 1483, 94]), (9, 136, 115, 0, [907, 908, 909, 86]), (9, 139, 226, 0, [1485, 1486, 1487, 94]), (9, 140, 116, 0, [911, 912, 913, 86]), (9, 143, 227, 0, [1489, 1490, 1491, 94]), (9, 144, 117, 0, [916, 917, 918, 86]), (9, 147, 228, 0, [1493, 1494, 1495, 94]), (9, 148, 118, 0, [925, 926, 927, 86])]
def px_LM12 : List (Nat × Nat × Nat × Nat × List Nat) := [(9, 151, 229, 0, [1497, 1498, 1499, 94]), (9, 152, 119, 0, [933, 934, 935, 86]), (9, 155, 230, 0, [1501, 1502, 1503, 94]), (9, 156, 120, 0, [938, 939, 940, 86]), (9, 159, 231, 0, [1505, 1506, 1507, 94]), (9, 160, 121, 0, [942, 943, 944, 86]), (9, 163, 232, 0, [1509, 1510, 1511, 94]), (9, 164, 122, 0, [954, 955, 956, 86]), (9, 167, 233, 0, [1513, 1514, 1515, 94]), (9, 168, 123, 0, [959, 960, 961, 86]), (9, 171, 234, 0, [1517, 1518, 1519, 94]), (9, 172, 124, 0, [963, 964, 965, 86]), (9, 175, 235, 0, [1521, 1522, 1523, 94]), (9, 176, 125, 0, [968, 969, 970, 86]), (9, 179, 240, 0, [1529, 1530, 1531, 94]), (9, 180, 126, 0, [998, 999, 1000, 86]), (9, 183, 241, 0, [1549, 1550, 1551, 94]), (9, 184, 127, 0, [1006, 1007, 1008, 86]), (9, 187, 244, 0, [1553, 1554, 1555, 94]), (9, 188, 128, 0, [1010, 1011, 1012, 86]), (9, 191, 245, 0, [1565, 1566, 1567, 94]), (9, 192, 129, 0, [1014, 1015, 1016, 86]), (9, 195, 246, 0, [1569, 1570, 1571, 94])]
def px_LM : List (Nat × Nat × Nat × Nat × List Nat) := px_LM0 ++ (px_LM1 ++ (px_LM2 ++ (px_LM3 ++ (px_LM4 ++ (px_LM5 ++ (px_LM6 ++ (px_LM7 ++ (px_LM8 ++ (px_LM9 ++ (px_LM10 ++ (px_LM11 ++ (px_LM12))))))))))))
def px_LF : List (Nat × Nat × Nat × Nat × Nat × Nat) := [(0, 9, 0, 0, 0, 256), (0, 15, 0, 1, 0, 257), (0, 19, 0, 2, 0, 259), (0, 22, 0, 3, 0, 260), (0, 25, 0, 4, 0, 261), (1, 9, 1, 0, 0, 225), (1, 15, 1, 1, 0, 226), (1, 18, 1, 2, 0, 227), (1, 21, 1, 3, 0, 228), (1, 24, 1, 4, 0, 229), (1, 30, 1, 5, 0, 230), (1, 34, 1, 6, 0, 231), (1, 38, 1, 7, 0, 232), (1, 45, 2, 3, 1, 206), (1, 46, 4, 2, 1, 145), (1, 51, 6, 2, 1, 126), (1, 62, 2, 0, 1, 201), (1, 66, 4, 0, 1, 140), (1, 111, 2, 2, 1, 204), (2, 9, 2, 0, 0, 200), (2, 15, 2, 1, 0, 202), (2, 19, 2, 2, 0, 203), (2, 22, 2, 3, 0, 205), (2, 26, 4, 0, 1, 139), (2, 67, 4, 5, 1, 152), (2, 71, 6, 2, 1, 128), (3, 9, 3, 0, 0, 278), (3, 15, 3, 1, 0, 280), (3, 19, 3, 2, 0, 283), (3, 22, 3, 3, 0, 285), (3, 25, 3, 4, 0, 288), (4, 9, 4, 0, 0, 138), (4, 20, 4, 1, 0, 142), (4, 24, 4, 2, 0, 144), (4, 27, 4, 3, 0, 147), (4, 30, 4, 4, 0, 149), (4, 33, 4, 5, 0, 151), (4, 36, 4, 6, 0, 154), (4, 39, 4, 7, 0, 156), (4, 64, 6, 2, 1, 127), (4, 87, 3, 1, 1, 282), (4, 92, 3, 3, 1, 287), (4, 102, 3, 4, 1, 290), (5, 9, 5, 0, 0, 183), (5, 15, 5, 1, 0, 184), (5, 19, 5, 2, 0, 185), (5, 22, 3, 2, 1, 284), (6, 9, 6, 2, 0, 125), (6, 15, 6, 0, 0, 123), (6, 18, 6, 1, 0, 124), (7, 10, 7, 0, 0, 303), (7, 16, 7, 1, 0, 304), (7, 19, 7, 2, 0, 305), (7, 22, 7, 3, 0, 306), (7, 28, 7, 4, 0, 307), (7, 35, 7, 5, 0, 308), (7, 42, 7, 6, 0, 309), (7, 49, 7, 7, 0, 310), (7, 56, 7, 8, 0, 311), (7, 60, 7, 9, 0, 312), (7, 64, 7, 10, 0, 313), (7, 98, 3, 1, 1, 281), (7, 105, 3, 0, 1, 279), (7, 148, 3, 4, 1, 289), (7, 151, 3, 3, 1, 286), (7, 158, 4, 1, 1, 143), (7, 174, 4, 2, 1, 146), (7, 177, 4, 3, 1, 148), (7, 180, 4, 4, 1, 150), (7, 183, 4, 7, 1, 157), (7, 186, 4, 5, 1, 153), (7, 189, 4, 6, 1, 155), (7, 192, 4, 0, 1, 141), (7, 203, 5, 2, 1, 186), (7, 272, 6, 2, 1, 129), (7, 341, 0, 1, 1, 258), (8, 7, 8, 7, 0, 1031), (8, 13, 8, 8, 0, 1032), (8, 16, 8, 9, 0, 1033), (8, 19, 8, 10, 0, 1034), (8, 22, 8, 11, 0, 1035), (8, 25, 8, 12, 0, 1036), (8, 29, 8, 13, 0, 1037), (8, 32, 8, 14, 0, 1038), (8, 35, 8, 15, 0, 1039), (8, 38, 8, 16, 0, 1040), (8, 41, 8, 17, 0, 1041), (8, 44, 8, 18, 0, 1042), (8, 47, 8, 19, 0, 1043), (8, 50, 8, 20, 0, 1044), (8, 53, 8, 21, 0, 1045), (8, 56, 8, 22, 0, 1046), (8, 59, 8, 23, 0, 1047), (8, 62, 8, 24, 0, 1048), (8, 65, 8, 25, 0, 1049), (8, 68, 8, 26, 0, 1050), (8, 71, 8, 27, 0, 1051), (8, 74, 8, 28, 0, 1052), (8, 77, 8, 29, 0, 1053), (8, 80, 8, 30, 0, 1054), (8, 83, 8, 31, 0, 1055), (8, 86, 8, 32, 0, 1056), (8, 89, 8, 33, 0, 1057), (8, 92, 8, 34, 0, 1058), (8, 96, 8, 35, 0, 1059), (8, 99, 8, 36, 0, 1060), (8, 102, 8, 42, 0, 1066), (8, 105, 8, 43, 0, 1067), (8, 108, 8, 44, 0, 1068), (8, 111, 8, 46, 0, 1070), (8, 114, 8, 47, 0, 1071), (8, 117, 8, 48, 0, 1072), (8, 120, 8, 50, 0, 1074), (8, 123, 8, 0, 0, 1024), (8, 126, 8, 1, 0, 1025), (8, 168, 8, 2, 0, 1026), (8, 171, 8, 3, 0, 1027), (8, 174, 8, 6, 0, 1030), (8, 183, 8, 4, 0, 1028), (8, 188, 8, 5, 0, 1029), (8, 199, 8, 41, 0, 1065), (8, 202, 8, 38, 0, 1062), (8, 205, 8, 39, 0, 1063), (8, 208, 8, 37, 0, 1061), (8, 211, 8, 40, 0, 1064), (8, 282, 8, 45, 0, 1069), (8, 319, 8, 49, 0, 1073), (8, 339, 8, 51, 0, 1075), (14, 9, 14, 0, 0, 1574), (14, 15, 14, 1, 0, 1575)]
def px_LS : List (Nat × Nat × Nat × Nat) := [(4, 125, 3, 744), (5, 39, 2, 640), (7, 344, 0, 498), (7, 347, 1, 500), (14, 38, 4, 594), (14, 1053, 5, 615)]
def px_LN : List (Nat × Nat × Nat × Nat × Nat × Nat) := [(1, 27, 2, 223, 195, 90), (4, 15, 6, 117, 118, 88), (7, 7, 4, 111, 112, 87), (7, 32, 5, 177, 178, 89), (7, 39, 2, 194, 195, 90), (7, 46, 1, 217, 218, 91), (7, 53, 0, 250, 251, 92), (7, 26, 3, 175, 273, 93), (9, 7, 7, 103, 104, 86), (9, 10, 8, 1018, 1019, 94)]
def px_LA : List (Nat × Nat × Nat) := [(7, 26, 175)]
def px_LK : List (Nat × Nat × Nat × Int32 × Nat) := [(1, 71, 0, 2147483647, 851), (7, 350, 1000, 0, 572), (7, 352, 1001, 0, 573), (7, 354, 1002, 0, 574), (7, 356, 1003, 0, 575), (7, 358, 1004, 0, 576), (7, 360, 1005, 0, 577), (7, 362, 1006, 0, 578), (7, 364, 1007, 0, 579), (7, 366, 1008, 0, 580), (7, 368, 1009, 0, 581), (7, 370, 1010, 0, 582), (13, 265, 0, 1431655765, 488), (13, 266, 0, 858993459, 489), (13, 267, 0, 252645135, 490), (9, 18, 0, 0, 1573)]
def px_LC : List (Nat × Nat) := [(254, 92), (975, 92), (979, 92), (1005, 92), (987, 92), (983, 92), (991, 92), (996, 92), (221, 91), (848, 91), (858, 91), (862, 91), (867, 91), (872, 91), (881, 91), (876, 91), (897, 91), (901, 91), (905, 91), (198, 90), (780, 90), (776, 90), (790, 90), (795, 90), (824, 90), (924, 90), (799, 90), (803, 90), (807, 90), (815, 90), (811, 90), (276, 93), (376, 93), (372, 93), (416, 93), (351, 93), (438, 93), (380, 93), (397, 93), (408, 93), (599, 93), (384, 93), (389, 93), (454, 93), (720, 93), (115, 87), (549, 87), (645, 87), (665, 87), (649, 87), (785, 87), (832, 87), (430, 87), (467, 87), (693, 87), (426, 87), (463, 87), (459, 87), (471, 87), (478, 87), (743, 87), (732, 87), (737, 87), (728, 87), (724, 87), (764, 87), (932, 87), (753, 87), (749, 87), (836, 87), (953, 87), (949, 87), (181, 89), (560, 89), (564, 89), (568, 89), (585, 89), (657, 89), (660, 89), (121, 88), (505, 88), (518, 88), (434, 88), (514, 88), (509, 88), (554, 88), (107, 86), (340, 86), (364, 86), (393, 86), (404, 86), (412, 86), (442, 86), (446, 86), (494, 86), (522, 86), (529, 86), (533, 86), (537, 86), (541, 86), (545, 86), (671, 86), (675, 86), (681, 86), (685, 86), (698, 86), (705, 86), (760, 86), (768, 86), (820, 86), (828, 86), (840, 86), (885, 86), (889, 86), (893, 86), (910, 86), (914, 86), (919, 86), (928, 86), (936, 86), (941, 86), (945, 86), (957, 86), (962, 86), (966, 86), (971, 86), (1001, 86), (1009, 86), (1013, 86), (1017, 86), (347, 86), (689, 86), (368, 86), (450, 86), (712, 86), (844, 86), (716, 86), (772, 86), (343, 86), (525, 86), (708, 86), (422, 86), (481, 86), (484, 86), (474, 86), (497, 86), (419, 86), (571, 86), (1022, 94), (1192, 94), (1372, 94), (1188, 94), (1256, 94), (1356, 94), (1364, 94), (1444, 94), (1212, 94), (1184, 94), (1196, 94), (1200, 94), (1204, 94), (1208, 94), (1220, 94), (1228, 94), (1224, 94), (1236, 94), (1308, 94), (1528, 94), (1244, 94), (1248, 94), (1240, 94), (1260, 94), (1252, 94), (1268, 94), (1272, 94), (1264, 94), (1280, 94), (1276, 94), (1288, 94), (1284, 94), (1296, 94), (1300, 94), (1292, 94), (1328, 94), (1332, 94), (1340, 94), (1336, 94), (1344, 94), (1324, 94), (1320, 94), (1316, 94), (1312, 94), (1304, 94), (1348, 94), (1352, 94), (1360, 94), (1368, 94), (1376, 94), (1216, 94), (1412, 94), (1408, 94), (1404, 94), (1232, 94), (1392, 94), (1396, 94), (1400, 94), (1388, 94), (1384, 94), (1380, 94), (1416, 94), (1432, 94), (1428, 94), (1424, 94), (1420, 94), (1436, 94), (1448, 94), (1440, 94), (1464, 94), (1468, 94), (1472, 94), (1460, 94), (1456, 94), (1452, 94), (1476, 94), (1480, 94), (1484, 94), (1488, 94), (1492, 94), (1496, 94), (1500, 94), (1504, 94), (1508, 94), (1512, 94), (1516, 94), (1520, 94), (1524, 94), (1540, 94), (1536, 94), (1544, 94), (1548, 94), (1532, 94), (1552, 94), (1564, 94), (1560, 94), (1556, 94), (1568, 94), (1572, 94), (487, 98), (756, 95), (357, 95), (354, 95), (589, 99), (604, 99), (593, 99), (608, 99), (614, 99), (611, 100), (360, 96), (653, 96), (619, 101), (9999, 85)]
end
section
def px_y (k : Nat) : MethodName := px_Y.getD k yL_law
def px_b (k : Nat) : ByteArray := px_Bs.getD k ⟨#[]⟩
def px_rt (k : Nat) : Option FieldType := px_Rt.getD k none
def px_nu (k i : Nat) : Nat := (px_Nu.getD k []).getD i 0
def px_mx (k : Nat) : Nat := px_nu k 0
def px_cn (k : Nat) : Nat := px_nu k 1
def px_ini (k : Nat) : Nat := px_nu k 2
def px_np (k : Nat) : Nat := px_nu k 3
def px_sta (k : Nat) : Nat := px_nu k 4
def px_fr (k : Nat) : Nat := px_nu k 5
def px_lo (k : Nat) : Nat := px_nu k 6
def px_mc (k : Nat) : Nat := px_nu k 7
def px_ms (k : Nat) : Nat := px_nu k 8
def px_cl (c : Nat) : String := px_Cl.getD c ""
def px_own (k : Nat) : String := px_cl (px_cn k)
def px_blk (k : Nat) : List (Nat × List px_I) := px_B.getD k []
def px_to (k t : Nat) : List px_I := ((px_blk k).lookup t).getD []
def px_ct (k : Nat) : List px_I := px_to k 0
def px_law : Nat := 260
def px_entl (vs : List Value) : List Value := vs.flatMap fun v => if v.category = 2 then [v, .null] else [v]
def px_ent (vs : List Value) (n : Nat) : List Value := px_entl vs ++ List.replicate (n - (px_entl vs).length) .null
def px_rti (ret : Option FieldType) (y : Int32) : Bool := match ret with
  | some .int => true
  | some .boolean => decide (y &&& 1 = y)
  | some t => decide (narrow t (.int y) = .int y)
  | none => false
def px_rta (ret : Option FieldType) : Bool := match ret with
  | some (.object _) => true
  | some (.array _) => true
  | _ => false
def px_sum (st : List Value) : Nat := (st.map fun v => v.category).sum
/-- the receiver is of the method's class -/
def px_rcv (j : Nat) (G : List px_S) (v : Value) : Bool := match v with
  | .ref q => if q < 1000 then (match G[q]? with
      | some (t, _, _) => decide (t = px_cn j) && decide (t < 9)
      | none => false) else decide (px_cn j = 14) && decide (q < 1011)
  | _ => false
/-- whether a call may be: kd 0 invokevirtual, 1 invokestatic, 2 invokespecial -/
def px_cok (kd a b : Nat) (rem : Nat × Nat) (L st : List Value) (G : List px_S) : Bool :=
  decide (a < px_law) && decide (a < 248 ∨ 250 < a) && decide (b ≤ st.length) && decide (b = px_np a + (1 - px_sta a)) && decide (px_sta a = if kd = 1 then 1 else 0) && decide (px_sum (st.drop b) ≤ 8) &&
  decide (px_mc a ≤ rem.1) && decide (px_ms a ≤ rem.2) && (decide (px_mc a = 0) || px_tidy G L (st.drop b)) && (decide (kd = 1) || px_rcv a G ((st.take b).reverse.headD .null)) && decide (kd = 2 ↔ 0 < px_ini a) && decide ((px_entl (st.take b).reverse).length ≤ px_mx a)
/-- a copy: src, sp, dst, dp, n; behind it the cells -/
def px_cpy (G : List px_S) (h : (Nat → Nat → Int32) × (Nat → Nat → Int64)) (src dst : Nat) (sp dp n : Int32) : Option ((Nat → Nat → Int32) × (Nat → Nat → Int64)) := match G[src]? with
  | some (t0, n0, _) => (match G[dst]? with
    | some (t1, n1, _) => if t0 = t1 ∧ src < 1000 ∧ dst < 1000 ∧ ¬ sp < 0 ∧ ¬ dp < 0 ∧ ¬ n < 0 ∧ sp.toNatClampNeg + n.toNatClampNeg ≤ n0 ∧ dp.toNatClampNeg + n.toNatClampNeg ≤ n1 then
        (if t0 = 100 then some (px_row h.1 dst (va_cpy (h.1 src) (h.1 dst) sp.toNatClampNeg dp.toNatClampNeg n.toNatClampNeg), h.2)
         else if t0 = 102 then some (h.1, px_rowL h.2 dst (va_cpy (h.2 src) (h.2 dst) sp.toNatClampNeg dp.toNatClampNeg n.toNatClampNeg)) else none) else none
    | none => none)
  | none => none
def px_run (X : px_X) : Nat → Nat → Nat × Nat → List px_I → List Value → List Value → px_H → Option (Option Value × px_H)
  | 0, _, _, _, _, _, _ => none
  | _ + 1, _, _, [], _, _, _ => none
  | N + 1, k, rem, (pc, i, len, a, b, v) :: suf, L, st, h =>
    let call (kd : Nat) : Option (Option Value × px_H) :=
      if px_cok kd a b rem L st h.1 = true then
        (match px_run X N a (px_mc a, px_ms a) (px_ct a) (px_ent (st.take b).reverse (px_mx a)) [] h with
        | some (r, h') => if (if px_mc a = 0 then decide (h'.1.length = h.1.length) else decide (h'.1.length ≤ 1000)) = true then px_run X N k (rem.1 - px_mc a, rem.2 - px_ms a) suf L (r.toList ++ st.drop b) h' else none
        | none => none) else none
    match i with
    | .ireturn => (match st with | [.int y] => if px_rti (px_rt k) y = true then some (some (.int y), h) else none | _ => none)
    | .lreturn => (match st with | [.long y] => if px_rt k = some .long then some (some (.long y), h) else none | _ => none)
    | .areturn => (match st with | [.ref y] => if px_rta (px_rt k) = true then some (some (.ref y), h) else none | _ => none)
    | .return_ => (match st with | [] => if px_rt k = none then some (none, h) else none | _ => none)
    | .invokevirtual _ => call 0
    | .invokestatic _ => if a = 9001 then (match st with
        | .int n :: .int dp :: .ref dst :: .int sp :: .ref src :: st => if px_sum st ≤ 8 then (match px_cpy h.1 h.2 src dst sp dp n with | some de => px_run X N k rem suf L st (h.1, de) | none => none) else none
        | _ => none) else if a = 9002 then (match st with
        | .int x :: st => if px_sum st ≤ 8 then px_run X N k rem suf L (.int (if 0 ≤ x then x else 0 - x) :: st) h else none
        | _ => none) else if a = 9003 then (match st with
        | .int y :: .int x :: st => if px_sum st ≤ 8 then px_run X N k rem suf L (.int (if x < y then y else x) :: st) h else none
        | _ => none) else if a = 9004 then (match st with
        | .int y :: .int x :: st => if px_sum st ≤ 8 then px_run X N k rem suf L (.int (if y < x then y else x) :: st) h else none
        | _ => none) else call 1
    | .invokespecial _ => if a = 9000 then (match st with | .ref _ :: st => if px_sum st ≤ 8 then px_run X N k rem suf L st h else none | _ => none) else call 2
    | i => (match px_step X (px_ini k) rem pc i a b v L st h with
      | some (none, L, st', h) => px_run X N k (px_remN rem i a st) suf L st' h
      | some (some t, L, st', h) => px_run X N k (px_remN rem i a st) (px_to k t) L st' h
      | none => none)
end
section
def px_Ts : List Cond := lw_tbl.filter goodWord
def px_has (w : Cond) (i : Nat) : Bool := decide (lw_tbl[i]? = some w) && goodWord w
theorem px_has_mem {w : Cond} {i : Nat} (h : px_has w i = true) : w ∈ px_Ts := by
  simp only [px_has, Bool.and_eq_true, decide_eq_true_eq] at h
  exact List.mem_filter.mpr ⟨List.mem_of_getElem? h.1, h.2⟩
def px_host : String := "LightAlong"
def px_isN : Cond → Bool
  | .fieldLinkNest .. => true
  | .methodLinkNest .. => true
  | _ => false
/-- the words on nest mates' private members -/
def px_Tn : List Cond := lw_tbl.filter px_isN
def px_hasN (w : Cond) (i : Nat) : Bool := decide (lw_tbl[i]? = some w) && px_isN w
theorem px_hasN_mem {w : Cond} {i : Nat} (h : px_hasN w i = true) : w ∈ px_Tn := by
  simp only [px_hasN, Bool.and_eq_true, decide_eq_true_eq] at h
  exact List.mem_filter.mpr ⟨List.mem_of_getElem? h.1, h.2⟩
def px_hasB (nest : Nat) (w : Cond) (i : Nat) : Bool := if nest = 0 then px_has w i else px_hasN w i
def px_cy (a : Nat) : MethodName := if a = 9000 then objectInit else if a = 9001 then arraycopyName else if a = 9002 then Lib.Math.abs.name else if a = 9003 then Lib.Math.max.name else if a = 9004 then Lib.Math.min.name else px_y a
/-- the words of a call -/
def px_mlink (c idx a nest : Nat) : Cond := if nest = 0 then Cond.methodLink (px_cl c) idx (px_cy a) else Cond.methodLinkNest (px_cl c) idx (px_cy a) px_host
def px_mwords (a : Nat) : List Cond :=
  (if a = 9000 then [.instanceMethod (px_cy a)] else if a = 9001 then [.native (px_cy a), .static (px_cy a), .initialized "java/lang/System"]
   else if a = 9002 then [.static (px_cy a), .initialized "java/lang/Math", .code (px_cy a) Lib.Math.abs.code 1 (some .int)]
   else if a = 9003 then [.static (px_cy a), .initialized "java/lang/Math", .code (px_cy a) Lib.Math.max.code 2 (some .int)]
   else if a = 9004 then [.static (px_cy a), .initialized "java/lang/Math", .code (px_cy a) Lib.Math.min.code 2 (some .int)]
   else if px_sta a = 1 then [.static (px_cy a), .initialized (px_cy a).cls]
   else if px_ini a = 0 then [.instanceMethod (px_cy a), .selects (px_cy a).cls (px_cy a) (px_cy a), .initialized (px_cy a).cls]
   else [.instanceMethod (px_cy a), .initialized (px_cy a).cls])
def px_hasL : List Cond → List Nat → Bool
  | [], _ => true
  | _ :: _, [] => false
  | w :: ws, i :: is => px_has w i && px_hasL ws is
theorem px_hasL_mem : ∀ {ws : List Cond} {is : List Nat}, px_hasL ws is = true → ∀ w ∈ ws, w ∈ px_Ts
  | [], _, _, _, h => by cases h
  | _ :: _, [], h, _, _ => by cases h
  | w :: ws, i :: is, h, x, hx => by
    simp only [px_hasL, Bool.and_eq_true] at h
    rcases List.mem_cons.mp hx with rfl | hx
    · exact px_has_mem h.1
    · exact px_hasL_mem h.2 x hx
def px_lmc (r : Nat × Nat × Nat × Nat × List Nat) : Bool := px_hasB r.2.2.2.1 (px_mlink r.1 r.2.1 r.2.2.1 r.2.2.2.1) (r.2.2.2.2.getD 0 0) && px_hasL (px_mwords r.2.2.1) (r.2.2.2.2.drop 1) && decide (r.2.2.2.1 ≤ 1) && (decide (r.2.2.1 < 9000) || decide (r.2.2.2.1 = 0))
set_option maxRecDepth 100000 in
theorem px_LM0_ok : px_LM0.all px_lmc = true := by decide +kernel
set_option maxRecDepth 100000 in
theorem px_LM1_ok : px_LM1.all px_lmc = true := by decide +kernel
set_option maxRecDepth 100000 in
theorem px_LM2_ok : px_LM2.all px_lmc = true := by decide +kernel
set_option maxRecDepth 100000 in
theorem px_LM3_ok : px_LM3.all px_lmc = true := by decide +kernel
set_option maxRecDepth 100000 in
theorem px_LM4_ok : px_LM4.all px_lmc = true := by decide +kernel
set_option maxRecDepth 100000 in
theorem px_LM5_ok : px_LM5.all px_lmc = true := by decide +kernel
set_option maxRecDepth 100000 in
theorem px_LM6_ok : px_LM6.all px_lmc = true := by decide +kernel
set_option maxRecDepth 100000 in
theorem px_LM7_ok : px_LM7.all px_lmc = true := by decide +kernel
set_option maxRecDepth 100000 in
theorem px_LM8_ok : px_LM8.all px_lmc = true := by decide +kernel
set_option maxRecDepth 100000 in
theorem px_LM9_ok : px_LM9.all px_lmc = true := by decide +kernel
set_option maxRecDepth 100000 in
theorem px_LM10_ok : px_LM10.all px_lmc = true := by decide +kernel
set_option maxRecDepth 100000 in
theorem px_LM11_ok : px_LM11.all px_lmc = true := by decide +kernel
set_option maxRecDepth 100000 in
theorem px_LM12_ok : px_LM12.all px_lmc = true := by decide +kernel
theorem px_LM_ok : px_LM.all px_lmc = true := by
  simp only [px_LM, List.all_append, Bool.and_eq_true]
  exact ⟨px_LM0_ok, ⟨px_LM1_ok, ⟨px_LM2_ok, ⟨px_LM3_ok, ⟨px_LM4_ok, ⟨px_LM5_ok, ⟨px_LM6_ok, ⟨px_LM7_ok, ⟨px_LM8_ok, ⟨px_LM9_ok, ⟨px_LM10_ok, ⟨px_LM11_ok, px_LM12_ok⟩⟩⟩⟩⟩⟩⟩⟩⟩⟩⟩⟩
/-- fields: class and number -/
def px_T (c : Nat) : u_T := match c with
  | 0 => TX0
  | 1 => TX1
  | 2 => TX2
  | 3 => TX3
  | 4 => TX4
  | 5 => TX5
  | 6 => TX6
  | 7 => TX7
  | _ => TX8
def px_ty (c : Nat) : Nat → FieldType := match c with
  | 0 => tyX0
  | 1 => tyX1
  | 2 => tyX2
  | 3 => tyX3
  | 4 => tyX4
  | 5 => tyX5
  | 6 => tyX6
  | 7 => tyX7
  | _ => tyX8
def px_fword (own : String) (idx : Nat) (o n d : String) (nest : Nat) : Cond := if nest = 0 then .fieldLink own idx o n d else .fieldLinkNest own idx o n d px_host
def px_sf (a : Nat) : String × String × String := if a = 0 then ("java/lang/String", "value", "[B") else ("java/lang/String", "coder", "B")
set_option maxRecDepth 100000 in
theorem px_LF_ok : px_LF.all (fun r => (if r.2.2.1 = 14 then decide (r.2.2.2.1 < 2) && decide (r.2.2.2.2.1 = 0) && px_has (px_fword (px_cl r.1) r.2.1 (px_sf r.2.2.2.1).1 (px_sf r.2.2.2.1).2.1 (px_sf r.2.2.2.1).2.2 0) r.2.2.2.2.2
    else (decide (r.2.2.2.2.1 = 0) || decide (r.1 ≠ r.2.2.1)) && decide (r.2.2.1 < 9) && decide (r.2.2.2.1 < px_nf r.2.2.1) && px_hasB r.2.2.2.2.1 (px_fword (px_cl r.1) r.2.1 (px_T r.2.2.1 r.2.2.2.1).1 (px_T r.2.2.1 r.2.2.2.1).2.1 (px_T r.2.2.1 r.2.2.2.1).2.2.1 r.2.2.2.2.1) r.2.2.2.2.2)) = true := by decide +kernel
/-- statics: class, name, descriptor -/
def px_sn (a : Nat) : String × String × String := if a = 0 then ("LightAlong", "LOWEST", "[I") else if a = 1 then ("LightAlong", "HIGHEST", "[I") else if a = 2 then ("LightAlong", "NUMBERS", "[I") else if a = 3 then ("LightAlong", "LEAVES", "[I") else if a = 4 then ("java/lang/String", "COMPACT_STRINGS", "Z") else ("jdk/internal/util/Preconditions", "SIOOBE_FORMATTER", "Ljava/util/function/BiFunction;")
def px_sq (a : Nat) : Nat := if a = 2 ∨ a = 3 then 1 else 0
set_option maxRecDepth 100000 in
theorem px_LS_ok : px_LS.all (fun r => px_hasB (px_sq r.2.2.1) (px_fword (px_cl r.1) r.2.1 (px_sn r.2.2.1).1 (px_sn r.2.2.1).2.1 (px_sn r.2.2.1).2.2 (px_sq r.2.2.1)) r.2.2.2) = true := by decide +kernel
set_option maxRecDepth 100000 in
theorem px_LN_ok : px_LN.all (fun r => decide (r.2.2.1 < 9) && px_hasL [.classLink (px_cl r.1) r.2.1 (px_cl r.2.2.1), .instantiable (px_cl r.2.2.1) (px_nf r.2.2.1), .initialized (px_cl r.2.2.1)] [r.2.2.2.1, r.2.2.2.2.1, r.2.2.2.2.2]) = true := by decide +kernel
set_option maxRecDepth 100000 in
theorem px_LA_ok : px_LA.all (fun r => px_has (.classLink (px_cl r.1) r.2.1 (px_cl 3)) r.2.2) = true := by decide +kernel
def px_tx (i : Nat) : String := ["least", "even", "wide", "long", "sort", "place", "tree", "wall", "window", "shop", "pool"].getD i ""
set_option maxRecDepth 100000 in
theorem px_LK_ok : px_LK.all (fun r => decide (r.1 = 9) || (if 1000 ≤ r.2.2.1 then decide (r.1 = 7) && decide (r.2.2.1 < 1011) && decide (r.2.1 = 350 + 2 * (r.2.2.1 - 1000)) else px_has (.constant (px_cl r.1) r.2.1 r.2.2.2.1) r.2.2.2.2)) = true := by decide +kernel
set_option maxRecDepth 100000 in
theorem px_misc_ok : px_hasL [.code objectInit ⟨#[0xb1]⟩ 1 none, .constantLong "LightAlongLaw" 18 4294967295, .arrayClass .int, .arrayClass .boolean, .arrayClass .long] [110, 1573, 137, 216, 302] = true := by decide +kernel
end
section
/-! WHAT EACH INSTRUCTION'S ENTRY PROMISES, and that every block keeps it. -/
def px_lk3 (c idx a : Nat) : Bool := px_LM.any fun r => decide (r.1 = c) && decide (r.2.1 = idx) && decide (r.2.2.1 = a)
def px_inv (k kd a idx n : Nat) : Bool := decide (n = 3) && (decide (a = 9999) || (px_lk3 (px_cn k) idx a && (if a < 260 then decide (px_fr a + 1 ≤ px_fr k) && decide (8 + (px_mx a + 11) + px_lo a ≤ px_lo k) else if a = 9000 then decide (kd = 2) && decide (1 ≤ px_fr k) && decide (20 ≤ px_lo k) else decide (9001 ≤ a) && decide (a ≤ 9004) && decide (kd = 1) && decide (1 ≤ px_fr k) && decide (26 ≤ px_lo k))))
def px_atag (t : ArrayType) : Nat := match t with
  | .int => 100
  | .boolean => 101
  | .long => 102
  | _ => 99
def px_len (i : Instr) : Nat := match i with
  | .bipush _ | .iload _ | .lload _ | .aload _ | .istore _ | .lstore _ | .astore _ | .ldc _ | .newarray _ => 2
  | .sipush _ | .iinc _ _ | .goto _ | .ifCond _ _ | .if_icmp _ _ | .getfield _ | .putfield _ | .getstatic _ | .new _ | .anewarray _ | .ldc_w _ | .ldc2_w _ | .invokevirtual _ | .invokestatic _ | .invokespecial _ => 3
  | _ => 1
def px_chk2 (k pc : Nat) (i : Instr) (n a b : Nat) (v : Int32) : Bool := match i with
  | .iconst z => decide (Int32.ofInt z = v)
  | .bipush z => decide ((Int8.ofInt z).toInt32 = v)
  | .sipush z => decide ((Int16.ofInt z).toInt32 = v)
  | .ldc idx => px_LK.any fun r => decide (r.1 = px_cn k) && decide (r.2.1 = idx) && decide (r.2.2.1 = a) && decide (r.2.2.2.1 = v) && decide (r.1 ≠ 9)
  | .ldc_w idx => px_LK.any fun r => decide (r.1 = px_cn k) && decide (r.2.1 = idx) && decide (r.2.2.1 = a) && decide (r.2.2.2.1 = v) && decide (r.1 ≠ 9)
  | .ldc2_w idx => decide (px_cn k = 9) && decide (idx = 18)
  | .iload i => decide (i = a)
  | .lload i => decide (i = a)
  | .aload i => decide (i = a)
  | .istore i => decide (i = a) && decide (a < px_mx k)
  | .lstore i => decide (i = a) && decide (a + 1 < px_mx k)
  | .astore i => decide (i = a) && decide (a < px_mx k)
  | .iload_n i => decide (i.val = a)
  | .lload_n i => decide (i.val = a)
  | .aload_n i => decide (i.val = a)
  | .istore_n i => decide (i.val = a) && decide (a < px_mx k)
  | .lstore_n i => decide (i.val = a) && decide (a + 1 < px_mx k)
  | .astore_n i => decide (i.val = a) && decide (a < px_mx k)
  | .iinc i z => decide (i = a) && decide (a < px_mx k) && decide (Int32.ofInt z = v)
  | .goto o => decide ((pc : Int) + o = (a : Int))
  | .ifCond _ o => decide ((pc : Int) + o = (a : Int))
  | .if_icmp _ o => decide ((pc : Int) + o = (a : Int))
  | .tableswitch d _ _ os => decide (0 ≤ (pc : Int) + d) && os.toList.all fun o => decide (0 ≤ (pc : Int) + o)
  | .lookupswitch _ ps => (ps.toList.zip (ps.toList.drop 1)).all (fun (a, next) => a.1 < next.1)
  | .getfield idx => px_LF.any fun r => decide (r.1 = px_cn k) && decide (r.2.1 = idx) && decide (r.2.2.1 = a) && decide (r.2.2.2.1 = b)
  | .putfield idx => px_LF.any fun r => decide (r.1 = px_cn k) && decide (r.2.1 = idx) && decide (r.2.2.1 = a) && decide (r.2.2.2.1 = b)
  | .getstatic idx => px_LS.any fun r => decide (r.1 = px_cn k) && decide (r.2.1 = idx) && decide (r.2.2.1 = a)
  | .new idx => decide (9 ≤ a) || px_LN.any fun r => decide (r.1 = px_cn k) && decide (r.2.1 = idx) && decide (r.2.2.1 = a)
  | .newarray t => decide (px_atag t = a)
  | .anewarray idx => px_LA.any fun r => decide (r.1 = px_cn k) && decide (r.2.1 = idx)
  | .invokevirtual idx => px_inv k 0 a idx n
  | .invokestatic idx => px_inv k 1 a idx n
  | .invokespecial idx => px_inv k 2 a idx n
  | _ => true
def px_chk (k : Nat) (x : px_I) : Bool := match x with
  | (pc, i, n, a, b, v) => decide (decode (px_b k) pc = .ok (i, n)) && px_chk2 k pc i n a b v && (match i with
    | .tableswitch .. => true
    | .lookupswitch .. => true
    | i => decide (n = px_len i))
def px_chain : List px_I → Bool
  | [] => true
  | x :: s => (match s with
    | [] => true
    | y :: _ => (match x.2.1 with
      | .tableswitch .. => true
      | .lookupswitch .. => true
      | _ => decide (y.1 = x.1 + x.2.2.1))) && px_chain s
def px_fine (k : Nat) (s : List px_I) : Prop := (∀ x ∈ s, px_chk k x = true) ∧ px_chain s = true
theorem px_fine_nil (k : Nat) : px_fine k [] := ⟨fun _ h => absurd h List.not_mem_nil, rfl⟩
def px_fineB (k : Nat) : Nat → List px_I → Bool
  | 0, _ => true
  | _ + 1, [] => false
  | n + 1, x :: s => px_chk k x && (match s with
    | [] => true
    | y :: _ => (match x.2.1 with
      | .tableswitch .. => true
      | .lookupswitch .. => true
      | _ => decide (y.1 = x.1 + x.2.2.1))) && px_fineB k n s
theorem px_fine_add {k : Nat} : ∀ {n : Nat} {s t : List px_I}, px_fineB k n s = true → s.drop n = t → px_fine k t → px_fine k s
  | 0, _, _, _, ht, h => by rw [List.drop_zero] at ht; rw [ht]; exact h
  | _ + 1, [], _, hb, _, _ => by cases hb
  | n + 1, x :: s, t, hb, ht, h => by
    simp only [px_fineB, Bool.and_eq_true] at hb
    have ih := px_fine_add (n := n) (s := s) (t := t) hb.2 ht h
    refine ⟨fun y hy => ?_, ?_⟩
    · rcases List.mem_cons.mp hy with rfl | hy
      · exact hb.1.1
      · exact ih.1 y hy
    · simp only [px_chain, Bool.and_eq_true]
      exact ⟨hb.1.2, ih.2⟩
theorem px_fine_tail {k : Nat} {x : px_I} {s : List px_I} (h : px_fine k (x :: s)) : px_fine k s := by
  refine ⟨fun y hy => h.1 y (List.mem_cons_of_mem _ hy), ?_⟩
  have h2 := h.2
  simp only [px_chain, Bool.and_eq_true] at h2
  exact h2.2
end
section
/-! THE PURE MACHINE IS THE MACHINE: relations between the two. -/
def px_rl (ad : Nat → Nat) (z : Value) (v : Value) : Value := match v with
  | .ref k => .ref (ad k)
  | .retAddr _ => z
  | v => v
theorem px_rl_cat {ad : Nat → Nat} {z : Value} (hz : z.category = 1) (v : Value) : (px_rl ad z v).category = v.category := by
  cases v <;> first | rfl | exact hz
theorem px_get_some {L : List Value} {a : Nat} {v : Value} (h : px_get L a = v) (hv : v ≠ .null) : L[a]? = some v := by
  unfold px_get at h
  rw [List.getD_eq_getElem?_getD] at h
  cases hq : L[a]? with
  | none => rw [hq] at h; exact absurd h.symm hv
  | some w => rw [hq] at h; exact congrArg some h
def px_Lr (f : Value → Value) (ls : Array Slot) (nL : Nat) (L : List Value) : Prop := ls.size = nL ∧ lv_wf ls ∧ L.length = nL ∧ ∀ (i : Nat) (v : Value), L[i]? = some v → v ≠ .null → ls[i]? = some (.val (f v))
def px_lvs (f : Value → Value) (L : List Value) : List (Nat × Value) := (L.zipIdx.filter fun q => !(decide (q.1 = .null))).map fun q => (q.2, f q.1)
theorem px_lvs_mem {f : Value → Value} {L : List Value} {q : Nat × Value} : q ∈ px_lvs f L ↔ ∃ v, L[q.1]? = some v ∧ v ≠ .null ∧ f v = q.2 := by
  unfold px_lvs
  rw [List.mem_map]
  constructor
  · rintro ⟨⟨v, i⟩, h, rfl⟩
    obtain ⟨h1, h2⟩ := List.mem_filter.mp h
    exact ⟨v, List.mem_zipIdx_iff_getElem?.mp h1, by simpa using h2, rfl⟩
  · rintro ⟨v, h1, h2, h3⟩
    exact ⟨(v, q.1), List.mem_filter.mpr ⟨List.mem_zipIdx_iff_getElem?.mpr h1, by simpa using h2⟩, by rw [h3]⟩
theorem px_Lr.has {f : Value → Value} {ls : Array Slot} {nL : Nat} {L : List Value} (h : px_Lr f ls nL L) : lv_has ls nL (px_lvs f L) := ⟨h.1, h.2.1, fun q hq => by
  obtain ⟨v, h1, h2, h3⟩ := px_lvs_mem.mp hq
  rw [← h3]
  exact h.2.2.2 _ _ h1 h2⟩
theorem px_Lr.at {f : Value → Value} {ls : Array Slot} {nL : Nat} {L : List Value} (h : px_Lr f ls nL L) {a : Nat} {v : Value} (hg : px_get L a = v) (hv : v ≠ .null) : ls[a]? = some (.val (f v)) := h.2.2.2 a v (px_get_some hg hv) hv
theorem px_Lr.lt {f : Value → Value} {ls : Array Slot} {nL : Nat} {L : List Value} (h : px_Lr f ls nL L) {a : Nat} {v : Value} (hg : px_get L a = v) (hv : v ≠ .null) : a < nL := by
  have := (List.getElem?_eq_some_iff.mp (px_get_some hg hv)).1
  rw [← h.2.2.1]; exact this
theorem px_set_len (L : List Value) (a : Nat) (v : Value) : (px_set L a v).length = L.length := by
  unfold px_set
  split
  · simp
  · split <;> simp
theorem px_set_get {L : List Value} {i : Nat} {v : Value} {j : Nat} {w : Value} (h : (px_set L i v)[j]? = some w) : (j = i → w = v) ∧ (j ≠ i → w ≠ .null → L[j]? = some w ∧ ¬ (j + 1 = i ∧ w.category = 2)) := by
  unfold px_set at h
  split at h
  · rw [List.getElem?_set] at h
    refine ⟨fun e => ?_, fun ne hw => ?_⟩
    · subst e
      rw [if_pos rfl] at h
      split at h
      · exact (Option.some.inj h).symm
      · cases h
    · rw [if_neg (fun q => ne q.symm)] at h
      exact ⟨h, fun q => by omega⟩
  · rename_i a
    split at h
    · rename_i hc
      rw [List.getElem?_set] at h
      refine ⟨fun e => ?_, fun ne hw => ?_⟩
      · subst e
        rw [if_pos rfl] at h
        split at h
        · exact (Option.some.inj h).symm
        · cases h
      · rw [if_neg (fun q => ne q.symm), List.getElem?_set] at h
        split at h
        · split at h
          · exact absurd (Option.some.inj h).symm hw
          · cases h
        · rename_i ha
          exact ⟨h, fun q => ha (by omega)⟩
    · rename_i hc
      rw [List.getElem?_set] at h
      refine ⟨fun e => ?_, fun ne hw => ?_⟩
      · subst e
        rw [if_pos rfl] at h
        split at h
        · exact (Option.some.inj h).symm
        · cases h
      · rw [if_neg (fun q => ne q.symm)] at h
        refine ⟨h, fun q => hc ?_⟩
        have : j = a := by omega
        subst this
        rw [List.getD_eq_getElem?_getD, h]
        exact q.2
theorem px_Lr.set {f : Value → Value} {ls ls' : Array Slot} {nL : Nat} {L : List Value} {i : Nat} {v w : Value} (h : px_Lr f ls nL L) (hc : ∀ w, (f w).category = w.category) (hw : f v = w) (h' : lv_has ls' nL ((i, w) :: (px_lvs f L).filter (fun q => !(q.1 == i) && !(q.1 + 1 == i && q.2.category == 2)))) : px_Lr f ls' nL (px_set L i v) := by
  subst hw
  refine ⟨h'.1, h'.2.1, (px_set_len L i v).trans h.2.2.1, fun j w hj hw => ?_⟩
  have hg := px_set_get hj
  by_cases hji : j = i
  · have e := hg.1 hji
    subst e; subst hji
    exact h'.2.2 (j, f w) List.mem_cons_self
  · obtain ⟨h1, h2⟩ := hg.2 hji hw
    refine h'.2.2 (j, f w) (List.mem_cons_of_mem _ (List.mem_filter.mpr ⟨px_lvs_mem.mpr ⟨w, h1, hw, rfl⟩, ?_⟩))
    have h3 : (j == i) = false := by simpa using hji
    have h4 : (j + 1 == i && w.category == 2) = false := by
      by_cases a : j + 1 = i
      · have : ¬ w.category = 2 := fun q => h2 ⟨a, q⟩
        simp [this]
      · simp [a]
    simp only [hc, h3, h4]
    rfl
theorem px_Lr.set2 {f : Value → Value} {ls ls' : Array Slot} {nL : Nat} {L : List Value} {i : Nat} {v w : Value} (h : px_Lr f ls nL L) (hc : ∀ w, (f w).category = w.category) (hw : f v = w) (h' : lv_has ls' nL ((i, w) :: (px_lvs f L).filter (fun q => !(q.1 == i) && (!(q.1 == i + 1) && !(q.1 + 1 == i && q.2.category == 2))))) : px_Lr f ls' nL (px_set2 L i v) := by
  subst hw
  refine ⟨h'.1, h'.2.1, ?_, fun j w hj hw => ?_⟩
  · unfold px_set2
    rw [List.length_set, px_set_len]; exact h.2.2.1
  · unfold px_set2 at hj
    rw [List.getElem?_set] at hj
    by_cases hj2 : i + 1 = j
    · rw [if_pos hj2] at hj
      split at hj
      · exact absurd (Option.some.inj hj).symm hw
      · cases hj
    · rw [if_neg hj2] at hj
      have hg := px_set_get hj
      by_cases hji : j = i
      · have e := hg.1 hji
        subst e; subst hji
        exact h'.2.2 (j, f w) List.mem_cons_self
      · obtain ⟨h1, h2⟩ := hg.2 hji hw
        refine h'.2.2 (j, f w) (List.mem_cons_of_mem _ (List.mem_filter.mpr ⟨px_lvs_mem.mpr ⟨w, h1, hw, rfl⟩, ?_⟩))
        have h3 : (j == i) = false := by simpa using hji
        have h5 : (j == i + 1) = false := by simpa using (fun q => hj2 q.symm : ¬ j = i + 1)
        have h4 : (j + 1 == i && w.category == 2) = false := by
          by_cases a : j + 1 = i
          · have : ¬ w.category = 2 := fun q => h2 ⟨a, q⟩
            simp [this]
          · simp [a]
        simp only [hc, h3, h4, h5]
        rfl
theorem px_Lr.cong {f g : Value → Value} {ls : Array Slot} {nL : Nat} {L : List Value} (h : px_Lr f ls nL L) (hfg : ∀ v ∈ L, f v = g v) : px_Lr g ls nL L :=
  ⟨h.1, h.2.1, h.2.2.1, fun i v h1 h2 => by rw [← hfg v (List.mem_of_getElem? h1)]; exact h.2.2.2 i v h1 h2⟩
/-- the cells -/
def px_fv (ad : Nat → Nat) (t : Nat) (rs : List (Option Nat)) (dk : Nat → Int32) (j : Nat) : Value := if px_kind t j < 2 then .int (dk j) else (match rs.getD j none with | some r => .ref (ad r) | none => .null)
def px_cell (tc : Nat → ClassId) (ad : Nat → Nat) (s : px_S) (dk : Nat → Int32) (ek : Nat → Int64) : va_E :=
  if s.1 < 100 then .inr (s.1, (List.range s.2.1).map (px_fv ad s.1 s.2.2 dk))
  else if s.1 = 100 then .inl (tc 0, s.2.1, .inl dk)
  else if s.1 = 101 then .inl (tc 1, s.2.1, .inl dk)
  else if s.1 = 102 then .inl (tc 2, s.2.1, .inr (.inl ek))
  else .inl (tc 3, s.2.1, .inr (.inr (.inr (.inr fun j => (s.2.2.getD j none).map ad))))
def px_w (tc : Nat → ClassId) (ad : Nat → Nat) (h : px_H) : va_W := h.1.zipIdx.map fun q => (ad q.2, px_cell tc ad q.1 (h.2.1 q.2) (h.2.2 q.2))
theorem px_w_get (tc : Nat → ClassId) (ad : Nat → Nat) (h : px_H) (k : Nat) : (px_w tc ad h)[k]? = (h.1[k]?).map fun s => (ad k, px_cell tc ad s (h.2.1 k) (h.2.2 k)) := by
  simp only [px_w, List.getElem?_map, List.getElem?_zipIdx, Option.map_map]
  cases h.1[k]? <;> simp
theorem px_w_at {tc : Nat → ClassId} {ad : Nat → Nat} {h : px_H} {k : Nat} {s : px_S} (hk : h.1[k]? = some s) : (px_w tc ad h)[k]? = some (ad k, px_cell tc ad s (h.2.1 k) (h.2.2 k)) := by
  rw [px_w_get, hk]; rfl
theorem px_w_set {tc : Nat → ClassId} {ad : Nat → Nat} {h h' : px_H} {k : Nat} {s s' : px_S} (hk : h.1[k]? = some s) (hG : h'.1 = h.1.set k s') (hd : ∀ j, j ≠ k → h'.2.1 j = h.2.1 j) (he : ∀ j, j ≠ k → h'.2.2 j = h.2.2 j) {e : va_E} (hc : px_cell tc ad s' (h'.2.1 k) (h'.2.2 k) = e) : (px_w tc ad h).set k (ad k, e) = px_w tc ad h' := by
  subst hc
  have hl := (List.getElem?_eq_some_iff.mp hk).1
  apply List.ext_getElem?
  intro j
  rw [px_w_get, hG, List.getElem?_set, List.getElem?_set, px_w_get]
  by_cases hj : k = j
  · subst hj
    rw [if_pos rfl, if_pos rfl]
    have : (px_w tc ad h).length = h.1.length := by simp [px_w]
    rw [this, if_pos hl, if_pos hl]; rfl
  · rw [if_neg hj, if_neg hj, hd j (fun q => hj q.symm), he j (fun q => hj q.symm)]
theorem px_set_same {α : Type} {l : List α} {k : Nat} {x : α} (h : l[k]? = some x) : l = l.set k x := by
  apply List.ext_getElem?
  intro j
  rw [List.getElem?_set]
  by_cases hj : k = j
  · subst hj; rw [if_pos rfl, if_pos (List.getElem?_eq_some_iff.mp h).1]; exact h
  · rw [if_neg hj]
/-- a new cell at the end -/
theorem px_w_push {tc : Nat → ClassId} {ad : Nat → Nat} {h h' : px_H} {s' : px_S} {q : Nat} (hG : h'.1 = h.1 ++ [s']) (hd : ∀ j, j < h.1.length → h'.2.1 j = h.2.1 j) (he : ∀ j, j < h.1.length → h'.2.2 j = h.2.2 j) (hok : h.1.all (px_rok h.1.length) = true)
    {e : va_E} (hc : px_cell tc (fun i => if i = h.1.length then q else ad i) s' (h'.2.1 h.1.length) (h'.2.2 h.1.length) = e) : px_w tc ad h ++ [(q, e)] = px_w tc (fun i => if i = h.1.length then q else ad i) h' := by
  subst hc
  apply List.ext_getElem?
  intro j
  have hlen : (px_w tc ad h).length = h.1.length := by simp [px_w]
  rw [px_w_get, hG]
  by_cases hj : j < h.1.length
  · rw [List.getElem?_append_left (by omega), List.getElem?_append_left hj, px_w_get, hd j hj, he j hj]
    cases hs : h.1[j]? with
    | none => rfl
    | some s =>
      have hn : ¬ j = h.1.length := by omega
      have hr := List.all_eq_true.mp hok s (List.mem_of_getElem? hs)
      have hr2 : ∀ (i : Nat) (r : Nat), s.2.2.getD i none = some r → r < h.1.length := by
        intro i r hi
        rw [List.getD_eq_getElem?_getD] at hi
        cases hx : s.2.2[i]? with
        | none => rw [hx] at hi; cases hi
        | some y =>
          rw [hx] at hi
          have hy : y = some r := hi
          subst hy
          have := List.all_eq_true.mp hr (some r) (List.mem_of_getElem? hx)
          simpa using this
      have key : px_cell tc ad s (h.2.1 j) (h.2.2 j) = px_cell tc (fun i => if i = h.1.length then q else ad i) s (h.2.1 j) (h.2.2 j) := by
        unfold px_cell
        have e1 : ∀ i, px_fv ad s.1 s.2.2 (h.2.1 j) i = px_fv (fun i => if i = h.1.length then q else ad i) s.1 s.2.2 (h.2.1 j) i := by
          intro i
          unfold px_fv
          cases hx : s.2.2.getD i none with
          | none => rfl
          | some r =>
            have := hr2 i r hx
            have h2 : ¬ r = h.1.length := by omega
            simp only [if_neg h2]
        have e2 : (fun j => (s.2.2.getD j none).map ad) = (fun j => (s.2.2.getD j none).map (fun i => if i = h.1.length then q else ad i)) := by
          funext i
          cases hx : s.2.2.getD i none with
          | none => rfl
          | some r =>
            have := hr2 i r hx
            have h2 : ¬ r = h.1.length := by omega
            simp only [Option.map_some, if_neg h2]
        rw [show px_fv ad s.1 s.2.2 (h.2.1 j) = px_fv (fun i => if i = h.1.length then q else ad i) s.1 s.2.2 (h.2.1 j) from funext e1, e2]
      simp only [Option.map_some, if_neg hn, key]
  · rw [List.getElem?_append_right (by omega), List.getElem?_append_right (by omega), hlen]
    by_cases hj2 : j = h.1.length
    · subst hj2
      rw [Nat.sub_self]
      simp
    · have : 1 ≤ j - h.1.length := by omega
      rw [List.getElem?_eq_none (by simpa using this), List.getElem?_eq_none (by simpa using this)]
      rfl
end
section
/-! WHAT LIES OUTSIDE: strings, static arrays, the script; and what holds all through a method. -/
def px_tys (tc : Nat → ClassId) : List (ClassId × FieldType) := [(tc 0, .int), (tc 1, .boolean), (tc 2, .long), (tc 3, .object "LightAlong$Shelf")]
def px_Ex (ad : Nat → Nat) (z : Value) (X : px_X) (A : Nat → Prop) (U : State) (H : Heap) : Prop :=
  (∀ w ∈ px_Tn, va_Nw w U) ∧ va_AO "LightAlong$Shelf" U ∧ z.category = 1 ∧ vk_S 11 px_wl px_wb (fun i => ad (1000 + i)) (fun i => ad (1100 + i)) A U H ∧
  (∀ i, i < 11 → vk_R "LightAlong" (350 + 2 * i) (px_tx i) (ad (1000 + i)) U) ∧
  (∀ (q n : Nat) (f : Nat → Int32), px_xa X q = some (n, f) → va_T .int (ad q) n (fun j => .int (f j)) A U H) ∧
  (∀ a, a < 4 → va_Z (px_sn a).1 (px_sn a).2.1 (px_sn a).2.2 (.ref (ad (1200 + a))) A U H) ∧
  va_Z (px_sn 4).1 (px_sn 4).2.1 (px_sn 4).2.2 (.int 1) A U H ∧ va_Z (px_sn 5).1 (px_sn 5).2.1 (px_sn 5).2.2 z A U H
theorem px_Tn_kind {w : Cond} (h : w ∈ px_Tn) : px_isN w = true := (List.mem_filter.mp h).2
theorem px_Nw_warm {w : Cond} (hw : px_isN w = true) {s U : State} (hW : s.WarmedH U.vm) (h : va_Nw w s) : va_Nw w U := by
  unfold px_isN at hw
  split at hw
  · exact va_Nw.warmF hW h
  · exact va_Nw.warmM hW h
  · cases hw
theorem px_Nw_same {w : Cond} (hw : px_isN w = true) {s U : State} (hv : s.vm = U.vm) (h : va_Nw w s) : va_Nw w U := by
  unfold px_isN at hw
  split at hw
  · exact va_Nw.same rfl hv h
  · exact va_Nw.same rfl hv h
  · cases hw
theorem px_Nw_use {w : Cond} (hw : px_isN w = true) {A : Array Value} {U : State} (h : va_Nw w U) : w.before A U = true := by
  unfold px_isN at hw
  split at hw
  · exact va_Nw.use rfl h
  · exact va_Nw.use rfl h
  · cases hw
/-- the outside at a later state and heap, for fewer cells that may change -/
theorem px_Ex.move {ad : Nat → Nat} {z : Value} {X : px_X} {A B : Nat → Prop} {s U : State} {H H1 : Heap} (h : px_Ex ad z X A s H) (hW : s.WarmedH U.vm) (hq : ∀ a : Nat, a < H.size → ¬ A a → H1[a]? = H[a]?) (hAB : ∀ q, B q → A q) : px_Ex ad z X B U H1 := by
  obtain ⟨h1, h2, h3, h4, h5, h6, h7, h8, h9⟩ := h
  exact ⟨fun w hw => px_Nw_warm (px_Tn_kind hw) hW (h1 w hw), h2.moved hW.alike, h3, ((h4.moved hW.alike).kept hq).narrow hAB, fun i hi => (h5 i hi).warm hW,
    fun q n f hx => (((h6 q n f hx).moved hW.alike).kept hq).narrow hAB, fun a ha => (((h7 a ha).moved hW.alike).kept hq).narrow hAB, ((h8.moved hW.alike).kept hq).narrow hAB, ((h9.moved hW.alike).kept hq).narrow hAB⟩
theorem px_Ex.same {ad : Nat → Nat} {z : Value} {X : px_X} {A : Nat → Prop} {s U : State} {H : Heap} (h : px_Ex ad z X A s H) (hv : s.vm = U.vm) : px_Ex ad z X A U H := by
  have hal : s.vm.Alike U.vm := by rw [hv]; exact Vm.Alike.refl U.vm
  obtain ⟨h1, h2, h3, h4, h5, h6, h7, h8, h9⟩ := h
  exact ⟨fun w hw => px_Nw_same (px_Tn_kind hw) hv (h1 w hw), h2.moved hal, h3, h4.moved hal, fun i hi => (h5 i hi).same hv.symm,
    fun q n f hx => (h6 q n f hx).moved hal, fun a ha => (h7 a ha).moved hal, h8.moved hal, h9.moved hal⟩
theorem px_xa_far {X : px_X} {q n : Nat} {f : Nat → Int32} (h : px_xa X q = some (n, f)) : 1000 ≤ q := by
  unfold px_xa at h
  split at h
  · omega
  · split at h
    · cases h
    · omega
theorem px_Ex.ad {ad ad' : Nat → Nat} {z : Value} {X : px_X} {A : Nat → Prop} {s : State} {H : Heap} (h : px_Ex ad z X A s H) (ha : ∀ i, 1000 ≤ i → ad' i = ad i) : px_Ex ad' z X A s H := by
  obtain ⟨h1, h2, h3, h4, h5, h6, h7, h8, h9⟩ := h
  refine ⟨h1, h2, h3, ?_, fun i hi => by rw [ha _ (by omega)]; exact h5 i hi, fun q n f hx => by rw [ha _ (px_xa_far hx)]; exact h6 q n f hx, fun a hl => by rw [ha _ (by omega)]; exact h7 a hl, h8, h9⟩
  rw [show (fun i => ad' (1000 + i)) = (fun i => ad (1000 + i)) from funext fun i => ha _ (by omega), show (fun i => ad' (1100 + i)) = (fun i => ad (1100 + i)) from funext fun i => ha _ (by omega)]
  exact h4
/-- what holds all through a method's run -/
def px_Cx (D : va_G) (tc : Nat → ClassId) (X : px_X) (z : Value) (A : Nat → Prop) (ad : Nat → Nat) (k : Nat) (p : Program) (R : Room) (s : State) (m : MethodId) (args : Array Value) (meth : Method) (c : Code) : Prop :=
  p.tables.exec = Jvm.exec ∧ c.code = px_b k ∧ c.maxLocals = px_mx k ∧ s.vm.findClass (px_own k) = some m.cls ∧ (∀ w ∈ px_Ts, w.before args s = true) ∧ va_K D vwCl (px_tys tc) s ∧ (∀ q : Nat, s.heap.size ≤ q → A q) ∧ px_Ex ad z X A s s.heap ∧ (0 < px_ini k → meth.name = "<init>" ∧ px_ini k = px_cn k + 1) ∧ px_fr k ≤ R.frames ∧ px_lo k ≤ R.locals
/-- what holds at each point of it -/
def px_Zr (D : va_G) (tc : Nat → ClassId) (z : Value) (A : Nat → Prop) (ad0 : Nat → Nat) (n0 k : Nat) (R : Room) (s : State) (ad : Nat → Nat) (h : px_H) (ls : Array Slot) (L : List Value) (cells slots : Nat) (rem : Nat × Nat) (H : Heap) (locs : List Loc) : Prop :=
  va_P D vwCl (px_w tc ad h) H ∧ va_D A (px_w tc ad h) ∧ va_S A s.heap H locs ∧ px_Lr (px_rl ad z) ls (px_mx k) L ∧ cells + rem.1 ≤ R.cells ∧ slots + rem.2 ≤ R.slots ∧ n0 ≤ h.1.length ∧ ∀ i, ¬ (n0 ≤ i ∧ i < h.1.length) → ad i = ad0 i
theorem px_cl_at {ci : Nat} (h : ci < 9) : vwCl[ci]? = some (px_cl ci, px_T ci, px_nf ci) := by
  rcases (show ci = 0 ∨ ci = 1 ∨ ci = 2 ∨ ci = 3 ∨ ci = 4 ∨ ci = 5 ∨ ci = 6 ∨ ci = 7 ∨ ci = 8 by omega) with rfl | rfl | rfl | rfl | rfl | rfl | rfl | rfl | rfl <;> rfl
set_option maxRecDepth 100000 in
theorem px_ws_in {ci : Nat} (h : ci < 9) : ∀ w ∈ u_ws (px_cl ci) (px_T ci) (px_nf ci), w ∈ px_Ts := by
  have key : ∀ w ∈ u_ws (px_cl ci) (px_T ci) (px_nf ci), w ∈ lw_tbl ∧ goodWord w = true := by
    rcases (show ci = 0 ∨ ci = 1 ∨ ci = 2 ∨ ci = 3 ∨ ci = 4 ∨ ci = 5 ∨ ci = 6 ∨ ci = 7 ∨ ci = 8 by omega) with rfl | rfl | rfl | rfl | rfl | rfl | rfl | rfl | rfl <;> decide +kernel
  exact fun w hw => List.mem_filter.mpr (key w hw)
theorem px_ty_ok {ci : Nat} (h : ci < 9) : ∀ k, k < px_nf ci → parseFieldDescriptor (px_T ci k).2.2.1 = some (px_ty ci k) := by
  rcases (show ci = 0 ∨ ci = 1 ∨ ci = 2 ∨ ci = 3 ∨ ci = 4 ∨ ci = 5 ∨ ci = 6 ∨ ci = 7 ∨ ci = 8 by omega) with rfl | rfl | rfl | rfl | rfl | rfl | rfl | rfl | rfl <;> decide +kernel
theorem px_nm_ok {ci : Nat} (h : ci < 9) : ∀ a, a < px_nf ci → ∀ b, b < px_nf ci → a ≠ b → (px_T ci a).2.1 ≠ (px_T ci b).2.1 := by
  rcases (show ci = 0 ∨ ci = 1 ∨ ci = 2 ∨ ci = 3 ∨ ci = 4 ∨ ci = 5 ∨ ci = 6 ∨ ci = 7 ∨ ci = 8 by omega) with rfl | rfl | rfl | rfl | rfl | rfl | rfl | rfl | rfl <;> decide +kernel
/-- kinds, finals, declarers of the fields -/
theorem px_fd_ok {ci : Nat} (h : ci < 9) : ∀ k, k < px_nf ci → (px_T ci k).1 = px_cl ci ∧ (px_T ci k).2.2.2 = px_fin ci k ∧ (px_kind ci k = 0 → px_ty ci k = .int) ∧ (px_kind ci k = 1 → px_ty ci k = .boolean) ∧ (¬ px_kind ci k < 2 → px_kind ci k = 2 ∧ fits (px_ty ci k) (.ref 0) = true ∧ narrow (px_ty ci k) .null = .null ∧ defaultValue (px_ty ci k) = .null) := by
  rcases (show ci = 0 ∨ ci = 1 ∨ ci = 2 ∨ ci = 3 ∨ ci = 4 ∨ ci = 5 ∨ ci = 6 ∨ ci = 7 ∨ ci = 8 by omega) with rfl | rfl | rfl | rfl | rfl | rfl | rfl | rfl | rfl <;> decide +kernel
theorem px_fits_ref {t : FieldType} (h : fits t (.ref 0) = true) (a : Nat) : fits t (.ref a) = true := by
  cases t <;> first | rfl | cases h
theorem px_narrow_ref (t : FieldType) (a : Nat) : narrow t (.ref a) = .ref a := by
  cases t <;> rfl
end
section
/-! ONE INSTRUCTION that is neither a call nor a return. -/
section PXS
variable {p : Program} {l : Launch} {e : Env} {R : Room} {s : State} {m : MethodId} {args : Array Value} {below : List Frame} {meth : Method} {c : Code} {H : Heap} {locs : List Loc} {cells slots : Nat} {Q : State → Prop}
variable {D : va_G} {tc : Nat → ClassId} {X : px_X} {z : Value} {A : Nat → Prop} {ad0 ad : Nat → Nat} {n0 k : Nat}
/-- arithmetic of two ints -/
theorem px_go_alu {cc : ByteArray} {pc : Nat} {ls : Array Slot} {rest : List Value} (hx : p.tables.exec = Jvm.exec) (hb : c.code = cc) {i : Instr} {x y w : Int32} (hd : decode cc pc = .ok (i, 1)) (h : px_alu i x y = some w)
    (kk : W p l e R s m args below meth c H locs cells slots Q (F0 m (pc + 1) ls (.int w :: rest))) : W p l e R s m args below meth c H locs cells slots Q (F0 m pc ls (.int y :: .int x :: rest)) := by
  unfold px_alu at h
  split at h
  · cases h; exact lv_iadd hx hb hd kk
  · cases h; exact lv_isub hx hb hd kk
  · cases h; exact lv_imul hx hb hd kk
  · cases h; exact lv_iand hx hb hd kk
  · cases h; exact lv_ior hx hb hd kk
  · cases h; exact lv_ixor hx hb hd kk
  · cases h; exact lv_ishl hx hb hd kk
  · cases h; exact lv_ishr hx hb hd kk
  · cases h; exact lv_iushr hx hb hd rfl kk
  · split at h
    · cases h
    · rename_i h0; cases h; exact lv_idiv hx hb hd h0 kk
  · split at h
    · cases h
    · rename_i h0; cases h; exact lv_irem hx hb hd h0 kk
  · cases h
theorem px_go_une {cc : ByteArray} {pc : Nat} {ls : Array Slot} {rest : List Value} (hx : p.tables.exec = Jvm.exec) (hb : c.code = cc) {i : Instr} {x w : Value} (hd : decode cc pc = .ok (i, 1)) (h : px_une i x = some w)
    (kk : W p l e R s m args below meth c H locs cells slots Q (F0 m (pc + 1) ls (px_rl ad z w :: rest))) : W p l e R s m args below meth c H locs cells slots Q (F0 m pc ls (px_rl ad z x :: rest)) := by
  unfold px_une at h
  split at h
  · split at h
    · cases h; exact lv_ineg hx hb hd kk
    · cases h
  · split at h
    · cases h; exact lv_i2l hx hb hd rfl kk
    · cases h
  · split at h
    · cases h; exact lv_l2i hx hb hd rfl kk
    · cases h
  · split at h
    · cases h; exact lv_i2b hx hb hd rfl kk
    · cases h
  · split at h
    · cases h; exact lv_i2s hx hb hd rfl kk
    · cases h
  · split at h
    · cases h; exact lv_i2c hx hb hd rfl kk
    · cases h
  · cases h
/-- a branch -/
theorem px_go_if {cc : ByteArray} {pc : Nat} {ls : Array Slot} {rest : List Value} (hx : p.tables.exec = Jvm.exec) (hb : c.code = cc) {co : Jvm.ClassFile.Cond} {x : Int32} {off : Int} {tgt : Nat} (hd : decode cc pc = .ok (.ifCond co off, 3)) (ht : (pc : Int) + off = (tgt : Int))
    (kk : W p l e R s m args below meth c H locs cells slots Q (F0 m ((if px_cc co x 0 then some tgt else none).getD (pc + 3)) ls rest)) : W p l e R s m args below meth c H locs cells slots Q (F0 m pc ls (.int x :: rest)) := by
  cases co
  · refine lv_if_eq hx hb hd ht (fun h => ?_) (fun h => ?_) <;> simpa [px_cc, h] using kk
  · refine lv_if_ne hx hb hd ht (fun h => ?_) (fun h => ?_) <;> simpa [px_cc, h] using kk
  · refine lv_if_lt hx hb hd ht (fun h => ?_) (fun h => ?_) <;> simpa [px_cc, h] using kk
  · refine lv_if_ge hx hb hd ht (fun h => ?_) (fun h => ?_) <;> simpa [px_cc, h] using kk
  · refine lv_if_gt hx hb hd ht (fun h => ?_) (fun h => ?_) <;> simpa [px_cc, h] using kk
  · refine lv_if_le hx hb hd ht (fun h => ?_) (fun h => ?_) <;> simpa [px_cc, h] using kk
theorem px_go_icmp {cc : ByteArray} {pc : Nat} {ls : Array Slot} {rest : List Value} (hx : p.tables.exec = Jvm.exec) (hb : c.code = cc) {co : Jvm.ClassFile.Cond} {x y : Int32} {off : Int} {tgt : Nat} (hd : decode cc pc = .ok (.if_icmp co off, 3)) (ht : (pc : Int) + off = (tgt : Int))
    (kk : W p l e R s m args below meth c H locs cells slots Q (F0 m ((if px_cc co x y then some tgt else none).getD (pc + 3)) ls rest)) : W p l e R s m args below meth c H locs cells slots Q (F0 m pc ls (.int y :: .int x :: rest)) := by
  cases co
  · refine lv_icmp_eq hx hb hd ht (fun h => ?_) (fun h => ?_) <;> simpa [px_cc, h] using kk
  · refine lv_icmp_ne hx hb hd ht (fun h => ?_) (fun h => ?_) <;> simpa [px_cc, h] using kk
  · refine lv_icmp_lt hx hb hd ht (fun h => ?_) (fun h => ?_) <;> simpa [px_cc, h] using kk
  · refine lv_icmp_ge hx hb hd ht (fun h => ?_) (fun h => ?_) <;> simpa [px_cc, h] using kk
  · refine lv_icmp_gt hx hb hd ht (fun h => ?_) (fun h => ?_) <;> simpa [px_cc, h] using kk
  · refine lv_icmp_le hx hb hd ht (fun h => ?_) (fun h => ?_) <;> simpa [px_cc, h] using kk
theorem px_in_of {j : Int32} {n : Nat} (h : px_in j n = true) : vp_in j n := by
  simp only [px_in, Bool.and_eq_true, Bool.not_eq_true', decide_eq_false_iff_not, decide_eq_true_eq] at h
  rintro (h1 | h1)
  · exact h.1 h1
  · omega
/-- getfield, putfield: what the list of links says -/
theorem px_fl_of {idx a b : Nat} (h : (px_LF.any fun r => decide (r.1 = px_cn k) && decide (r.2.1 = idx) && decide (r.2.2.1 = a) && decide (r.2.2.2.1 = b)) = true) (ha : a < 9) : b < px_nf a ∧ ∃ nest, (¬ nest = 0 → px_cn k ≠ a) ∧ (if nest = 0 then (Cond.fieldLink (px_own k) idx (px_T a b).1 (px_T a b).2.1 (px_T a b).2.2.1) ∈ px_Ts else (Cond.fieldLinkNest (px_own k) idx (px_T a b).1 (px_T a b).2.1 (px_T a b).2.2.1 px_host) ∈ px_Tn) := by
  obtain ⟨r, hr, h⟩ := List.any_eq_true.mp h
  obtain ⟨r1, r2, r3, r4, r5, r6⟩ := r
  simp only [Bool.and_eq_true, decide_eq_true_eq] at h
  obtain ⟨⟨⟨rfl, rfl⟩, rfl⟩, rfl⟩ := h
  have h2 := List.all_eq_true.mp px_LF_ok _ hr
  dsimp only at h2
  rw [if_neg (by omega)] at h2
  simp only [Bool.and_eq_true, decide_eq_true_eq] at h2
  refine ⟨h2.1.2, r5, fun h0 => ?_, ?_⟩
  · have h4 := h2.1.1.1
    rw [Bool.or_eq_true] at h4
    simpa using h4.resolve_left (by simpa using h0)
  have h3 := h2.2
  unfold px_hasB px_fword at h3
  by_cases hn : r5 = 0
  · rw [if_pos hn] at h3 ⊢
    rw [if_pos hn] at h3
    exact px_has_mem h3
  · rw [if_neg hn] at h3 ⊢
    rw [if_neg hn] at h3
    exact px_hasN_mem h3
theorem px_fls_of {idx b : Nat} (h : (px_LF.any fun r => decide (r.1 = px_cn k) && decide (r.2.1 = idx) && decide (r.2.2.1 = 14) && decide (r.2.2.2.1 = b)) = true) : b < 2 ∧ (Cond.fieldLink (px_own k) idx (px_sf b).1 (px_sf b).2.1 (px_sf b).2.2) ∈ px_Ts := by
  obtain ⟨r, hr, h⟩ := List.any_eq_true.mp h
  obtain ⟨r1, r2, r3, r4, r5, r6⟩ := r
  simp only [Bool.and_eq_true, decide_eq_true_eq] at h
  obtain ⟨⟨⟨rfl, rfl⟩, rfl⟩, rfl⟩ := h
  have h2 := List.all_eq_true.mp px_LF_ok _ hr
  dsimp only at h2
  rw [if_pos rfl] at h2
  simp only [Bool.and_eq_true, decide_eq_true_eq] at h2
  have h3 := h2.2
  unfold px_fword at h3
  rw [if_pos rfl] at h3
  exact ⟨h2.1.1, px_has_mem h3⟩
/-- reading a field of a cell -/
theorem px_go_get {pc : Nat} {ls : Array Slot} {rest : List Value} {h : px_H} {idx a b q n : Nat} {rs : List (Option Nat)} (C : px_Cx D tc X z A ad0 k p R s m args meth c) (hP : va_P D vwCl (px_w tc ad h) H) (hd : decode (px_b k) pc = .ok (.getfield idx, 3))
    (hl : (px_LF.any fun r => decide (r.1 = px_cn k) && decide (r.2.1 = idx) && decide (r.2.2.1 = a) && decide (r.2.2.2.1 = b)) = true) (hq : h.1[q]? = some (a, n, rs)) (h9 : a < 9) (hbn : b < n) (hn : n = px_nf a)
    (kk : W p l e R s m args below meth c H locs cells slots Q (F0 m (pc + 3) ls (px_fv ad a rs (h.2.1 q) b :: rest))) : W p l e R s m args below meth c H locs cells slots Q (F0 m pc ls (.ref (ad q) :: rest)) := by
  obtain ⟨hx, hb, hml, hown, hts, hK, hA, hE, hi, hfr, hlo⟩ := C
  obtain ⟨-, nest, hne, hw⟩ := px_fl_of hl h9
  have he := px_w_at (tc := tc) (ad := ad) hq
  unfold px_cell at he
  rw [if_pos (show (a, n, rs).1 < 100 by show a < 100; omega)] at he
  dsimp only at he
  subst hn
  have hv : ((List.range (px_nf a)).map (px_fv ad a rs (h.2.1 q)))[b]? = some (px_fv ad a rs (h.2.1 q) b) := by
    rw [List.getElem?_map, List.getElem?_range hbn]; rfl
  by_cases h0 : nest = 0
  · rw [if_pos h0] at hw
    exact va_get hx hb hts (px_ws_in h9) hown hK hP q he (px_cl_at h9) b hbn (hts _ hw) (fun _ h => h) hv hd kk
  · rw [if_neg h0] at hw
    exact va_getN hx hb hts (px_ws_in h9) hown hK hP q he (px_cl_at h9) b hbn (px_Nw_use rfl (hE.1 _ hw)) (fun _ h => h) hv hd kk
/-- writing one -/
theorem px_go_put {pc : Nat} {ls : Array Slot} {rest : List Value} {h : px_H} {idx a b q n : Nat} {rs : List (Option Nat)} {v : Value} (C : px_Cx D tc X z A ad0 k p R s m args meth c) (hP : va_P D vwCl (px_w tc ad h) H) (hD : va_D A (px_w tc ad h)) (hS : va_S A s.heap H locs) (hd : decode (px_b k) pc = .ok (.putfield idx, 3))
    (hl : (px_LF.any fun r => decide (r.1 = px_cn k) && decide (r.2.1 = idx) && decide (r.2.2.1 = a) && decide (r.2.2.2.1 = b)) = true) (hq : h.1[q]? = some (a, n, rs)) (h9 : a < 9) (hbn : b < n) (hn : n = px_nf a) (hfin : px_fin a b = false ∨ px_ini k = a + 1) (hnv : narrow (px_ty a b) v = v) (hfv : fits (px_ty a b) v = true)
    (kk : ∀ (H1 : Heap) (locs1 : List Loc), va_P D vwCl ((px_w tc ad h).set q (ad q, .inr (a, ((List.range n).map (px_fv ad a rs (h.2.1 q))).set b v))) H1 → va_D A ((px_w tc ad h).set q (ad q, .inr (a, ((List.range n).map (px_fv ad a rs (h.2.1 q))).set b v))) → va_S A s.heap H1 locs1 → W p l e R s m args below meth c H1 locs1 cells slots Q (F0 m (pc + 3) ls rest)) : W p l e R s m args below meth c H locs cells slots Q (F0 m pc ls (v :: .ref (ad q) :: rest)) := by
  obtain ⟨hx, hb, hml, hown, hts, hK, hA, hE, hi, hfr, hlo⟩ := C
  obtain ⟨-, nest, hne, hw⟩ := px_fl_of hl h9
  have he := px_w_at (tc := tc) (ad := ad) hq
  unfold px_cell at he
  rw [if_pos (show (a, n, rs).1 < 100 by show a < 100; omega)] at he
  dsimp only at he
  subst hn
  have hlen : b < ((List.range (px_nf a)).map (px_fv ad a rs (h.2.1 q))).length := by simpa using hbn
  have hf := px_fd_ok h9 b hbn
  by_cases hff : px_fin a b = false
  · by_cases h0 : nest = 0
    · rw [if_pos h0] at hw
      exact va_put hx hb hts (px_ws_in h9) (px_ty a) (px_ty_ok h9) (px_nm_ok h9) hown hK hP hD hS q he (px_cl_at h9) b hbn (hts _ hw) (fun _ h => h) (hf.2.1.trans hff) (px_ty_ok h9 b hbn) hnv hfv hlen hd kk
    · rw [if_neg h0] at hw
      exact va_putN hx hb hts (px_ws_in h9) (px_ty a) (px_ty_ok h9) (px_nm_ok h9) hown hK hP hD hS q he (px_cl_at h9) b hbn (px_Nw_use rfl (hE.1 _ hw)) (fun _ h => h) (hf.2.1.trans hff) (px_ty_ok h9 b hbn) hnv hfv hlen hd kk
  · have hini : px_ini k = a + 1 := hfin.resolve_left hff
    obtain ⟨hnm, hcn⟩ := hi (by omega)
    have hca : a = px_cn k := by omega
    have hft : (px_T a b).2.2.2 = true := by rw [hf.2.1]; simpa using hff
    have hdec : (px_T a b).1 = px_own k := by rw [hf.1, hca]; rfl
    by_cases h0 : nest = 0
    · rw [if_pos h0] at hw
      exact va_putF hx hb hts (px_ws_in h9) (px_ty a) (px_ty_ok h9) (px_nm_ok h9) hown hK hP hD hS q he (px_cl_at h9) b hbn (hts _ hw) (fun _ h => h) hft hnm hdec (px_ty_ok h9 b hbn) hnv hfv hlen hd kk
    · exact absurd hca.symm (hne h0)
end PXS
end
section
section PXW
variable {p : Program} {l : Launch} {e : Env} {R : Room} {s : State} {m : MethodId} {args : Array Value} {below : List Frame} {meth : Method} {c : Code} {Q : State → Prop}
variable {D : va_G} {tc : Nat → ClassId} {X : px_X} {z : Value} {A : Nat → Prop} {ad0 : Nat → Nat} {n0 k : Nat}
theorem px_ca_of {t : ClassId} {ty : FieldType} {tys : List (ClassId × FieldType)} {U : State} {cA : ClassId} (hK : va_K D vwCl (tys ++ [(cA, ty)]) U) {i : Nat} (ht : tys[i]? = some (t, ty)) : cA = t := by
  have h1 := hK.2 i (t, ty) (by rw [List.getElem?_append_left (List.getElem?_eq_some_iff.mp ht).1]; exact ht)
  have h2 := hK.2 tys.length (cA, ty) (by simp)
  have f1 := h1.2
  have f2 := h2.2
  cases ty with
  | object C =>
    obtain ⟨_, _, _, _, _, a1⟩ := f1
    obtain ⟨_, _, _, _, _, a2⟩ := f2
    exact Option.some.inj (a2.symm.trans a1)
  | _ => exact Option.some.inj (Eq.trans (Eq.symm f2) f1)
theorem px_zero_cell {ty : FieldType} (t : Nat) (h : (t = 100 ∧ ty = .int) ∨ (t = 101 ∧ ty = .boolean) ∨ (t = 102 ∧ ty = .long)) (N : Nat) (ad : Nat → Nat) (tc : Nat → ClassId) : ∃ (i : Nat) (a0 : vp_A), (px_tys tc)[i]? = some (tc i, ty) ∧ px_cell tc ad (t, N, []) (fun _ => 0) (fun _ => 0) = .inl (tc i, a0) ∧ (∀ cA : ClassId, vp_cell cA a0 = arrV cA N (fun _ => defaultValue ty)) ∧ componentBytes ty ≤ 8 := by
  rcases h with ⟨rfl, rfl⟩ | ⟨rfl, rfl⟩ | ⟨rfl, rfl⟩
  · exact ⟨0, (N, .inl (fun _ => 0)), rfl, rfl, fun cA => rfl, by decide⟩
  · exact ⟨1, (N, .inl (fun _ => 0)), rfl, rfl, fun cA => rfl, by decide⟩
  · exact ⟨2, (N, .inr (.inl (fun _ => 0))), rfl, rfl, fun cA => rfl, by decide⟩
theorem px_rl_cong {ad ad' : Nat → Nat} {n : Nat} (h : ∀ i, (i < n ∨ 1000 ≤ i) → ad' i = ad i) {v : Value} (hv : px_vok n v = true) : px_rl ad z v = px_rl ad' z v := by
  cases v with
  | ref r =>
    simp only [px_vok, Bool.or_eq_true, decide_eq_true_eq] at hv
    show Value.ref (ad r) = Value.ref (ad' r)
    rw [h r hv]
  | _ => rfl
/-- the relation behind a new cell -/
theorem px_Zr_push {ad : Nat → Nat} {h h' : px_H} {ls : Array Slot} {L st : List Value} {cells slots : Nat} {rem : Nat × Nat} {H H1 : Heap} {locs : List Loc} {q n : Nat} {s' : px_S} {e : va_E}
    (Z : px_Zr D tc z A ad0 n0 k R s ad h ls L cells slots rem H locs) (ht : px_tidy h.1 L st = true) (hG : h'.1 = h.1 ++ [s']) (hd : ∀ j, j < h.1.length → h'.2.1 j = h.2.1 j) (he : ∀ j, j < h.1.length → h'.2.2 j = h.2.2 j)
    (hc : px_cell tc (fun i => if i = h.1.length then q else ad i) s' (h'.2.1 h.1.length) (h'.2.2 h.1.length) = e) (hP : va_P D vwCl (px_w tc ad h ++ [(q, e)]) H1) (hD : va_D A (px_w tc ad h ++ [(q, e)])) (hS : va_S A s.heap H1 locs) (h1 : 1 ≤ rem.1) (h2 : n ≤ rem.2) :
    px_Zr D tc z A ad0 n0 k R s (fun i => if i = h.1.length then q else ad i) h' ls L (cells + 1) (slots + n) (rem.1 - 1, rem.2 - n) H1 locs ∧ st.map (px_rl ad z) = st.map (px_rl (fun i => if i = h.1.length then q else ad i) z) := by
  obtain ⟨-, -, -, hL, hc1, hs1, hn0, hag⟩ := Z
  simp only [px_tidy, Bool.and_eq_true, decide_eq_true_eq] at ht
  obtain ⟨⟨⟨t1, t2⟩, t3⟩, t4⟩ := ht
  have hw := px_w_push (tc := tc) (ad := ad) (h := h) (h' := h') (s' := s') (q := q) hG hd he t4 hc
  have hag2 : ∀ i, (i < h.1.length ∨ 1000 ≤ i) → (fun i => if i = h.1.length then q else ad i) i = ad i := fun i hi => by
    have : ¬ i = h.1.length := by omega
    simp only [if_neg this]
  have hlen : h'.1.length = h.1.length + 1 := by rw [hG]; simp
  refine ⟨⟨by rw [← hw]; exact hP, by rw [← hw]; exact hD, hS, hL.cong (fun v hv => px_rl_cong hag2 (List.all_eq_true.mp t2 v hv)), by simp only []; omega, by simp only []; omega, by omega, fun i hi => ?_⟩, ?_⟩
  · have hne : ¬ i = h.1.length := by omega
    simp only [if_neg hne]
    exact hag i (by omega)
  · exact List.map_congr_left (fun v hv => px_rl_cong hag2 (List.all_eq_true.mp t3 v hv))
theorem px_alu_len {i : Instr} {x y w : Int32} (h : px_alu i x y = some w) : px_len i = 1 := by
  unfold px_alu at h
  split at h <;> first | rfl | cases h
theorem px_une_len {i : Instr} {x w : Value} (h : px_une i x = some w) : px_len i = 1 := by
  unfold px_une at h
  split at h <;> first | rfl | cases h
theorem px_nf_lt {t b : Nat} (h : b < px_nf t) : t < 9 := by
  unfold px_nf at h
  rcases Nat.lt_or_ge t 9 with h9 | h9
  · exact h9
  · have : px_kinds[t]? = none := List.getElem?_eq_none h9
    rw [this] at h
    exact absurd h (Nat.not_lt_zero _)
theorem px_and1 {y : Int32} (h : y &&& 1 = y) : y = 0 ∨ y = 1 := by
  have h2 : y.toBitVec &&& 1#32 = y.toBitVec := by
    have := congrArg Int32.toBitVec h
    simpa using this
  have h3 : y.toBitVec = 0#32 ∨ y.toBitVec = 1#32 := by
    generalize y.toBitVec = w at h2 ⊢
    by_cases hw : w.getLsbD 0
    · right
      apply BitVec.eq_of_getLsbD_eq
      intro i hi
      have := congrArg (fun q => q.getLsbD i) h2
      simp only [BitVec.getLsbD_and] at this
      rw [← this]
      by_cases h0 : i = 0
      · subst h0; rw [hw]; rfl
      · simp [BitVec.getLsbD_one, h0]
    · left
      apply BitVec.eq_of_getLsbD_eq
      intro i hi
      have := congrArg (fun q => q.getLsbD i) h2
      simp only [BitVec.getLsbD_and] at this
      rw [← this]
      by_cases h0 : i = 0
      · subst h0; simp at hw; simp [hw]
      · simp [BitVec.getLsbD_one, h0]
  rcases h3 with h3 | h3
  · exact Or.inl (Int32.toBitVec_inj.mp h3)
  · exact Or.inr (Int32.toBitVec_inj.mp h3)
theorem px_far_e (q : Nat) (h : ¬ q < 1000) (h2 : q < 1011) : 1000 + (q - 1000) = q ∧ 1100 + (q - 1000) = q + 100 ∧ q - 1000 < 11 ∧ 1000 ≤ q ∧ 1000 ≤ q + 100 := by omega
theorem px_far_f (q : Nat) (h : ¬ q < 1100) {n : Nat} (h2 : px_wl[q - 1100]? = some n) : q - 1100 < 11 ∧ 1100 + (q - 1100) = q ∧ 1000 ≤ q := by
  have := (List.getElem?_eq_some_iff.mp h2).1
  have h3 : px_wl.length = 11 := rfl
  omega
theorem px_arr_cell {tc : Nat → ClassId} {ad : Nat → Nat} {t n : Nat} {rs : List (Option Nat)} {dk : Nat → Int32} {ek : Nat → Int64} (ht : 100 ≤ t) : ∃ (i : Nat) (ty : FieldType) (x : vp_A), px_cell tc ad (t, n, rs) dk ek = .inl (tc i, x) ∧ (px_tys tc)[i]? = some (tc i, ty) ∧ x.1 = n := by
  unfold px_cell
  rw [if_neg (show ¬ t < 100 by omega)]
  by_cases h0 : t = 100
  · exact ⟨0, _, _, if_pos h0, rfl, rfl⟩
  · rw [if_neg (show ¬ t = 100 from h0)]
    by_cases h1 : t = 101
    · exact ⟨1, _, _, if_pos h1, rfl, rfl⟩
    · rw [if_neg (show ¬ t = 101 from h1)]
      by_cases h2 : t = 102
      · exact ⟨2, _, _, if_pos h2, rfl, rfl⟩
      · rw [if_neg (show ¬ t = 102 from h2)]
        exact ⟨3, _, _, rfl, rfl, rfl⟩
theorem px_fv_set {ad : Nat → Nat} {t n b : Nat} {rs : List (Option Nat)} {dk : Nat → Int32} {y : Int32} (hb : b < n) (hk : px_kind t b < 2) : (List.range n).map (px_fv ad t rs (upd dk b y)) = ((List.range n).map (px_fv ad t rs dk)).set b (.int y) := by
  apply List.ext_getElem?
  intro j
  rw [List.getElem?_set]
  by_cases hj : b = j
  · subst hj
    rw [if_pos rfl, if_pos (by simpa using hb), List.getElem?_map, List.getElem?_range hb]
    show some _ = some _
    unfold px_fv upd
    rw [if_pos hk, if_pos rfl]
  · rw [if_neg hj, List.getElem?_map, List.getElem?_map]
    rcases Nat.lt_or_ge j n with hjn | hjn
    · rw [List.getElem?_range hjn]
      show some _ = some _
      have hjb : ¬ j = b := fun q => hj q.symm
      unfold px_fv upd
      simp only [if_neg hjb]
    · rw [List.getElem?_eq_none (by simpa using hjn)]
      rfl
theorem px_fv_setR {ad : Nat → Nat} {t n b r : Nat} {rs : List (Option Nat)} {dk : Nat → Int32} (hb : b < n) (hk : ¬ px_kind t b < 2) (hl : b < rs.length) : (List.range n).map (px_fv ad t (rs.set b (some r)) dk) = ((List.range n).map (px_fv ad t rs dk)).set b (.ref (ad r)) := by
  apply List.ext_getElem?
  intro j
  rw [List.getElem?_set]
  by_cases hj : b = j
  · subst hj
    rw [if_pos rfl, if_pos (by simpa using hb), List.getElem?_map, List.getElem?_range hb]
    show some _ = some _
    unfold px_fv
    rw [if_neg hk, List.getD_eq_getElem?_getD, List.getElem?_set_self hl]
    rfl
  · rw [if_neg hj, List.getElem?_map, List.getElem?_map]
    rcases Nat.lt_or_ge j n with hjn | hjn
    · rw [List.getElem?_range hjn]
      show some _ = some _
      unfold px_fv
      rw [List.getD_eq_getElem?_getD, List.getD_eq_getElem?_getD, List.getElem?_set_ne hj]
    · rw [List.getElem?_eq_none (by simpa using hjn)]
      rfl
theorem px_lk_of {k idx a : Nat} {v : Int32} (h : (px_LK.any fun r => decide (r.1 = px_cn k) && decide (r.2.1 = idx) && decide (r.2.2.1 = a) && decide (r.2.2.2.1 = v) && decide (r.1 ≠ 9)) = true) : (¬ 1000 ≤ a → Cond.constant (px_own k) idx v ∈ px_Ts) ∧ (1000 ≤ a → px_own k = "LightAlong" ∧ a < 1011 ∧ idx = 350 + 2 * (a - 1000)) := by
  obtain ⟨r, hr, h⟩ := List.any_eq_true.mp h
  obtain ⟨r1, r2, r3, r4, r5⟩ := r
  simp only [Bool.and_eq_true, decide_eq_true_eq] at h
  obtain ⟨⟨⟨⟨rfl, rfl⟩, rfl⟩, rfl⟩, h9⟩ := h
  have h2 := List.all_eq_true.mp px_LK_ok _ hr
  dsimp only at h2
  rw [Bool.or_eq_true] at h2
  have h3 := h2.resolve_left (by simpa using h9)
  refine ⟨fun ha => ?_, fun ha => ?_⟩
  · rw [if_neg ha] at h3
    exact px_has_mem h3
  · rw [if_pos ha] at h3
    simp only [Bool.and_eq_true, decide_eq_true_eq] at h3
    refine ⟨?_, h3.1.2, h3.2⟩
    unfold px_own
    rw [h3.1.1]; rfl
theorem px_ls_of {k idx a : Nat} (h : (px_LS.any fun r => decide (r.1 = px_cn k) && decide (r.2.1 = idx) && decide (r.2.2.1 = a)) = true) : if px_sq a = 0 then Cond.fieldLink (px_own k) idx (px_sn a).1 (px_sn a).2.1 (px_sn a).2.2 ∈ px_Ts else Cond.fieldLinkNest (px_own k) idx (px_sn a).1 (px_sn a).2.1 (px_sn a).2.2 px_host ∈ px_Tn := by
  obtain ⟨r, hr, h⟩ := List.any_eq_true.mp h
  obtain ⟨r1, r2, r3, r4⟩ := r
  simp only [Bool.and_eq_true, decide_eq_true_eq] at h
  obtain ⟨⟨rfl, rfl⟩, rfl⟩ := h
  have h3 := List.all_eq_true.mp px_LS_ok _ hr
  dsimp only at h3
  unfold px_hasB px_fword at h3
  by_cases hn : px_sq r3 = 0
  · rw [if_pos hn] at h3 ⊢
    rw [if_pos hn] at h3
    exact px_has_mem h3
  · rw [if_neg hn] at h3 ⊢
    rw [if_neg hn] at h3
    exact px_hasN_mem h3
theorem px_ln_of {k idx a : Nat} (h : (px_LN.any fun r => decide (r.1 = px_cn k) && decide (r.2.1 = idx) && decide (r.2.2.1 = a)) = true) : Cond.classLink (px_own k) idx (px_cl a) ∈ px_Ts ∧ Cond.instantiable (px_cl a) (px_nf a) ∈ px_Ts ∧ Cond.initialized (px_cl a) ∈ px_Ts := by
  obtain ⟨r, hr, h⟩ := List.any_eq_true.mp h
  obtain ⟨r1, r2, r3, r4, r5, r6⟩ := r
  simp only [Bool.and_eq_true, decide_eq_true_eq] at h
  obtain ⟨⟨rfl, rfl⟩, rfl⟩ := h
  have h3 := List.all_eq_true.mp px_LN_ok _ hr
  dsimp only at h3
  rw [Bool.and_eq_true] at h3
  have h4 := px_hasL_mem h3.2
  exact ⟨h4 _ (by simp [px_own]), h4 _ (by simp), h4 _ (by simp)⟩
theorem px_la_of {k idx : Nat} (h : (px_LA.any fun r => decide (r.1 = px_cn k) && decide (r.2.1 = idx)) = true) : Cond.classLink (px_own k) idx "LightAlong$Shelf" ∈ px_Ts := by
  obtain ⟨r, hr, h⟩ := List.any_eq_true.mp h
  obtain ⟨r1, r2, r3⟩ := r
  simp only [Bool.and_eq_true, decide_eq_true_eq] at h
  obtain ⟨rfl, rfl⟩ := h
  have h3 := List.all_eq_true.mp px_LA_ok _ hr
  exact px_has_mem h3
theorem px_atag_of {t : ArrayType} {a : Nat} (h : px_atag t = a) (ha : 100 ≤ a) : ∃ ty, newarray.typeOf t = ty ∧ Cond.arrayClass ty ∈ px_Ts ∧ ((a = 100 ∧ ty = .int) ∨ (a = 101 ∧ ty = .boolean) ∨ (a = 102 ∧ ty = .long)) := by
  have hm := px_hasL_mem px_misc_ok
  subst h
  cases t <;> first
    | exact ⟨.int, rfl, hm _ (by simp), Or.inl ⟨rfl, rfl⟩⟩
    | exact ⟨.boolean, rfl, hm _ (by simp), Or.inr (Or.inl ⟨rfl, rfl⟩)⟩
    | exact ⟨.long, rfl, hm _ (by simp), Or.inr (Or.inr ⟨rfl, rfl⟩)⟩
    | exact absurd ha (by decide)
theorem px_ldcwS {cc : ByteArray} {pc : Nat} {ls : Array Slot} {rest : List Value} {H : Heap} {locs : List Loc} {cells slots : Nat} (hexec : p.tables.exec = Jvm.exec) (hb : c.code = cc) {own tx : String} {index q : Nat} (hown : s.vm.findClass own = some m.cls) (hZ : vk_R own index tx q s) (hdg : decode cc pc = .ok (.ldc_w index, 3))
    (k : W p l e R s m args below meth c H locs cells slots Q (F0 m (pc + 3) ls (.ref q :: rest))) : W p l e R s m args below meth c H locs cells slots Q (F0 m pc ls rest) := by
  intro T hT X
  obtain ⟨t, a1, b1⟩ := k T hT X
  refine ⟨t, ?_, b1⟩
  subst hb
  obtain ⟨k, cf, i, a', hk, hcf, hcp, -, hr, hev'⟩ := Cond.stringRef_spec hown hZ.1
  cases hZ.2.symm.trans hev'
  obtain ⟨k', hk', he⟩ := X.warmed.alike.2.2 _ _ hk
  have hr' : k'.resolved[index]? = some (some (.string q)) := by
    rcases X.warmed.entry hk hk' index with h | ⟨h, -⟩
    · rw [h]; exact hr
    · rw [hr] at h; cases h
  jvm_step X.here [hexec, hdg, ldc_w.wp_string (e := e) (s := T) (f := F0 m pc ls rest) X.here.top hk' (by rw [he]; exact hcf) hcp hr']
  exact a1
set_option maxHeartbeats 8000000 in
set_option maxRecDepth 20000 in
theorem px_stepW {pc n a b : Nat} {i : Instr} {v : Int32} {L st L' st' : List Value} {h h' : px_H} {o : Option Nat} {rem : Nat × Nat} {ad : Nat → Nat} {ls : Array Slot} {H : Heap} {locs : List Loc} {cells slots : Nat}
    (C : px_Cx D tc X z A ad0 k p R s m args meth c) (hc : px_chk k (pc, i, n, a, b, v) = true) (hs : px_step X (px_ini k) rem pc i a b v L st h = some (o, L', st', h')) (hfar : ∀ i, 1000 ≤ i → ad i = ad0 i)
    (Z : px_Zr D tc z A ad0 n0 k R s ad h ls L cells slots rem H locs)
    (kk : ∀ (ad' : Nat → Nat) (ls' : Array Slot) (H' : Heap) (locs' : List Loc) (cells' slots' : Nat), px_Zr D tc z A ad0 n0 k R s ad' h' ls' L' cells' slots' (px_remN rem i a st) H' locs' → (∀ i, 1000 ≤ i → ad' i = ad0 i) → W p l e R s m args below meth c H' locs' cells' slots' Q (F0 m (o.getD (pc + n)) ls' (st'.map (px_rl ad' z)))) :
    W p l e R s m args below meth c H locs cells slots Q (F0 m pc ls (st.map (px_rl ad z))) := by
  have C0 := C
  have Z0 := Z
  obtain ⟨hx, hb, hml, hown, hts, hK, hA, hE, hi, hfr, hlo⟩ := C
  obtain ⟨hP, hD, hS, hL, hc1, hs1, hn0, hag⟩ := Z
  have hcat := px_rl_cat (ad := ad) (z := z) hE.2.2.1
  have hmx := hL.2.2.1
  simp only [px_chk, Bool.and_eq_true, decide_eq_true_eq] at hc
  obtain ⟨⟨hd, hc2⟩, hn⟩ := hc
  cases i with
  | iconst q =>
    simp only [px_step, Option.some.injEq, Prod.mk.injEq] at hs
    obtain ⟨rfl, rfl, rfl, rfl⟩ := hs
    have hn := of_decide_eq_true hn; simp only [px_len] at hn; subst hn
    exact lv_iconst hx hb hd (of_decide_eq_true hc2) (kk _ _ _ _ _ _ Z0 hfar)
  | bipush q =>
    simp only [px_step, Option.some.injEq, Prod.mk.injEq] at hs
    obtain ⟨rfl, rfl, rfl, rfl⟩ := hs
    have hn := of_decide_eq_true hn; simp only [px_len] at hn; subst hn
    exact lv_bipush hx hb hd (of_decide_eq_true hc2) (kk _ _ _ _ _ _ Z0 hfar)
  | sipush q =>
    simp only [px_step, Option.some.injEq, Prod.mk.injEq] at hs
    obtain ⟨rfl, rfl, rfl, rfl⟩ := hs
    have hn := of_decide_eq_true hn; simp only [px_len] at hn; subst hn
    exact lv_sipush hx hb hd (of_decide_eq_true hc2) (kk _ _ _ _ _ _ Z0 hfar)
  | lconst q =>
    simp only [px_step, Option.some.injEq, Prod.mk.injEq] at hs
    obtain ⟨rfl, rfl, rfl, rfl⟩ := hs
    have hn := of_decide_eq_true hn; simp only [px_len] at hn; subst hn
    exact lv_lconst hx hb hd rfl (kk _ _ _ _ _ _ Z0 hfar)
  | iload q =>
    simp only [px_step] at hs
    split at hs
    · rename_i x hg
      simp only [Option.some.injEq, Prod.mk.injEq] at hs
      obtain ⟨rfl, rfl, rfl, rfl⟩ := hs
      have hn := of_decide_eq_true hn; simp only [px_len] at hn; subst hn
      simp only [px_chk2, decide_eq_true_eq] at hc2; subst hc2
      exact lv_iload hx hb hd (hL.at hg (by simp)) (kk _ _ _ _ _ _ Z0 hfar)
    · cases hs
  | iload_n q =>
    simp only [px_step] at hs
    split at hs
    · rename_i x hg
      simp only [Option.some.injEq, Prod.mk.injEq] at hs
      obtain ⟨rfl, rfl, rfl, rfl⟩ := hs
      have hn := of_decide_eq_true hn; simp only [px_len] at hn; subst hn
      simp only [px_chk2, decide_eq_true_eq] at hc2
      exact lv_iload_n hx hb hd hc2 (hL.at hg (by simp)) (kk _ _ _ _ _ _ Z0 hfar)
    · cases hs
  | lload q =>
    simp only [px_step] at hs
    split at hs
    · rename_i x hg
      simp only [Option.some.injEq, Prod.mk.injEq] at hs
      obtain ⟨rfl, rfl, rfl, rfl⟩ := hs
      have hn := of_decide_eq_true hn; simp only [px_len] at hn; subst hn
      simp only [px_chk2, decide_eq_true_eq] at hc2; subst hc2
      exact lv_lload hx hb hd (hL.at hg (by simp)) (kk _ _ _ _ _ _ Z0 hfar)
    · cases hs
  | lload_n q =>
    simp only [px_step] at hs
    split at hs
    · rename_i x hg
      simp only [Option.some.injEq, Prod.mk.injEq] at hs
      obtain ⟨rfl, rfl, rfl, rfl⟩ := hs
      have hn := of_decide_eq_true hn; simp only [px_len] at hn; subst hn
      simp only [px_chk2, decide_eq_true_eq] at hc2
      exact lv_lload_n hx hb hd hc2 (hL.at hg (by simp)) (kk _ _ _ _ _ _ Z0 hfar)
    · cases hs
  | aload q =>
    simp only [px_step] at hs
    split at hs
    · rename_i x hg
      simp only [Option.some.injEq, Prod.mk.injEq] at hs
      obtain ⟨rfl, rfl, rfl, rfl⟩ := hs
      have hn := of_decide_eq_true hn; simp only [px_len] at hn; subst hn
      simp only [px_chk2, decide_eq_true_eq] at hc2; subst hc2
      exact lv_aload hx hb hd (hL.at hg (by simp)) (kk _ _ _ _ _ _ Z0 hfar)
    · cases hs
  | aload_n q =>
    simp only [px_step] at hs
    split at hs
    · rename_i x hg
      simp only [Option.some.injEq, Prod.mk.injEq] at hs
      obtain ⟨rfl, rfl, rfl, rfl⟩ := hs
      have hn := of_decide_eq_true hn; simp only [px_len] at hn; subst hn
      simp only [px_chk2, decide_eq_true_eq] at hc2
      exact lv_aload_n hx hb hd hc2 (hL.at hg (by simp)) (kk _ _ _ _ _ _ Z0 hfar)
    · cases hs
  | istore q =>
    simp only [px_step] at hs
    split at hs
    · rename_i x st0
      simp only [Option.some.injEq, Prod.mk.injEq] at hs
      obtain ⟨rfl, rfl, rfl, rfl⟩ := hs
      have hn := of_decide_eq_true hn; simp only [px_len] at hn; subst hn
      simp only [px_chk2, Bool.and_eq_true, decide_eq_true_eq] at hc2
      obtain ⟨hq, hlt⟩ := hc2; subst hq
      exact lv_istore hx hb hd hL.has hlt rfl (fun ls' h' => kk _ _ _ _ _ _ ⟨hP, hD, hS, hL.set (v := .int x) hcat rfl h', hc1, hs1, hn0, hag⟩ hfar)
    · cases hs
  | istore_n q =>
    simp only [px_step] at hs
    split at hs
    · rename_i x st0
      simp only [Option.some.injEq, Prod.mk.injEq] at hs
      obtain ⟨rfl, rfl, rfl, rfl⟩ := hs
      have hn := of_decide_eq_true hn; simp only [px_len] at hn; subst hn
      simp only [px_chk2, Bool.and_eq_true, decide_eq_true_eq] at hc2
      obtain ⟨hq, hlt⟩ := hc2
      exact lv_istore_n hx hb hd hq hL.has hlt rfl (fun ls' h' => kk _ _ _ _ _ _ ⟨hP, hD, hS, hL.set (v := .int x) hcat rfl h', hc1, hs1, hn0, hag⟩ hfar)
    · cases hs
  | astore q =>
    simp only [px_step] at hs
    split at hs
    · rename_i x st0
      simp only [Option.some.injEq, Prod.mk.injEq] at hs
      obtain ⟨rfl, rfl, rfl, rfl⟩ := hs
      have hn := of_decide_eq_true hn; simp only [px_len] at hn; subst hn
      simp only [px_chk2, Bool.and_eq_true, decide_eq_true_eq] at hc2
      obtain ⟨hq, hlt⟩ := hc2; subst hq
      exact lv_astore hx hb hd hL.has hlt rfl (fun ls' h' => kk _ _ _ _ _ _ ⟨hP, hD, hS, hL.set (v := .ref x) hcat rfl h', hc1, hs1, hn0, hag⟩ hfar)
    · cases hs
  | astore_n q =>
    simp only [px_step] at hs
    split at hs
    · rename_i x st0
      simp only [Option.some.injEq, Prod.mk.injEq] at hs
      obtain ⟨rfl, rfl, rfl, rfl⟩ := hs
      have hn := of_decide_eq_true hn; simp only [px_len] at hn; subst hn
      simp only [px_chk2, Bool.and_eq_true, decide_eq_true_eq] at hc2
      obtain ⟨hq, hlt⟩ := hc2
      exact lv_astore_n hx hb hd hq hL.has hlt rfl (fun ls' h' => kk _ _ _ _ _ _ ⟨hP, hD, hS, hL.set (v := .ref x) hcat rfl h', hc1, hs1, hn0, hag⟩ hfar)
    · cases hs
  | lstore q =>
    simp only [px_step] at hs
    split at hs
    · rename_i x st0
      simp only [Option.some.injEq, Prod.mk.injEq] at hs
      obtain ⟨rfl, rfl, rfl, rfl⟩ := hs
      have hn := of_decide_eq_true hn; simp only [px_len] at hn; subst hn
      simp only [px_chk2, Bool.and_eq_true, decide_eq_true_eq] at hc2
      obtain ⟨hq, hlt⟩ := hc2; subst hq
      exact lv_lstore hx hb hd hL.has hlt rfl (fun ls' h' => kk _ _ _ _ _ _ ⟨hP, hD, hS, hL.set2 (v := .long x) hcat rfl h', hc1, hs1, hn0, hag⟩ hfar)
    · cases hs
  | lstore_n q =>
    simp only [px_step] at hs
    split at hs
    · rename_i x st0
      simp only [Option.some.injEq, Prod.mk.injEq] at hs
      obtain ⟨rfl, rfl, rfl, rfl⟩ := hs
      have hn := of_decide_eq_true hn; simp only [px_len] at hn; subst hn
      simp only [px_chk2, Bool.and_eq_true, decide_eq_true_eq] at hc2
      obtain ⟨hq, hlt⟩ := hc2
      exact lv_lstore_n hx hb hd hq hL.has hlt rfl (fun ls' h' => kk _ _ _ _ _ _ ⟨hP, hD, hS, hL.set2 (v := .long x) hcat rfl h', hc1, hs1, hn0, hag⟩ hfar)
    · cases hs
  | iinc q w =>
    simp only [px_step] at hs
    split at hs
    · rename_i x hg
      simp only [Option.some.injEq, Prod.mk.injEq] at hs
      obtain ⟨rfl, rfl, rfl, rfl⟩ := hs
      have hn := of_decide_eq_true hn; simp only [px_len] at hn; subst hn
      simp only [px_chk2, Bool.and_eq_true, decide_eq_true_eq] at hc2
      obtain ⟨⟨hq, hlt⟩, hv⟩ := hc2; subst hq; subst hv
      obtain ⟨j, hj⟩ := List.getElem?_of_mem (px_lvs_mem (f := px_rl ad z) (q := (q, Value.int x)) |>.mpr ⟨.int x, px_get_some hg (by simp), by simp, rfl⟩)
      exact lv_iinc hx hb hd hL.has hj rfl hlt rfl (fun ls' h' => kk _ _ _ _ _ _ ⟨hP, hD, hS, hL.set (v := .int (x + Int32.ofInt w)) hcat rfl h', hc1, hs1, hn0, hag⟩ hfar)
    · cases hs
  | pop =>
    simp only [px_step] at hs
    split at hs
    · rename_i x st0
      split at hs
      · rename_i hcx
        simp only [Option.some.injEq, Prod.mk.injEq] at hs
        obtain ⟨rfl, rfl, rfl, rfl⟩ := hs
        have hn := of_decide_eq_true hn; simp only [px_len] at hn; subst hn
        exact lv_pop hx hb hd ((hcat x).trans hcx) (kk _ _ _ _ _ _ Z0 hfar)
      · cases hs
    · cases hs
  | dup =>
    simp only [px_step] at hs
    split at hs
    · rename_i x st0
      split at hs
      · rename_i hcx
        simp only [Option.some.injEq, Prod.mk.injEq] at hs
        obtain ⟨rfl, rfl, rfl, rfl⟩ := hs
        have hn := of_decide_eq_true hn; simp only [px_len] at hn; subst hn
        exact lv_dup hx hb hd ((hcat x).trans hcx) (kk _ _ _ _ _ _ Z0 hfar)
      · cases hs
    · cases hs
  | dup_x1 =>
    simp only [px_step] at hs
    split at hs
    · rename_i x y st0
      split at hs
      · rename_i hcx
        simp only [Option.some.injEq, Prod.mk.injEq] at hs
        obtain ⟨rfl, rfl, rfl, rfl⟩ := hs
        have hn := of_decide_eq_true hn; simp only [px_len] at hn; subst hn
        exact lv_dup_x1 hx hb hd ((hcat x).trans hcx.1) ((hcat y).trans hcx.2) (kk _ _ _ _ _ _ Z0 hfar)
      · cases hs
    · cases hs
  | dup2 =>
    simp only [px_step] at hs
    split at hs
    · rename_i x y st0
      split at hs
      · rename_i hcx
        simp only [Option.some.injEq, Prod.mk.injEq] at hs
        obtain ⟨rfl, rfl, rfl, rfl⟩ := hs
        have hn := of_decide_eq_true hn; simp only [px_len] at hn; subst hn
        exact lv_dup2_11 hx hb hd ((hcat x).trans hcx.1) ((hcat y).trans hcx.2) (kk _ _ _ _ _ _ Z0 hfar)
      · cases hs
    · cases hs
  | ladd =>
    simp only [px_step] at hs
    split at hs
    · simp only [Option.some.injEq, Prod.mk.injEq] at hs
      obtain ⟨rfl, rfl, rfl, rfl⟩ := hs
      have hn := of_decide_eq_true hn; simp only [px_len] at hn; subst hn
      exact lv_ladd hx hb hd (kk _ _ _ _ _ _ Z0 hfar)
    · cases hs
  | lor =>
    simp only [px_step] at hs
    split at hs
    · simp only [Option.some.injEq, Prod.mk.injEq] at hs
      obtain ⟨rfl, rfl, rfl, rfl⟩ := hs
      have hn := of_decide_eq_true hn; simp only [px_len] at hn; subst hn
      exact lv_lor hx hb hd (kk _ _ _ _ _ _ Z0 hfar)
    · cases hs
  | land =>
    simp only [px_step] at hs
    split at hs
    · simp only [Option.some.injEq, Prod.mk.injEq] at hs
      obtain ⟨rfl, rfl, rfl, rfl⟩ := hs
      have hn := of_decide_eq_true hn; simp only [px_len] at hn; subst hn
      exact lv_land hx hb hd (kk _ _ _ _ _ _ Z0 hfar)
    · cases hs
  | lshl =>
    simp only [px_step] at hs
    split at hs
    · simp only [Option.some.injEq, Prod.mk.injEq] at hs
      obtain ⟨rfl, rfl, rfl, rfl⟩ := hs
      have hn := of_decide_eq_true hn; simp only [px_len] at hn; subst hn
      exact lv_lshl hx hb hd rfl (kk _ _ _ _ _ _ Z0 hfar)
    · cases hs
  | lcmp =>
    simp only [px_step] at hs
    split at hs
    · simp only [Option.some.injEq, Prod.mk.injEq] at hs
      obtain ⟨rfl, rfl, rfl, rfl⟩ := hs
      have hn := of_decide_eq_true hn; simp only [px_len] at hn; subst hn
      exact W.lcmp hx hb hd (kk _ _ _ _ _ _ Z0 hfar)
    · cases hs
  | goto q =>
    simp only [px_step, Option.some.injEq, Prod.mk.injEq] at hs
    obtain ⟨rfl, rfl, rfl, rfl⟩ := hs
    have hn := of_decide_eq_true hn; simp only [px_len] at hn; subst hn
    simp only [px_chk2, decide_eq_true_eq] at hc2
    exact lv_goto hx hb hd hc2 (kk _ _ _ _ _ _ Z0 hfar)
  | ifCond co q =>
    simp only [px_step] at hs
    split at hs
    · simp only [Option.some.injEq, Prod.mk.injEq] at hs
      obtain ⟨rfl, rfl, rfl, rfl⟩ := hs
      have hn := of_decide_eq_true hn; simp only [px_len] at hn; subst hn
      simp only [px_chk2, decide_eq_true_eq] at hc2
      exact px_go_if hx hb hd hc2 (kk _ _ _ _ _ _ Z0 hfar)
    · cases hs
  | if_icmp co q =>
    simp only [px_step] at hs
    split at hs
    · simp only [Option.some.injEq, Prod.mk.injEq] at hs
      obtain ⟨rfl, rfl, rfl, rfl⟩ := hs
      have hn := of_decide_eq_true hn; simp only [px_len] at hn; subst hn
      simp only [px_chk2, decide_eq_true_eq] at hc2
      exact px_go_icmp hx hb hd hc2 (kk _ _ _ _ _ _ Z0 hfar)
    · cases hs
  | tableswitch dflt lo hi offs =>
    simp only [px_step] at hs
    simp only [px_chk2, Bool.and_eq_true, decide_eq_true_eq] at hc2
    split at hs
    · split at hs
      · rename_i hor
        simp only [Option.some.injEq, Prod.mk.injEq] at hs
        obtain ⟨rfl, rfl, rfl, rfl⟩ := hs
        exact lv_tableOut hx hb hd hor (Int.toNat_of_nonneg hc2.1).symm (kk _ _ _ _ _ _ Z0 hfar)
      · rename_i hor
        split at hs
        · rename_i of1 hof
          simp only [Option.some.injEq, Prod.mk.injEq] at hs
          obtain ⟨rfl, rfl, rfl, rfl⟩ := hs
          have hnn : 0 ≤ (pc : Int) + of1 := by
            have := List.all_eq_true.mp hc2.2 of1 (by
              have := Array.mem_of_getElem? hof
              exact Array.mem_toList_iff.mpr this)
            simpa using this
          exact lv_tableIn hx hb hd (fun q => hor (Or.inl q)) (fun q => hor (Or.inr q)) hof (Int.toNat_of_nonneg hnn).symm (kk _ _ _ _ _ _ Z0 hfar)
        · cases hs
    · cases hs
  | lookupswitch dflt ps =>
    simp only [px_step] at hs
    simp only [px_chk2] at hc2
    split at hs
    · split at hs
      · rename_i hnn
        simp only [Option.some.injEq, Prod.mk.injEq] at hs
        obtain ⟨rfl, rfl, rfl, rfl⟩ := hs
        exact lv_lookup hx hb hd hc2 rfl (Int.toNat_of_nonneg hnn).symm (kk _ _ _ _ _ _ Z0 hfar)
      · cases hs
    · cases hs
  | ldc q =>
    simp only [px_step, Option.some.injEq, Prod.mk.injEq] at hs
    obtain ⟨rfl, rfl, rfl, rfl⟩ := hs
    have hn := of_decide_eq_true hn; simp only [px_len] at hn; subst hn
    simp only [px_chk2] at hc2
    obtain ⟨h0, h1⟩ := px_lk_of hc2
    by_cases ha : 1000 ≤ a
    · obtain ⟨ho, hl, hi2⟩ := h1 ha
      have hR := hE.2.2.2.2.1 (a - 1000) (by omega)
      rw [show 1000 + (a - 1000) = a by omega, ← hfar a ha] at hR
      refine va_ldcS (tx := px_tx (a - 1000)) hx hb (ho ▸ hown) (by rw [hi2]; exact hR) hd ?_
      have k2 := kk _ _ _ _ _ _ Z0 hfar
      rw [if_pos ha] at k2
      exact k2
    · have k2 := kk _ _ _ _ _ _ Z0 hfar
      rw [if_neg ha] at k2
      exact lv_ldc hx hb hown (hts _ (h0 ha)) hd k2
  | ldc_w q =>
    simp only [px_step, Option.some.injEq, Prod.mk.injEq] at hs
    obtain ⟨rfl, rfl, rfl, rfl⟩ := hs
    have hn := of_decide_eq_true hn; simp only [px_len] at hn; subst hn
    simp only [px_chk2] at hc2
    obtain ⟨h0, h1⟩ := px_lk_of hc2
    by_cases ha : 1000 ≤ a
    · obtain ⟨ho, hl, hi2⟩ := h1 ha
      have hR := hE.2.2.2.2.1 (a - 1000) (by omega)
      rw [show 1000 + (a - 1000) = a by omega, ← hfar a ha] at hR
      refine px_ldcwS (tx := px_tx (a - 1000)) hx hb (ho ▸ hown) (by rw [hi2]; exact hR) hd ?_
      have k2 := kk _ _ _ _ _ _ Z0 hfar
      rw [if_pos ha] at k2
      exact k2
    · have k2 := kk _ _ _ _ _ _ Z0 hfar
      rw [if_neg ha] at k2
      exact lv_ldcw hx hb hown (hts _ (h0 ha)) hd k2
  | ldc2_w q =>
    simp only [px_step, Option.some.injEq, Prod.mk.injEq] at hs
    obtain ⟨rfl, rfl, rfl, rfl⟩ := hs
    have hn := of_decide_eq_true hn; simp only [px_len] at hn; subst hn
    simp only [px_chk2, Bool.and_eq_true, decide_eq_true_eq] at hc2
    obtain ⟨h9, rfl⟩ := hc2
    have ho : px_own k = "LightAlongLaw" := by unfold px_own; rw [h9]; rfl
    exact lv_ldc2 hx hb (ho ▸ hown) (hts _ (px_hasL_mem px_misc_ok _ (by simp))) hd (kk _ _ _ _ _ _ Z0 hfar)
  | getstatic q =>
    simp only [px_step] at hs
    have hn := of_decide_eq_true hn; simp only [px_len] at hn; subst hn
    simp only [px_chk2] at hc2
    have hw := px_ls_of hc2
    split at hs
    · rename_i ha
      simp only [Option.some.injEq, Prod.mk.injEq] at hs
      obtain ⟨rfl, rfl, rfl, rfl⟩ := hs
      have hZ := hE.2.2.2.2.2.2.1 a ha
      rw [← hfar (1200 + a) (by omega)] at hZ
      by_cases h0 : px_sq a = 0
      · rw [if_pos h0] at hw
        exact va_gets hx hb hZ hS hown (hts _ hw) (fun _ h => h) hd (kk _ _ _ _ _ _ Z0 hfar)
      · rw [if_neg h0] at hw
        exact va_getsN hx hb hZ hS hown (px_Nw_use rfl (hE.1 _ hw)) (fun _ h => h) hd (kk _ _ _ _ _ _ Z0 hfar)
    · split at hs
      · rename_i ha
        simp only [Option.some.injEq, Prod.mk.injEq] at hs
        obtain ⟨rfl, rfl, rfl, rfl⟩ := hs
        subst ha
        exact va_gets hx hb hE.2.2.2.2.2.2.2.1 hS hown (hts _ hw) (fun _ h => h) hd (kk _ _ _ _ _ _ Z0 hfar)
      · split at hs
        · rename_i ha
          simp only [Option.some.injEq, Prod.mk.injEq] at hs
          obtain ⟨rfl, rfl, rfl, rfl⟩ := hs
          subst ha
          exact va_gets hx hb hE.2.2.2.2.2.2.2.2 hS hown (hts _ hw) (fun _ h => h) hd (kk _ _ _ _ _ _ Z0 hfar)
        · cases hs
  | getfield idx =>
    simp only [px_step] at hs
    have hn := of_decide_eq_true hn; simp only [px_len] at hn; subst hn
    simp only [px_chk2] at hc2
    split at hs
    · rename_i q st0
      split at hs
      · split at hs
        · rename_i t n rs hq
          split at hs
          · rename_i hcond
            obtain ⟨rfl, ht, hbn, hnn⟩ := hcond
            have h9 : t < 9 := px_nf_lt (hnn ▸ hbn)
            refine px_go_get C0 hP hd hc2 hq h9 hbn hnn ?_
            split at hs
            · rename_i hk
              simp only [Option.some.injEq, Prod.mk.injEq] at hs
              obtain ⟨rfl, rfl, rfl, rfl⟩ := hs
              unfold px_fv
              rw [if_pos hk]
              exact kk _ _ _ _ _ _ Z0 hfar
            · rename_i hk
              split at hs
              · rename_i r hr
                simp only [Option.some.injEq, Prod.mk.injEq] at hs
                obtain ⟨rfl, rfl, rfl, rfl⟩ := hs
                unfold px_fv
                rw [if_neg hk, hr]
                exact kk _ _ _ _ _ _ Z0 hfar
              · cases hs
          · cases hs
        · cases hs
      · rename_i hq
        split at hs
        · rename_i hcond
          obtain ⟨rfl, hq2⟩ := hcond
          have hw := (px_fls_of hc2).2
          obtain ⟨e1, e2, e3, e4, e5⟩ := px_far_e q hq hq2
          have hE4 := hE.2.2.2.1.1 (q - 1000) e3
          simp only [e1, e2, ← hfar q e4, ← hfar (q + 100) e5] at hE4
          split at hs
          · rename_i hb0
            simp only [Option.some.injEq, Prod.mk.injEq] at hs
            obtain ⟨rfl, rfl, rfl, rfl⟩ := hs
            subst hb0
            exact vk_getf hx hb hE4.2.2.1 hS hown (hts _ hw) (fun _ h => h) hd (kk _ _ _ _ _ _ Z0 hfar)
          · split at hs
            · rename_i hb1
              simp only [Option.some.injEq, Prod.mk.injEq] at hs
              obtain ⟨rfl, rfl, rfl, rfl⟩ := hs
              subst hb1
              exact vk_getf hx hb hE4.2.1 hS hown (hts _ hw) (fun _ h => h) hd (kk _ _ _ _ _ _ Z0 hfar)
            · cases hs
        · cases hs
    · cases hs
  | putfield idx =>
    simp only [px_step] at hs
    have hn := of_decide_eq_true hn; simp only [px_len] at hn; subst hn
    simp only [px_chk2] at hc2
    split at hs
    · rename_i y q st0
      split at hs
      · rename_i t n rs hq
        split at hs
        · rename_i hcond
          obtain ⟨rfl, ht, hbn, hnn, hfin, hq9, hkd⟩ := hcond
          simp only [Option.some.injEq, Prod.mk.injEq] at hs
          obtain ⟨rfl, rfl, rfl, rfl⟩ := hs
          have h9 : t < 9 := px_nf_lt (hnn ▸ hbn)
          have hf := px_fd_ok h9 b (hnn ▸ hbn)
          have hk2 : px_kind t b < 2 := by omega
          have hnf : narrow (px_ty t b) (.int y) = .int y ∧ fits (px_ty t b) (.int y) = true := by
            rcases hkd with h0 | ⟨h1, h2⟩
            · rw [hf.2.2.1 h0]; exact ⟨rfl, rfl⟩
            · rw [hf.2.2.2.1 h1]
              refine ⟨congrArg Value.int h2, ?_⟩
              rcases px_and1 h2 with rfl | rfl <;> rfl
          refine px_go_put (v := .int y) C0 hP hD hS hd hc2 hq h9 hbn hnn hfin hnf.1 hnf.2 (fun H1 locs1 hP1 hD1 hS1 => ?_)
          have hw := px_w_set (tc := tc) (ad := ad) (h := h) (h' := (h.1, px_up h.2.1 q b y, h.2.2)) hq (px_set_same hq) (fun j hj => by simp only [px_up, if_neg hj]) (fun j hj => rfl) (e := .inr (t, ((List.range n).map (px_fv ad t rs (h.2.1 q))).set b (.int y))) (by
            unfold px_cell
            rw [if_pos (show (t, n, rs).1 < 100 from ht)]
            simp only [px_up, if_pos]
            rw [px_fv_set hbn hk2])
          rw [hw] at hP1 hD1
          exact kk _ _ _ _ _ _ ⟨hP1, hD1, hS1, hL, hc1, hs1, hn0, hag⟩ hfar
        · cases hs
      · cases hs
    · rename_i r q st0
      split at hs
      · rename_i t n rs hq
        split at hs
        · rename_i hcond
          obtain ⟨rfl, ht, hbn, hnn, hfin, hq9, hkd, hbl⟩ := hcond
          simp only [Option.some.injEq, Prod.mk.injEq] at hs
          obtain ⟨rfl, rfl, rfl, rfl⟩ := hs
          have h9 : t < 9 := px_nf_lt (hnn ▸ hbn)
          have hf := px_fd_ok h9 b (hnn ▸ hbn)
          have hk2 : ¬ px_kind t b < 2 := by omega
          refine px_go_put (v := .ref (ad r)) C0 hP hD hS hd hc2 hq h9 hbn hnn hfin (px_narrow_ref _ _) (px_fits_ref (hf.2.2.2.2 hk2).2.1 _) (fun H1 locs1 hP1 hD1 hS1 => ?_)
          have hw := px_w_set (tc := tc) (ad := ad) (h := h) (h' := (h.1.set q (t, n, rs.set b (some r)), h.2)) hq rfl (fun j hj => rfl) (fun j hj => rfl) (e := .inr (t, ((List.range n).map (px_fv ad t rs (h.2.1 q))).set b (.ref (ad r)))) (by
            unfold px_cell
            rw [if_pos (show t < 100 from ht)]
            dsimp only
            rw [px_fv_setR hbn hk2 hbl])
          rw [hw] at hP1 hD1
          exact kk _ _ _ _ _ _ ⟨hP1, hD1, hS1, hL, hc1, hs1, by simpa using hn0, by simpa using hag⟩ hfar
        · cases hs
      · cases hs
    · cases hs
  | arraylength =>
    simp only [px_step] at hs
    have hn := of_decide_eq_true hn; simp only [px_len] at hn; subst hn
    split at hs
    · rename_i q st0
      split at hs
      · split at hs
        · rename_i t n rs hq
          split at hs
          · rename_i ht
            simp only [Option.some.injEq, Prod.mk.injEq] at hs
            obtain ⟨rfl, rfl, rfl, rfl⟩ := hs
            have he := px_w_at (tc := tc) (ad := ad) hq
            obtain ⟨i0, ty, x, h1, h2, h3⟩ := px_arr_cell (tc := tc) (ad := ad) (n := n) (rs := rs) (dk := h.2.1 q) (ek := h.2.2 q) ht
            rw [h1] at he
            exact va_alen hx hb hK hP q i0 he h2 (by rw [h3]) hd (kk _ _ _ _ _ _ Z0 hfar)
          · cases hs
        · cases hs
      · split at hs
        · cases hs
        · rename_i hq1 hq2
          split at hs
          · rename_i n hwl
            simp only [Option.some.injEq, Prod.mk.injEq] at hs
            obtain ⟨rfl, rfl, rfl, rfl⟩ := hs
            obtain ⟨e1, e2, e3⟩ := px_far_f q hq2 hwl
            have hE4 := (hE.2.2.2.1.1 (q - 1100) e1).2.2.2
            simp only [e2, ← hfar q e3] at hE4
            have e4 : px_wl.getD (q - 1100) 0 = n := by rw [List.getD_eq_getElem?_getD, hwl]; rfl
            rw [e4] at hE4
            exact va_tlen hx hb hE4 hS rfl hd (kk _ _ _ _ _ _ Z0 hfar)
          · split at hs
            · rename_i n f hxa
              simp only [Option.some.injEq, Prod.mk.injEq] at hs
              obtain ⟨rfl, rfl, rfl, rfl⟩ := hs
              have hT := hE.2.2.2.2.2.1 q n f hxa
              rw [← hfar q (px_xa_far hxa)] at hT
              exact va_tlen hx hb hT hS rfl hd (kk _ _ _ _ _ _ Z0 hfar)
            · cases hs
    · cases hs
  | iaload =>
    simp only [px_step] at hs
    have hn := of_decide_eq_true hn; simp only [px_len] at hn; subst hn
    split at hs
    · rename_i j q st0
      split at hs
      · split at hs
        · rename_i t n rs hq
          split at hs
          · rename_i ht
            obtain ⟨rfl, hj⟩ := ht
            simp only [Option.some.injEq, Prod.mk.injEq] at hs
            obtain ⟨rfl, rfl, rfl, rfl⟩ := hs
            exact va_iald hx hb hK hP q 0 (px_w_at (tc := tc) (ad := ad) hq) rfl (px_in_of hj) hd (kk _ _ _ _ _ _ Z0 hfar)
          · cases hs
        · cases hs
      · split at hs
        · rename_i n f hxa
          split at hs
          · rename_i hj
            simp only [Option.some.injEq, Prod.mk.injEq] at hs
            obtain ⟨rfl, rfl, rfl, rfl⟩ := hs
            have hT := hE.2.2.2.2.2.1 q n f hxa
            rw [← hfar q (px_xa_far hxa)] at hT
            exact va_ti hx hb hT hS (px_in_of hj) rfl hd (kk _ _ _ _ _ _ Z0 hfar)
          · cases hs
        · cases hs
    · cases hs
  | baload =>
    simp only [px_step] at hs
    have hn := of_decide_eq_true hn; simp only [px_len] at hn; subst hn
    split at hs
    · rename_i j q st0
      split at hs
      · split at hs
        · rename_i t n rs hq
          split at hs
          · rename_i ht
            obtain ⟨rfl, hj⟩ := ht
            simp only [Option.some.injEq, Prod.mk.injEq] at hs
            obtain ⟨rfl, rfl, rfl, rfl⟩ := hs
            exact va_zald hx hb hK hP q 1 (px_w_at (tc := tc) (ad := ad) hq) rfl (px_in_of hj) hd (kk _ _ _ _ _ _ Z0 hfar)
          · cases hs
        · cases hs
      · split at hs
        · cases hs
        · rename_i hq1 hq2
          split at hs
          · rename_i n hwl
            split at hs
            · rename_i hj
              simp only [Option.some.injEq, Prod.mk.injEq] at hs
              obtain ⟨rfl, rfl, rfl, rfl⟩ := hs
              obtain ⟨e1, e2, e3⟩ := px_far_f q hq2 hwl
              have hE4 := (hE.2.2.2.1.1 (q - 1100) e1).2.2.2
              simp only [e2, ← hfar q e3] at hE4
              have e4 : px_wl.getD (q - 1100) 0 = n := by rw [List.getD_eq_getElem?_getD, hwl]; rfl
              rw [e4] at hE4
              exact va_tb hx hb hE4 hS (px_in_of hj) rfl hd (kk _ _ _ _ _ _ Z0 hfar)
            · cases hs
          · cases hs
    · cases hs
  | laload =>
    simp only [px_step] at hs
    have hn := of_decide_eq_true hn; simp only [px_len] at hn; subst hn
    split at hs
    · rename_i j q st0
      split at hs
      · rename_i t n rs hq
        split at hs
        · rename_i ht
          obtain ⟨rfl, hj, -⟩ := ht
          simp only [Option.some.injEq, Prod.mk.injEq] at hs
          obtain ⟨rfl, rfl, rfl, rfl⟩ := hs
          exact va_lald hx hb hK hP q 2 (px_w_at (tc := tc) (ad := ad) hq) rfl (px_in_of hj) hd (kk _ _ _ _ _ _ Z0 hfar)
        · cases hs
      · cases hs
    · cases hs
  | aaload =>
    simp only [px_step] at hs
    have hn := of_decide_eq_true hn; simp only [px_len] at hn; subst hn
    split at hs
    · rename_i j q st0
      split at hs
      · rename_i t n rs hq
        split at hs
        · rename_i ht
          obtain ⟨rfl, hj, -⟩ := ht
          split at hs
          · rename_i r hr
            simp only [Option.some.injEq, Prod.mk.injEq] at hs
            obtain ⟨rfl, rfl, rfl, rfl⟩ := hs
            refine va_aldq hx hb hK hP q 3 (px_w_at (tc := tc) (ad := ad) hq) rfl (px_in_of hj) hd ?_
            simp only [hr, Option.map_some]
            exact kk _ _ _ _ _ _ Z0 hfar
          · cases hs
        · cases hs
      · cases hs
    · cases hs
  | iastore =>
    simp only [px_step] at hs
    have hn := of_decide_eq_true hn; simp only [px_len] at hn; subst hn
    split at hs
    · rename_i y j q st0
      split at hs
      · rename_i t n rs hq
        split at hs
        · rename_i ht
          obtain ⟨rfl, hj, -⟩ := ht
          simp only [Option.some.injEq, Prod.mk.injEq] at hs
          obtain ⟨rfl, rfl, rfl, rfl⟩ := hs
          refine va_iast hx hb hK hP hD hS q 0 (px_w_at (tc := tc) (ad := ad) hq) rfl (px_in_of hj) hd (fun H1 locs1 hP1 hD1 hS1 => ?_)
          have hw := px_w_set (tc := tc) (ad := ad) (h := h) (h' := (h.1, px_up h.2.1 q j.toNatClampNeg y, h.2.2)) hq (px_set_same hq) (fun j0 hj0 => by simp only [px_up, if_neg hj0]) (fun j0 hj0 => by rfl) (e := .inl (tc 0, n, .inl (upd (h.2.1 q) j.toNatClampNeg y))) (by
            unfold px_cell
            simp [px_up])
          rw [hw] at hP1 hD1
          exact kk _ _ _ _ _ _ ⟨hP1, hD1, hS1, hL, hc1, hs1, hn0, hag⟩ hfar
        · cases hs
      · cases hs
    · cases hs
  | bastore =>
    simp only [px_step] at hs
    have hn := of_decide_eq_true hn; simp only [px_len] at hn; subst hn
    split at hs
    · rename_i y j q st0
      split at hs
      · rename_i t n rs hq
        split at hs
        · rename_i ht
          obtain ⟨rfl, hj, -⟩ := ht
          simp only [Option.some.injEq, Prod.mk.injEq] at hs
          obtain ⟨rfl, rfl, rfl, rfl⟩ := hs
          refine va_zast hx hb hK hP hD hS q 1 (px_w_at (tc := tc) (ad := ad) hq) rfl (px_in_of hj) hd (fun H1 locs1 hP1 hD1 hS1 => ?_)
          have hw := px_w_set (tc := tc) (ad := ad) (h := h) (h' := (h.1, px_up h.2.1 q j.toNatClampNeg (vp_nar .boolean y), h.2.2)) hq (px_set_same hq) (fun j0 hj0 => by simp only [px_up, if_neg hj0]) (fun j0 hj0 => by rfl) (e := .inl (tc 1, n, .inl (upd (h.2.1 q) j.toNatClampNeg (vp_nar .boolean y)))) (by
            unfold px_cell
            simp [px_up])
          rw [hw] at hP1 hD1
          exact kk _ _ _ _ _ _ ⟨hP1, hD1, hS1, hL, hc1, hs1, hn0, hag⟩ hfar
        · cases hs
      · cases hs
    · cases hs
  | lastore =>
    simp only [px_step] at hs
    have hn := of_decide_eq_true hn; simp only [px_len] at hn; subst hn
    split at hs
    · rename_i y j q st0
      split at hs
      · rename_i t n rs hq
        split at hs
        · rename_i ht
          obtain ⟨rfl, hj, -⟩ := ht
          simp only [Option.some.injEq, Prod.mk.injEq] at hs
          obtain ⟨rfl, rfl, rfl, rfl⟩ := hs
          refine va_last hx hb hK hP hD hS q 2 (px_w_at (tc := tc) (ad := ad) hq) rfl (px_in_of hj) hd (fun H1 locs1 hP1 hD1 hS1 => ?_)
          have hw := px_w_set (tc := tc) (ad := ad) (h := h) (h' := (h.1, h.2.1, px_upL h.2.2 q j.toNatClampNeg y)) hq (px_set_same hq) (fun j0 hj0 => by rfl) (fun j0 hj0 => by simp only [px_upL, if_neg hj0]) (e := .inl (tc 2, n, .inr (.inl (vp_updL (h.2.2 q) j.toNatClampNeg y)))) (by
            unfold px_cell
            simp [px_upL])
          rw [hw] at hP1 hD1
          exact kk _ _ _ _ _ _ ⟨hP1, hD1, hS1, hL, hc1, hs1, hn0, hag⟩ hfar
        · cases hs
      · cases hs
    · cases hs
  | aastore =>
    simp only [px_step] at hs
    have hn := of_decide_eq_true hn; simp only [px_len] at hn; subst hn
    split at hs
    · rename_i r j q st0
      split at hs
      · rename_i t n rs hq
        split at hs
        · rename_i t2 n2 rs2 hr
          split at hs
          · rename_i ht
            obtain ⟨rfl, hj, -, -, rfl, hjl⟩ := ht
            simp only [Option.some.injEq, Prod.mk.injEq] at hs
            obtain ⟨rfl, rfl, rfl, rfl⟩ := hs
            refine va_astq hx hb hK hP hD hS q 3 r 3 (r := (px_cl 3, px_T 3, px_nf 3)) (px_w_at (tc := tc) (ad := ad) hq) rfl (px_w_at (tc := tc) (ad := ad) hr) (px_cl_at (by decide)) (px_in_of hj) hd (fun H1 locs1 hP1 hD1 hS1 => ?_)
            have hw := px_w_set (tc := tc) (ad := ad) (h := h) (h' := (h.1.set q (103, n, rs.set j.toNatClampNeg (some r)), h.2)) hq rfl (fun j0 hj0 => rfl) (fun j0 hj0 => rfl) (e := .inl (tc 3, n, .inr (.inr (.inr (.inr (va_up (fun j => (rs.getD j none).map ad) j.toNatClampNeg (some (ad r)))))))) (by
              unfold px_cell
              have : (fun j0 => ((rs.set j.toNatClampNeg (some r)).getD j0 none).map ad) = va_up (fun j => (rs.getD j none).map ad) j.toNatClampNeg (some (ad r)) := by
                funext j0
                unfold va_up
                by_cases hjj : j0 = j.toNatClampNeg
                · subst hjj
                  rw [if_pos rfl, List.getD_eq_getElem?_getD, List.getElem?_set_self hjl]; rfl
                · rw [if_neg hjj]
                  show Option.map ad ((rs.set j.toNatClampNeg (some r)).getD j0 none) = Option.map ad (rs.getD j0 none)
                  rw [List.getD_eq_getElem?_getD, List.getD_eq_getElem?_getD, List.getElem?_set_ne (fun q => hjj q.symm)]
              rw [if_neg (show ¬ (103 : Nat) < 100 by decide), if_neg (show ¬ (103 : Nat) = 100 by decide), if_neg (show ¬ (103 : Nat) = 101 by decide), if_neg (show ¬ (103 : Nat) = 102 by decide)]
              dsimp only
              rw [this])
            rw [hw] at hP1 hD1
            exact kk _ _ _ _ _ _ ⟨hP1, hD1, hS1, hL, hc1, hs1, by simpa using hn0, by simpa using hag⟩ hfar
          · cases hs
        · cases hs
      · cases hs
    · cases hs
  | new idx =>
    simp only [px_step] at hs
    have hn := of_decide_eq_true hn; simp only [px_len] at hn; subst hn
    simp only [px_chk2] at hc2
    split at hs
    · rename_i hcond
      obtain ⟨h9, hr1, hr2, htidy⟩ := hcond
      simp only [Option.some.injEq, Prod.mk.injEq] at hs
      obtain ⟨rfl, rfl, rfl, rfl⟩ := hs
      rw [Bool.or_eq_true] at hc2
      have hw := px_ln_of (hc2.resolve_left (by simpa using h9))
      have hfs : ∀ (ad' : Nat → Nat) (d' : Nat → Int32), (∀ j, d' j = 0) → (List.range (px_nf a)).map (px_fv ad' a (List.replicate (px_nf a) none) d') = (List.range (px_nf a)).map (px_fv ad a (List.replicate (px_nf a) none) (fun _ => 0)) := by
        intro ad' d' hd'
        apply List.map_congr_left
        intro j hj
        unfold px_fv
        have : (List.replicate (px_nf a) (none : Option Nat)).getD j none = none := by
          rw [List.getD_eq_getElem?_getD, List.getElem?_replicate]; split <;> rfl
        rw [this, hd']
      refine va_new (ci := a) (fs := (List.range (px_nf a)).map (px_fv ad a (List.replicate (px_nf a) none) (fun _ => 0))) hx hb hts (px_ws_in h9) (px_ty a) (px_ty_ok h9) hown (hts _ hw.1) (hts _ hw.2.1) (hts _ hw.2.2) hK hP hD hS hA (px_cl_at h9) (fun j hj => ?_) (by omega) (by omega) hd (fun q H1 hP1 hD1 hS1 => ?_)
      · unfold vp_V
        rw [List.getD_eq_getElem?_getD, List.getElem?_map, List.getElem?_range hj]
        show _ = px_fv ad a (List.replicate (px_nf a) none) (fun _ => 0) j
        have hf := px_fd_ok h9 j hj
        unfold px_fv
        by_cases hk : px_kind a j < 2
        · rw [if_pos hk]
          rcases (show px_kind a j = 0 ∨ px_kind a j = 1 by omega) with h0 | h0
          · rw [hf.2.2.1 h0]; rfl
          · rw [hf.2.2.2.1 h0]; rfl
        · rw [if_neg hk]
          have : (List.replicate (px_nf a) (none : Option Nat)).getD j none = none := by
            rw [List.getD_eq_getElem?_getD, List.getElem?_replicate]; split <;> rfl
          rw [this]
          exact (hf.2.2.2.2 hk).2.2.2
      · have htl : h.1.length < 1000 := by
          simp only [px_tidy, Bool.and_eq_true, decide_eq_true_eq] at htidy
          exact htidy.1.1.1
        have hz := px_Zr_push (n := px_nf a) (q := q) (h' := (h.1 ++ [(a, px_nf a, List.replicate (px_nf a) none)], px_clr h.2.1 h.1.length, h.2.2)) Z0 htidy rfl (fun j hj => by simp only [px_clr, px_row, if_neg (show ¬ j = h.1.length by omega)]) (fun j hj => rfl) (by
          unfold px_cell
          rw [if_pos (show a < 100 by omega)]
          dsimp only
          rw [hfs _ _ (fun j => by simp [px_clr, px_row])]) hP1 hD1 hS1 hr1 hr2
        have k2 := kk _ _ _ _ _ _ hz.1 (fun i hi => by simp only [if_neg (show ¬ i = h.1.length by omega)]; exact hfar i hi)
        simp only [List.map_cons, px_rl, if_true] at k2
        rw [hz.2]
        exact k2
    · cases hs
  | newarray t =>
    simp only [px_step] at hs
    have hn := of_decide_eq_true hn; simp only [px_len] at hn; subst hn
    simp only [px_chk2, decide_eq_true_eq] at hc2
    split at hs
    · rename_i w st0
      split at hs
      · rename_i hcond
        obtain ⟨hneg, hby, ha1, ha2, hr1, hr2, htidy⟩ := hcond
        simp only [Option.some.injEq, Prod.mk.injEq] at hs
        obtain ⟨rfl, rfl, rfl, rfl⟩ := hs
        obtain ⟨ty, hty, hww, hor⟩ := px_atag_of hc2 ha1
        obtain ⟨i0, a0, hti, hcell, hvp, hcb⟩ := px_zero_cell a hor w.toNatClampNeg ad tc
        refine va_newa hx hb (by rw [hty]; exact hts _ hww) hty hK hP hD hS hA hvp hneg rfl (Nat.le_trans (Nat.mul_le_mul_left _ hcb) hby) (by omega) (by omega) hd (fun q cA H1 hK1 hP1 hD1 hS1 => ?_)
        have hcA := px_ca_of hK1 hti
        subst hcA
        have htl : h.1.length < 1000 ∧ st0.all (px_vok h.1.length) = true := by
          simp only [px_tidy, Bool.and_eq_true, decide_eq_true_eq] at htidy
          exact ⟨htidy.1.1.1, htidy.1.2⟩
        have htidy2 : px_tidy h.1 L st0 = true := by
          simp only [px_tidy, Bool.and_eq_true, decide_eq_true_eq] at htidy ⊢
          exact ⟨⟨htidy.1.1, htl.2⟩, htidy.2⟩
        have hz := px_Zr_push (n := w.toNatClampNeg) (q := q) (h' := (h.1 ++ [(a, w.toNatClampNeg, [])], px_clr h.2.1 h.1.length, px_clrL h.2.2 h.1.length)) Z0 htidy2 rfl (fun j hj => by simp only [px_clr, px_row, if_neg (show ¬ j = h.1.length by omega)]) (fun j hj => by simp only [px_clrL, px_rowL, if_neg (show ¬ j = h.1.length by omega)]) (by
          rw [← hcell]
          simp only [px_clr, px_row, px_clrL, px_rowL, if_true]
          unfold px_cell
          have hna : ¬ a < 100 := by omega
          have hnb : a = 100 ∨ a = 101 ∨ a = 102 := by omega
          rcases hnb with rfl | rfl | rfl <;> simp) hP1 hD1 hS1 hr1 hr2
        have k2 := kk _ _ _ _ _ _ hz.1 (fun i hi => by simp only [if_neg (show ¬ i = h.1.length by omega)]; exact hfar i hi)
        simp only [List.map_cons, px_rl, if_true] at k2
        rw [hz.2]
        exact k2
      · cases hs
    · cases hs
  | anewarray idx =>
    simp only [px_step] at hs
    have hn := of_decide_eq_true hn; simp only [px_len] at hn; subst hn
    simp only [px_chk2] at hc2
    have hw := px_la_of hc2
    split at hs
    · rename_i w st0
      split at hs
      · rename_i hcond
        obtain ⟨hneg, hby, rfl, hr1, hr2, htidy⟩ := hcond
        simp only [Option.some.injEq, Prod.mk.injEq] at hs
        obtain ⟨rfl, rfl, rfl, rfl⟩ := hs
        refine va_newq hx hb hown (hts _ hw) hE.2.1 hK hP hD hS hA hneg rfl hby (by omega) (by omega) hd (fun q cA H1 hK1 hP1 hD1 hS1 => ?_)
        have hcA := px_ca_of (tys := px_tys tc) (i := 3) hK1 rfl
        subst hcA
        have htl : h.1.length < 1000 ∧ st0.all (px_vok h.1.length) = true := by
          simp only [px_tidy, Bool.and_eq_true, decide_eq_true_eq] at htidy
          exact ⟨htidy.1.1.1, htidy.1.2⟩
        have htidy2 : px_tidy h.1 L st0 = true := by
          simp only [px_tidy, Bool.and_eq_true, decide_eq_true_eq] at htidy ⊢
          exact ⟨⟨htidy.1.1, htl.2⟩, htidy.2⟩
        have hz := px_Zr_push (n := w.toNatClampNeg) (q := q) (h' := (h.1 ++ [(103, w.toNatClampNeg, List.replicate w.toNatClampNeg none)], h.2)) Z0 htidy2 rfl (fun j hj => rfl) (fun j hj => rfl) (by
          unfold px_cell
          have : (fun j0 => ((List.replicate w.toNatClampNeg (none : Option Nat)).getD j0 none).map (fun i => if i = h.1.length then q else ad i)) = fun _ => none := by
            funext j0
            have : (List.replicate w.toNatClampNeg (none : Option Nat)).getD j0 none = none := by
              rw [List.getD_eq_getElem?_getD, List.getElem?_replicate]; split <;> rfl
            rw [this]; rfl
          rw [if_neg (show ¬ (103 : Nat) < 100 by decide), if_neg (show ¬ (103 : Nat) = 100 by decide), if_neg (show ¬ (103 : Nat) = 101 by decide), if_neg (show ¬ (103 : Nat) = 102 by decide)]
          dsimp only
          rw [this]) hP1 hD1 hS1 hr1 hr2
        have k2 := kk _ _ _ _ _ _ hz.1 (fun i hi => by simp only [if_neg (show ¬ i = h.1.length by omega)]; exact hfar i hi)
        simp only [List.map_cons, px_rl, if_true] at k2
        rw [hz.2]
        exact k2
      · cases hs
    · cases hs
  | _ =>
    simp only [px_step] at hs
    split at hs
    · split at hs
      · rename_i w0 hal
        have hn := of_decide_eq_true hn
        rw [px_alu_len hal] at hn; subst hn
        simp only [Option.some.injEq, Prod.mk.injEq] at hs
        obtain ⟨rfl, rfl, rfl, rfl⟩ := hs
        exact px_go_alu hx hb hd hal (kk _ _ _ _ _ _ Z0 hfar)
      · split at hs
        · rename_i w0 hal
          have hn := of_decide_eq_true hn
          rw [px_une_len hal] at hn; subst hn
          simp only [Option.some.injEq, Prod.mk.injEq] at hs
          obtain ⟨rfl, rfl, rfl, rfl⟩ := hs
          exact px_go_une (ad := ad) (z := z) hx hb hd hal (kk _ _ _ _ _ _ Z0 hfar)
        · cases hs
    · split at hs
      · rename_i w0 hal
        have hn := of_decide_eq_true hn
        rw [px_une_len hal] at hn; subst hn
        simp only [Option.some.injEq, Prod.mk.injEq] at hs
        obtain ⟨rfl, rfl, rfl, rfl⟩ := hs
        exact px_go_une (ad := ad) (z := z) hx hb hd hal (kk _ _ _ _ _ _ Z0 hfar)
      · cases hs
    · cases hs
end PXW
end
section
/-! CALLS: the methods' own facts, contracts, and the whole run. -/
def px_hdB (k : Nat) : Bool := (decide (248 ≤ k) && decide (k ≤ 250)) || px_has (.initialized (px_own k)) (px_LC.getD k (0, 0)).2 && decide ((px_y k).cls = px_own k) && plainName (px_own k) &&
  decide (px_own k ≠ "java/lang/invoke/MethodHandle") && decide (px_own k ≠ "java/lang/invoke/VarHandle") && decide ((parseMethodDescriptor (px_y k).desc).map (fun d => d.parameters.length) = some (px_np k)) && decide (0 < px_ini k ↔ (px_y k).name = "<init>") && decide (px_ini k = 0 ∨ px_ini k = px_cn k + 1) && decide (px_sta k ≤ 1)
def px_hdR (a n : Nat) : Bool := (List.range n).all fun i => px_hdB (a + i)
set_option maxRecDepth 100000 in
theorem px_hd0 : px_hdR 0 50 = true := by decide +kernel
set_option maxRecDepth 100000 in
theorem px_hd1 : px_hdR 50 50 = true := by decide +kernel
set_option maxRecDepth 100000 in
theorem px_hd2 : px_hdR 100 50 = true := by decide +kernel
set_option maxRecDepth 100000 in
theorem px_hd3 : px_hdR 150 50 = true := by decide +kernel
set_option maxRecDepth 100000 in
theorem px_hd4 : px_hdR 200 60 = true := by decide +kernel
theorem px_hdR_of {a n k : Nat} (h : px_hdR a n = true) (h1 : a ≤ k) (h2 : k < a + n) : px_hdB k = true := by
  have := List.all_eq_true.mp h (k - a) (List.mem_range.mpr (by omega))
  rw [show a + (k - a) = k by omega] at this
  exact this
theorem px_hd {k : Nat} (h : k < px_law) : px_hdB k = true := by
  have h' : k < 260 := h
  rcases (show k < 50 ∨ (50 ≤ k ∧ k < 100) ∨ (100 ≤ k ∧ k < 150) ∨ (150 ≤ k ∧ k < 200) ∨ (200 ≤ k ∧ k < 260) by omega) with h | h | h | h | h
  · exact px_hdR_of px_hd0 (by omega) (by omega)
  · exact px_hdR_of px_hd1 (by omega) (by omega)
  · exact px_hdR_of px_hd2 (by omega) (by omega)
  · exact px_hdR_of px_hd3 (by omega) (by omega)
  · exact px_hdR_of px_hd4 (by omega) (by omega)
def px_hcP (k : Nat) : Prop := lw_tbl[(px_LC.getD k (0, 0)).1]? = some (.code (px_y k) (px_b k) (px_mx k) (px_rt k))
set_option maxRecDepth 20000 in
theorem px_hc0 : px_hcP 0 := rfl
set_option maxRecDepth 20000 in
theorem px_hc1 : px_hcP 1 := rfl
set_option maxRecDepth 20000 in
theorem px_hc2 : px_hcP 2 := rfl
set_option maxRecDepth 20000 in
theorem px_hc3 : px_hcP 3 := rfl
set_option maxRecDepth 20000 in
theorem px_hc4 : px_hcP 4 := rfl
set_option maxRecDepth 20000 in
theorem px_hc5 : px_hcP 5 := rfl
set_option maxRecDepth 20000 in
theorem px_hc6 : px_hcP 6 := rfl
set_option maxRecDepth 20000 in
theorem px_hc7 : px_hcP 7 := rfl
set_option maxRecDepth 20000 in
theorem px_hc8 : px_hcP 8 := rfl
set_option maxRecDepth 20000 in
theorem px_hc9 : px_hcP 9 := rfl
set_option maxRecDepth 20000 in
theorem px_hc10 : px_hcP 10 := rfl
set_option maxRecDepth 20000 in
theorem px_hc11 : px_hcP 11 := rfl
set_option maxRecDepth 20000 in
theorem px_hc12 : px_hcP 12 := rfl
set_option maxRecDepth 20000 in
theorem px_hc13 : px_hcP 13 := rfl
set_option maxRecDepth 20000 in
theorem px_hc14 : px_hcP 14 := rfl
set_option maxRecDepth 20000 in
theorem px_hc15 : px_hcP 15 := rfl
set_option maxRecDepth 20000 in
theorem px_hc16 : px_hcP 16 := rfl
set_option maxRecDepth 20000 in
theorem px_hc17 : px_hcP 17 := rfl
set_option maxRecDepth 20000 in
theorem px_hc18 : px_hcP 18 := rfl
set_option maxRecDepth 20000 in
theorem px_hc19 : px_hcP 19 := rfl
set_option maxRecDepth 20000 in
theorem px_hc20 : px_hcP 20 := rfl
set_option maxRecDepth 20000 in
theorem px_hc21 : px_hcP 21 := rfl
set_option maxRecDepth 20000 in
theorem px_hc22 : px_hcP 22 := rfl
set_option maxRecDepth 20000 in
theorem px_hc23 : px_hcP 23 := rfl
set_option maxRecDepth 20000 in
theorem px_hc24 : px_hcP 24 := rfl
set_option maxRecDepth 20000 in
theorem px_hc25 : px_hcP 25 := rfl
set_option maxRecDepth 20000 in
theorem px_hc26 : px_hcP 26 := rfl
set_option maxRecDepth 20000 in
theorem px_hc27 : px_hcP 27 := rfl
set_option maxRecDepth 20000 in
theorem px_hc28 : px_hcP 28 := rfl
set_option maxRecDepth 20000 in
theorem px_hc29 : px_hcP 29 := rfl
set_option maxRecDepth 20000 in
theorem px_hc30 : px_hcP 30 := rfl
set_option maxRecDepth 20000 in
theorem px_hc31 : px_hcP 31 := rfl
set_option maxRecDepth 20000 in
theorem px_hc32 : px_hcP 32 := rfl
set_option maxRecDepth 20000 in
theorem px_hc33 : px_hcP 33 := rfl
set_option maxRecDepth 20000 in
theorem px_hc34 : px_hcP 34 := rfl
set_option maxRecDepth 20000 in
theorem px_hc35 : px_hcP 35 := rfl
set_option maxRecDepth 20000 in
theorem px_hc36 : px_hcP 36 := rfl
set_option maxRecDepth 20000 in
theorem px_hc37 : px_hcP 37 := rfl
set_option maxRecDepth 20000 in
theorem px_hc38 : px_hcP 38 := rfl
set_option maxRecDepth 20000 in
theorem px_hc39 : px_hcP 39 := rfl
set_option maxRecDepth 20000 in
theorem px_hc40 : px_hcP 40 := rfl
set_option maxRecDepth 20000 in
theorem px_hc41 : px_hcP 41 := rfl
set_option maxRecDepth 20000 in
theorem px_hc42 : px_hcP 42 := rfl
set_option maxRecDepth 20000 in
theorem px_hc43 : px_hcP 43 := rfl
set_option maxRecDepth 20000 in
theorem px_hc44 : px_hcP 44 := rfl
set_option maxRecDepth 20000 in
theorem px_hc45 : px_hcP 45 := rfl
set_option maxRecDepth 20000 in
theorem px_hc46 : px_hcP 46 := rfl
set_option maxRecDepth 20000 in
theorem px_hc47 : px_hcP 47 := rfl
set_option maxRecDepth 20000 in
theorem px_hc48 : px_hcP 48 := rfl
set_option maxRecDepth 20000 in
theorem px_hc49 : px_hcP 49 := rfl
set_option maxRecDepth 20000 in
theorem px_hc50 : px_hcP 50 := rfl
set_option maxRecDepth 20000 in
theorem px_hc51 : px_hcP 51 := rfl
set_option maxRecDepth 20000 in
theorem px_hc52 : px_hcP 52 := rfl
set_option maxRecDepth 20000 in
theorem px_hc53 : px_hcP 53 := rfl
set_option maxRecDepth 20000 in
theorem px_hc54 : px_hcP 54 := rfl
set_option maxRecDepth 20000 in
theorem px_hc55 : px_hcP 55 := rfl
set_option maxRecDepth 20000 in
theorem px_hc56 : px_hcP 56 := rfl
set_option maxRecDepth 20000 in
theorem px_hc57 : px_hcP 57 := rfl
set_option maxRecDepth 20000 in
theorem px_hc58 : px_hcP 58 := rfl
set_option maxRecDepth 20000 in
theorem px_hc59 : px_hcP 59 := rfl
set_option maxRecDepth 20000 in
theorem px_hc60 : px_hcP 60 := rfl
set_option maxRecDepth 20000 in
theorem px_hc61 : px_hcP 61 := rfl
set_option maxRecDepth 20000 in
theorem px_hc62 : px_hcP 62 := rfl
set_option maxRecDepth 20000 in
theorem px_hc63 : px_hcP 63 := rfl
set_option maxRecDepth 20000 in
theorem px_hc64 : px_hcP 64 := rfl
set_option maxRecDepth 20000 in
theorem px_hc65 : px_hcP 65 := rfl
set_option maxRecDepth 20000 in
theorem px_hc66 : px_hcP 66 := rfl
set_option maxRecDepth 20000 in
theorem px_hc67 : px_hcP 67 := rfl
set_option maxRecDepth 20000 in
theorem px_hc68 : px_hcP 68 := rfl
set_option maxRecDepth 20000 in
theorem px_hc69 : px_hcP 69 := rfl
set_option maxRecDepth 20000 in
theorem px_hc70 : px_hcP 70 := rfl
set_option maxRecDepth 20000 in
theorem px_hc71 : px_hcP 71 := rfl
set_option maxRecDepth 20000 in
theorem px_hc72 : px_hcP 72 := rfl
set_option maxRecDepth 20000 in
theorem px_hc73 : px_hcP 73 := rfl
set_option maxRecDepth 20000 in
theorem px_hc74 : px_hcP 74 := rfl
set_option maxRecDepth 20000 in
theorem px_hc75 : px_hcP 75 := rfl
set_option maxRecDepth 20000 in
theorem px_hc76 : px_hcP 76 := rfl
set_option maxRecDepth 20000 in
theorem px_hc77 : px_hcP 77 := rfl
set_option maxRecDepth 20000 in
theorem px_hc78 : px_hcP 78 := rfl
set_option maxRecDepth 20000 in
theorem px_hc79 : px_hcP 79 := rfl
set_option maxRecDepth 20000 in
theorem px_hc80 : px_hcP 80 := rfl
set_option maxRecDepth 20000 in
theorem px_hc81 : px_hcP 81 := rfl
set_option maxRecDepth 20000 in
theorem px_hc82 : px_hcP 82 := rfl
set_option maxRecDepth 20000 in
theorem px_hc83 : px_hcP 83 := rfl
set_option maxRecDepth 20000 in
theorem px_hc84 : px_hcP 84 := rfl
set_option maxRecDepth 20000 in
theorem px_hc85 : px_hcP 85 := rfl
set_option maxRecDepth 20000 in
theorem px_hc86 : px_hcP 86 := rfl
set_option maxRecDepth 20000 in
theorem px_hc87 : px_hcP 87 := rfl
set_option maxRecDepth 20000 in
theorem px_hc88 : px_hcP 88 := rfl
set_option maxRecDepth 20000 in
theorem px_hc89 : px_hcP 89 := rfl
set_option maxRecDepth 20000 in
theorem px_hc90 : px_hcP 90 := rfl
set_option maxRecDepth 20000 in
theorem px_hc91 : px_hcP 91 := rfl
set_option maxRecDepth 20000 in
theorem px_hc92 : px_hcP 92 := rfl
set_option maxRecDepth 20000 in
theorem px_hc93 : px_hcP 93 := rfl
set_option maxRecDepth 20000 in
theorem px_hc94 : px_hcP 94 := rfl
set_option maxRecDepth 20000 in
theorem px_hc95 : px_hcP 95 := rfl
set_option maxRecDepth 20000 in
theorem px_hc96 : px_hcP 96 := rfl
set_option maxRecDepth 20000 in
theorem px_hc97 : px_hcP 97 := rfl
set_option maxRecDepth 20000 in
theorem px_hc98 : px_hcP 98 := rfl
set_option maxRecDepth 20000 in
theorem px_hc99 : px_hcP 99 := rfl
set_option maxRecDepth 20000 in
theorem px_hc100 : px_hcP 100 := rfl
set_option maxRecDepth 20000 in
theorem px_hc101 : px_hcP 101 := rfl
set_option maxRecDepth 20000 in
theorem px_hc102 : px_hcP 102 := rfl
set_option maxRecDepth 20000 in
theorem px_hc103 : px_hcP 103 := rfl
set_option maxRecDepth 20000 in
theorem px_hc104 : px_hcP 104 := rfl
set_option maxRecDepth 20000 in
theorem px_hc105 : px_hcP 105 := rfl
set_option maxRecDepth 20000 in
theorem px_hc106 : px_hcP 106 := rfl
set_option maxRecDepth 20000 in
theorem px_hc107 : px_hcP 107 := rfl
set_option maxRecDepth 20000 in
theorem px_hc108 : px_hcP 108 := rfl
set_option maxRecDepth 20000 in
theorem px_hc109 : px_hcP 109 := rfl
set_option maxRecDepth 20000 in
theorem px_hc110 : px_hcP 110 := rfl
set_option maxRecDepth 20000 in
theorem px_hc111 : px_hcP 111 := rfl
set_option maxRecDepth 20000 in
theorem px_hc112 : px_hcP 112 := rfl
set_option maxRecDepth 20000 in
theorem px_hc113 : px_hcP 113 := rfl
set_option maxRecDepth 20000 in
theorem px_hc114 : px_hcP 114 := rfl
set_option maxRecDepth 20000 in
theorem px_hc115 : px_hcP 115 := rfl
set_option maxRecDepth 20000 in
theorem px_hc116 : px_hcP 116 := rfl
set_option maxRecDepth 20000 in
theorem px_hc117 : px_hcP 117 := rfl
set_option maxRecDepth 20000 in
theorem px_hc118 : px_hcP 118 := rfl
set_option maxRecDepth 20000 in
theorem px_hc119 : px_hcP 119 := rfl
set_option maxRecDepth 20000 in
theorem px_hc120 : px_hcP 120 := rfl
set_option maxRecDepth 20000 in
theorem px_hc121 : px_hcP 121 := rfl
set_option maxRecDepth 20000 in
theorem px_hc122 : px_hcP 122 := rfl
set_option maxRecDepth 20000 in
theorem px_hc123 : px_hcP 123 := rfl
set_option maxRecDepth 20000 in
theorem px_hc124 : px_hcP 124 := rfl
set_option maxRecDepth 20000 in
theorem px_hc125 : px_hcP 125 := rfl
set_option maxRecDepth 20000 in
theorem px_hc126 : px_hcP 126 := rfl
set_option maxRecDepth 20000 in
theorem px_hc127 : px_hcP 127 := rfl
set_option maxRecDepth 20000 in
theorem px_hc128 : px_hcP 128 := rfl
set_option maxRecDepth 20000 in
theorem px_hc129 : px_hcP 129 := rfl
set_option maxRecDepth 20000 in
theorem px_hc130 : px_hcP 130 := rfl
set_option maxRecDepth 20000 in
theorem px_hc131 : px_hcP 131 := rfl
set_option maxRecDepth 20000 in
theorem px_hc132 : px_hcP 132 := rfl
set_option maxRecDepth 20000 in
theorem px_hc133 : px_hcP 133 := rfl
set_option maxRecDepth 20000 in
theorem px_hc134 : px_hcP 134 := rfl
set_option maxRecDepth 20000 in
theorem px_hc135 : px_hcP 135 := rfl
set_option maxRecDepth 20000 in
theorem px_hc136 : px_hcP 136 := rfl
set_option maxRecDepth 20000 in
theorem px_hc137 : px_hcP 137 := rfl
set_option maxRecDepth 20000 in
theorem px_hc138 : px_hcP 138 := rfl
set_option maxRecDepth 20000 in
theorem px_hc139 : px_hcP 139 := rfl
set_option maxRecDepth 20000 in
theorem px_hc140 : px_hcP 140 := rfl
set_option maxRecDepth 20000 in
theorem px_hc141 : px_hcP 141 := rfl
set_option maxRecDepth 20000 in
theorem px_hc142 : px_hcP 142 := rfl
set_option maxRecDepth 20000 in
theorem px_hc143 : px_hcP 143 := rfl
set_option maxRecDepth 20000 in
theorem px_hc144 : px_hcP 144 := rfl
set_option maxRecDepth 20000 in
theorem px_hc145 : px_hcP 145 := rfl
set_option maxRecDepth 20000 in
theorem px_hc146 : px_hcP 146 := rfl
set_option maxRecDepth 20000 in
theorem px_hc147 : px_hcP 147 := rfl
set_option maxRecDepth 20000 in
theorem px_hc148 : px_hcP 148 := rfl
set_option maxRecDepth 20000 in
theorem px_hc149 : px_hcP 149 := rfl
set_option maxRecDepth 20000 in
theorem px_hc150 : px_hcP 150 := rfl
set_option maxRecDepth 20000 in
theorem px_hc151 : px_hcP 151 := rfl
set_option maxRecDepth 20000 in
theorem px_hc152 : px_hcP 152 := rfl
set_option maxRecDepth 20000 in
theorem px_hc153 : px_hcP 153 := rfl
set_option maxRecDepth 20000 in
theorem px_hc154 : px_hcP 154 := rfl
set_option maxRecDepth 20000 in
theorem px_hc155 : px_hcP 155 := rfl
set_option maxRecDepth 20000 in
theorem px_hc156 : px_hcP 156 := rfl
set_option maxRecDepth 20000 in
theorem px_hc157 : px_hcP 157 := rfl
set_option maxRecDepth 20000 in
theorem px_hc158 : px_hcP 158 := rfl
set_option maxRecDepth 20000 in
theorem px_hc159 : px_hcP 159 := rfl
set_option maxRecDepth 20000 in
theorem px_hc160 : px_hcP 160 := rfl
set_option maxRecDepth 20000 in
theorem px_hc161 : px_hcP 161 := rfl
set_option maxRecDepth 20000 in
theorem px_hc162 : px_hcP 162 := rfl
set_option maxRecDepth 20000 in
theorem px_hc163 : px_hcP 163 := rfl
set_option maxRecDepth 20000 in
theorem px_hc164 : px_hcP 164 := rfl
set_option maxRecDepth 20000 in
theorem px_hc165 : px_hcP 165 := rfl
set_option maxRecDepth 20000 in
theorem px_hc166 : px_hcP 166 := rfl
set_option maxRecDepth 20000 in
theorem px_hc167 : px_hcP 167 := rfl
set_option maxRecDepth 20000 in
theorem px_hc168 : px_hcP 168 := rfl
set_option maxRecDepth 20000 in
theorem px_hc169 : px_hcP 169 := rfl
set_option maxRecDepth 20000 in
theorem px_hc170 : px_hcP 170 := rfl
set_option maxRecDepth 20000 in
theorem px_hc171 : px_hcP 171 := rfl
set_option maxRecDepth 20000 in
theorem px_hc172 : px_hcP 172 := rfl
set_option maxRecDepth 20000 in
theorem px_hc173 : px_hcP 173 := rfl
set_option maxRecDepth 20000 in
theorem px_hc174 : px_hcP 174 := rfl
set_option maxRecDepth 20000 in
theorem px_hc175 : px_hcP 175 := rfl
set_option maxRecDepth 20000 in
theorem px_hc176 : px_hcP 176 := rfl
set_option maxRecDepth 20000 in
theorem px_hc177 : px_hcP 177 := rfl
set_option maxRecDepth 20000 in
theorem px_hc178 : px_hcP 178 := rfl
set_option maxRecDepth 20000 in
theorem px_hc179 : px_hcP 179 := rfl
set_option maxRecDepth 20000 in
theorem px_hc180 : px_hcP 180 := rfl
set_option maxRecDepth 20000 in
theorem px_hc181 : px_hcP 181 := rfl
set_option maxRecDepth 20000 in
theorem px_hc182 : px_hcP 182 := rfl
set_option maxRecDepth 20000 in
theorem px_hc183 : px_hcP 183 := rfl
set_option maxRecDepth 20000 in
theorem px_hc184 : px_hcP 184 := rfl
set_option maxRecDepth 20000 in
theorem px_hc185 : px_hcP 185 := rfl
set_option maxRecDepth 20000 in
theorem px_hc186 : px_hcP 186 := rfl
set_option maxRecDepth 20000 in
theorem px_hc187 : px_hcP 187 := rfl
set_option maxRecDepth 20000 in
theorem px_hc188 : px_hcP 188 := rfl
set_option maxRecDepth 20000 in
theorem px_hc189 : px_hcP 189 := rfl
set_option maxRecDepth 20000 in
theorem px_hc190 : px_hcP 190 := rfl
set_option maxRecDepth 20000 in
theorem px_hc191 : px_hcP 191 := rfl
set_option maxRecDepth 20000 in
theorem px_hc192 : px_hcP 192 := rfl
set_option maxRecDepth 20000 in
theorem px_hc193 : px_hcP 193 := rfl
set_option maxRecDepth 20000 in
theorem px_hc194 : px_hcP 194 := rfl
set_option maxRecDepth 20000 in
theorem px_hc195 : px_hcP 195 := rfl
set_option maxRecDepth 20000 in
theorem px_hc196 : px_hcP 196 := rfl
set_option maxRecDepth 20000 in
theorem px_hc197 : px_hcP 197 := rfl
set_option maxRecDepth 20000 in
theorem px_hc198 : px_hcP 198 := rfl
set_option maxRecDepth 20000 in
theorem px_hc199 : px_hcP 199 := rfl
set_option maxRecDepth 20000 in
theorem px_hc200 : px_hcP 200 := rfl
set_option maxRecDepth 20000 in
theorem px_hc201 : px_hcP 201 := rfl
set_option maxRecDepth 20000 in
theorem px_hc202 : px_hcP 202 := rfl
set_option maxRecDepth 20000 in
theorem px_hc203 : px_hcP 203 := rfl
set_option maxRecDepth 20000 in
theorem px_hc204 : px_hcP 204 := rfl
set_option maxRecDepth 20000 in
theorem px_hc205 : px_hcP 205 := rfl
set_option maxRecDepth 20000 in
theorem px_hc206 : px_hcP 206 := rfl
set_option maxRecDepth 20000 in
theorem px_hc207 : px_hcP 207 := rfl
set_option maxRecDepth 20000 in
theorem px_hc208 : px_hcP 208 := rfl
set_option maxRecDepth 20000 in
theorem px_hc209 : px_hcP 209 := rfl
set_option maxRecDepth 20000 in
theorem px_hc210 : px_hcP 210 := rfl
set_option maxRecDepth 20000 in
theorem px_hc211 : px_hcP 211 := rfl
set_option maxRecDepth 20000 in
theorem px_hc212 : px_hcP 212 := rfl
set_option maxRecDepth 20000 in
theorem px_hc213 : px_hcP 213 := rfl
set_option maxRecDepth 20000 in
theorem px_hc214 : px_hcP 214 := rfl
set_option maxRecDepth 20000 in
theorem px_hc215 : px_hcP 215 := rfl
set_option maxRecDepth 20000 in
theorem px_hc216 : px_hcP 216 := rfl
set_option maxRecDepth 20000 in
theorem px_hc217 : px_hcP 217 := rfl
set_option maxRecDepth 20000 in
theorem px_hc218 : px_hcP 218 := rfl
set_option maxRecDepth 20000 in
theorem px_hc219 : px_hcP 219 := rfl
set_option maxRecDepth 20000 in
theorem px_hc220 : px_hcP 220 := rfl
set_option maxRecDepth 20000 in
theorem px_hc221 : px_hcP 221 := rfl
set_option maxRecDepth 20000 in
theorem px_hc222 : px_hcP 222 := rfl
set_option maxRecDepth 20000 in
theorem px_hc223 : px_hcP 223 := rfl
set_option maxRecDepth 20000 in
theorem px_hc224 : px_hcP 224 := rfl
set_option maxRecDepth 20000 in
theorem px_hc225 : px_hcP 225 := rfl
set_option maxRecDepth 20000 in
theorem px_hc226 : px_hcP 226 := rfl
set_option maxRecDepth 20000 in
theorem px_hc227 : px_hcP 227 := rfl
set_option maxRecDepth 20000 in
theorem px_hc228 : px_hcP 228 := rfl
set_option maxRecDepth 20000 in
theorem px_hc229 : px_hcP 229 := rfl
set_option maxRecDepth 20000 in
theorem px_hc230 : px_hcP 230 := rfl
set_option maxRecDepth 20000 in
theorem px_hc231 : px_hcP 231 := rfl
set_option maxRecDepth 20000 in
theorem px_hc232 : px_hcP 232 := rfl
set_option maxRecDepth 20000 in
theorem px_hc233 : px_hcP 233 := rfl
set_option maxRecDepth 20000 in
theorem px_hc234 : px_hcP 234 := rfl
set_option maxRecDepth 20000 in
theorem px_hc235 : px_hcP 235 := rfl
set_option maxRecDepth 20000 in
theorem px_hc236 : px_hcP 236 := rfl
set_option maxRecDepth 20000 in
theorem px_hc237 : px_hcP 237 := rfl
set_option maxRecDepth 20000 in
theorem px_hc238 : px_hcP 238 := rfl
set_option maxRecDepth 20000 in
theorem px_hc239 : px_hcP 239 := rfl
set_option maxRecDepth 20000 in
theorem px_hc240 : px_hcP 240 := rfl
set_option maxRecDepth 20000 in
theorem px_hc241 : px_hcP 241 := rfl
set_option maxRecDepth 20000 in
theorem px_hc242 : px_hcP 242 := rfl
set_option maxRecDepth 20000 in
theorem px_hc243 : px_hcP 243 := rfl
set_option maxRecDepth 20000 in
theorem px_hc244 : px_hcP 244 := rfl
set_option maxRecDepth 20000 in
theorem px_hc245 : px_hcP 245 := rfl
set_option maxRecDepth 20000 in
theorem px_hc246 : px_hcP 246 := rfl
set_option maxRecDepth 20000 in
theorem px_hc247 : px_hcP 247 := rfl
set_option maxRecDepth 20000 in
theorem px_hc248 : px_hcP 248 := rfl
set_option maxRecDepth 20000 in
theorem px_hc249 : px_hcP 249 := rfl
set_option maxRecDepth 20000 in
theorem px_hc250 : px_hcP 250 := rfl
set_option maxRecDepth 20000 in
theorem px_hc251 : px_hcP 251 := rfl
set_option maxRecDepth 20000 in
theorem px_hc252 : px_hcP 252 := rfl
set_option maxRecDepth 20000 in
theorem px_hc253 : px_hcP 253 := rfl
set_option maxRecDepth 20000 in
theorem px_hc254 : px_hcP 254 := rfl
set_option maxRecDepth 20000 in
theorem px_hc255 : px_hcP 255 := rfl
set_option maxRecDepth 20000 in
theorem px_hc256 : px_hcP 256 := rfl
set_option maxRecDepth 20000 in
theorem px_hc257 : px_hcP 257 := rfl
set_option maxRecDepth 20000 in
theorem px_hc258 : px_hcP 258 := rfl
set_option maxRecDepth 20000 in
theorem px_hc259 : px_hcP 259 := rfl
theorem px_hcA0 : ∀ k ∈ [0, 1, 2, 3, 4, 5, 6, 7, 8, 9, 10, 11, 12, 13, 14, 15, 16, 17, 18, 19], px_hcP k := List.forall_mem_cons.mpr ⟨px_hc0, List.forall_mem_cons.mpr ⟨px_hc1, List.forall_mem_cons.mpr ⟨px_hc2, List.forall_mem_cons.mpr ⟨px_hc3, List.forall_mem_cons.mpr ⟨px_hc4, List.forall_mem_cons.mpr ⟨px_hc5, List.forall_mem_cons.mpr ⟨px_hc6, List.forall_mem_cons.mpr ⟨px_hc7, List.forall_mem_cons.mpr ⟨px_hc8, List.forall_mem_cons.mpr ⟨px_hc9, List.forall_mem_cons.mpr ⟨px_hc10, List.forall_mem_cons.mpr ⟨px_hc11, List.forall_mem_cons.mpr ⟨px_hc12, List.forall_mem_cons.mpr ⟨px_hc13, List.forall_mem_cons.mpr ⟨px_hc14, List.forall_mem_cons.mpr ⟨px_hc15, List.forall_mem_cons.mpr ⟨px_hc16, List.forall_mem_cons.mpr ⟨px_hc17, List.forall_mem_cons.mpr ⟨px_hc18, List.forall_mem_cons.mpr ⟨px_hc19, fun _ h => absurd h List.not_mem_nil⟩⟩⟩⟩⟩⟩⟩⟩⟩⟩⟩⟩⟩⟩⟩⟩⟩⟩⟩⟩
theorem px_hcA20 : ∀ k ∈ [20, 21, 22, 23, 24, 25, 26, 27, 28, 29, 30, 31, 32, 33, 34, 35, 36, 37, 38, 39], px_hcP k := List.forall_mem_cons.mpr ⟨px_hc20, List.forall_mem_cons.mpr ⟨px_hc21, List.forall_mem_cons.mpr ⟨px_hc22, List.forall_mem_cons.mpr ⟨px_hc23, List.forall_mem_cons.mpr ⟨px_hc24, List.forall_mem_cons.mpr ⟨px_hc25, List.forall_mem_cons.mpr ⟨px_hc26, List.forall_mem_cons.mpr ⟨px_hc27, List.forall_mem_cons.mpr ⟨px_hc28, List.forall_mem_cons.mpr ⟨px_hc29, List.forall_mem_cons.mpr ⟨px_hc30, List.forall_mem_cons.mpr ⟨px_hc31, List.forall_mem_cons.mpr ⟨px_hc32, List.forall_mem_cons.mpr ⟨px_hc33, List.forall_mem_cons.mpr ⟨px_hc34, List.forall_mem_cons.mpr ⟨px_hc35, List.forall_mem_cons.mpr ⟨px_hc36, List.forall_mem_cons.mpr ⟨px_hc37, List.forall_mem_cons.mpr ⟨px_hc38, List.forall_mem_cons.mpr ⟨px_hc39, fun _ h => absurd h List.not_mem_nil⟩⟩⟩⟩⟩⟩⟩⟩⟩⟩⟩⟩⟩⟩⟩⟩⟩⟩⟩⟩
theorem px_hcA40 : ∀ k ∈ [40, 41, 42, 43, 44, 45, 46, 47, 48, 49, 50, 51, 52, 53, 54, 55, 56, 57, 58, 59], px_hcP k := List.forall_mem_cons.mpr ⟨px_hc40, List.forall_mem_cons.mpr ⟨px_hc41, List.forall_mem_cons.mpr ⟨px_hc42, List.forall_mem_cons.mpr ⟨px_hc43, List.forall_mem_cons.mpr ⟨px_hc44, List.forall_mem_cons.mpr ⟨px_hc45, List.forall_mem_cons.mpr ⟨px_hc46, List.forall_mem_cons.mpr ⟨px_hc47, List.forall_mem_cons.mpr ⟨px_hc48, List.forall_mem_cons.mpr ⟨px_hc49, List.forall_mem_cons.mpr ⟨px_hc50, List.forall_mem_cons.mpr ⟨px_hc51, List.forall_mem_cons.mpr ⟨px_hc52, List.forall_mem_cons.mpr ⟨px_hc53, List.forall_mem_cons.mpr ⟨px_hc54, List.forall_mem_cons.mpr ⟨px_hc55, List.forall_mem_cons.mpr ⟨px_hc56, List.forall_mem_cons.mpr ⟨px_hc57, List.forall_mem_cons.mpr ⟨px_hc58, List.forall_mem_cons.mpr ⟨px_hc59, fun _ h => absurd h List.not_mem_nil⟩⟩⟩⟩⟩⟩⟩⟩⟩⟩⟩⟩⟩⟩⟩⟩⟩⟩⟩⟩
theorem px_hcA60 : ∀ k ∈ [60, 61, 62, 63, 64, 65, 66, 67, 68, 69, 70, 71, 72, 73, 74, 75, 76, 77, 78, 79], px_hcP k := List.forall_mem_cons.mpr ⟨px_hc60, List.forall_mem_cons.mpr ⟨px_hc61, List.forall_mem_cons.mpr ⟨px_hc62, List.forall_mem_cons.mpr ⟨px_hc63, List.forall_mem_cons.mpr ⟨px_hc64, List.forall_mem_cons.mpr ⟨px_hc65, List.forall_mem_cons.mpr ⟨px_hc66, List.forall_mem_cons.mpr ⟨px_hc67, List.forall_mem_cons.mpr ⟨px_hc68, List.forall_mem_cons.mpr ⟨px_hc69, List.forall_mem_cons.mpr ⟨px_hc70, List.forall_mem_cons.mpr ⟨px_hc71, List.forall_mem_cons.mpr ⟨px_hc72, List.forall_mem_cons.mpr ⟨px_hc73, List.forall_mem_cons.mpr ⟨px_hc74, List.forall_mem_cons.mpr ⟨px_hc75, List.forall_mem_cons.mpr ⟨px_hc76, List.forall_mem_cons.mpr ⟨px_hc77, List.forall_mem_cons.mpr ⟨px_hc78, List.forall_mem_cons.mpr ⟨px_hc79, fun _ h => absurd h List.not_mem_nil⟩⟩⟩⟩⟩⟩⟩⟩⟩⟩⟩⟩⟩⟩⟩⟩⟩⟩⟩⟩
theorem px_hcA80 : ∀ k ∈ [80, 81, 82, 83, 84, 85, 86, 87, 88, 89, 90, 91, 92, 93, 94, 95, 96, 97, 98, 99], px_hcP k := List.forall_mem_cons.mpr ⟨px_hc80, List.forall_mem_cons.mpr ⟨px_hc81, List.forall_mem_cons.mpr ⟨px_hc82, List.forall_mem_cons.mpr ⟨px_hc83, List.forall_mem_cons.mpr ⟨px_hc84, List.forall_mem_cons.mpr ⟨px_hc85, List.forall_mem_cons.mpr ⟨px_hc86, List.forall_mem_cons.mpr ⟨px_hc87, List.forall_mem_cons.mpr ⟨px_hc88, List.forall_mem_cons.mpr ⟨px_hc89, List.forall_mem_cons.mpr ⟨px_hc90, List.forall_mem_cons.mpr ⟨px_hc91, List.forall_mem_cons.mpr ⟨px_hc92, List.forall_mem_cons.mpr ⟨px_hc93, List.forall_mem_cons.mpr ⟨px_hc94, List.forall_mem_cons.mpr ⟨px_hc95, List.forall_mem_cons.mpr ⟨px_hc96, List.forall_mem_cons.mpr ⟨px_hc97, List.forall_mem_cons.mpr ⟨px_hc98, List.forall_mem_cons.mpr ⟨px_hc99, fun _ h => absurd h List.not_mem_nil⟩⟩⟩⟩⟩⟩⟩⟩⟩⟩⟩⟩⟩⟩⟩⟩⟩⟩⟩⟩
theorem px_hcA100 : ∀ k ∈ [100, 101, 102, 103, 104, 105, 106, 107, 108, 109, 110, 111, 112, 113, 114, 115, 116, 117, 118, 119], px_hcP k := List.forall_mem_cons.mpr ⟨px_hc100, List.forall_mem_cons.mpr ⟨px_hc101, List.forall_mem_cons.mpr ⟨px_hc102, List.forall_mem_cons.mpr ⟨px_hc103, List.forall_mem_cons.mpr ⟨px_hc104, List.forall_mem_cons.mpr ⟨px_hc105, List.forall_mem_cons.mpr ⟨px_hc106, List.forall_mem_cons.mpr ⟨px_hc107, List.forall_mem_cons.mpr ⟨px_hc108, List.forall_mem_cons.mpr ⟨px_hc109, List.forall_mem_cons.mpr ⟨px_hc110, List.forall_mem_cons.mpr ⟨px_hc111, List.forall_mem_cons.mpr ⟨px_hc112, List.forall_mem_cons.mpr ⟨px_hc113, List.forall_mem_cons.mpr ⟨px_hc114, List.forall_mem_cons.mpr ⟨px_hc115, List.forall_mem_cons.mpr ⟨px_hc116, List.forall_mem_cons.mpr ⟨px_hc117, List.forall_mem_cons.mpr ⟨px_hc118, List.forall_mem_cons.mpr ⟨px_hc119, fun _ h => absurd h List.not_mem_nil⟩⟩⟩⟩⟩⟩⟩⟩⟩⟩⟩⟩⟩⟩⟩⟩⟩⟩⟩⟩
theorem px_hcA120 : ∀ k ∈ [120, 121, 122, 123, 124, 125, 126, 127, 128, 129, 130, 131, 132, 133, 134, 135, 136, 137, 138, 139], px_hcP k := List.forall_mem_cons.mpr ⟨px_hc120, List.forall_mem_cons.mpr ⟨px_hc121, List.forall_mem_cons.mpr ⟨px_hc122, List.forall_mem_cons.mpr ⟨px_hc123, List.forall_mem_cons.mpr ⟨px_hc124, List.forall_mem_cons.mpr ⟨px_hc125, List.forall_mem_cons.mpr ⟨px_hc126, List.forall_mem_cons.mpr ⟨px_hc127, List.forall_mem_cons.mpr ⟨px_hc128, List.forall_mem_cons.mpr ⟨px_hc129, List.forall_mem_cons.mpr ⟨px_hc130, List.forall_mem_cons.mpr ⟨px_hc131, List.forall_mem_cons.mpr ⟨px_hc132, List.forall_mem_cons.mpr ⟨px_hc133, List.forall_mem_cons.mpr ⟨px_hc134, List.forall_mem_cons.mpr ⟨px_hc135, List.forall_mem_cons.mpr ⟨px_hc136, List.forall_mem_cons.mpr ⟨px_hc137, List.forall_mem_cons.mpr ⟨px_hc138, List.forall_mem_cons.mpr ⟨px_hc139, fun _ h => absurd h List.not_mem_nil⟩⟩⟩⟩⟩⟩⟩⟩⟩⟩⟩⟩⟩⟩⟩⟩⟩⟩⟩⟩
theorem px_hcA140 : ∀ k ∈ [140, 141, 142, 143, 144, 145, 146, 147, 148, 149, 150, 151, 152, 153, 154, 155, 156, 157, 158, 159], px_hcP k := List.forall_mem_cons.mpr ⟨px_hc140, List.forall_mem_cons.mpr ⟨px_hc141, List.forall_mem_cons.mpr ⟨px_hc142, List.forall_mem_cons.mpr ⟨px_hc143, List.forall_mem_cons.mpr ⟨px_hc144, List.forall_mem_cons.mpr ⟨px_hc145, List.forall_mem_cons.mpr ⟨px_hc146, List.forall_mem_cons.mpr ⟨px_hc147, List.forall_mem_cons.mpr ⟨px_hc148, List.forall_mem_cons.mpr ⟨px_hc149, List.forall_mem_cons.mpr ⟨px_hc150, List.forall_mem_cons.mpr ⟨px_hc151, List.forall_mem_cons.mpr ⟨px_hc152, List.forall_mem_cons.mpr ⟨px_hc153, List.forall_mem_cons.mpr ⟨px_hc154, List.forall_mem_cons.mpr ⟨px_hc155, List.forall_mem_cons.mpr ⟨px_hc156, List.forall_mem_cons.mpr ⟨px_hc157, List.forall_mem_cons.mpr ⟨px_hc158, List.forall_mem_cons.mpr ⟨px_hc159, fun _ h => absurd h List.not_mem_nil⟩⟩⟩⟩⟩⟩⟩⟩⟩⟩⟩⟩⟩⟩⟩⟩⟩⟩⟩⟩
theorem px_hcA160 : ∀ k ∈ [160, 161, 162, 163, 164, 165, 166, 167, 168, 169, 170, 171, 172, 173, 174, 175, 176, 177, 178, 179], px_hcP k := List.forall_mem_cons.mpr ⟨px_hc160, List.forall_mem_cons.mpr ⟨px_hc161, List.forall_mem_cons.mpr ⟨px_hc162, List.forall_mem_cons.mpr ⟨px_hc163, List.forall_mem_cons.mpr ⟨px_hc164, List.forall_mem_cons.mpr ⟨px_hc165, List.forall_mem_cons.mpr ⟨px_hc166, List.forall_mem_cons.mpr ⟨px_hc167, List.forall_mem_cons.mpr ⟨px_hc168, List.forall_mem_cons.mpr ⟨px_hc169, List.forall_mem_cons.mpr ⟨px_hc170, List.forall_mem_cons.mpr ⟨px_hc171, List.forall_mem_cons.mpr ⟨px_hc172, List.forall_mem_cons.mpr ⟨px_hc173, List.forall_mem_cons.mpr ⟨px_hc174, List.forall_mem_cons.mpr ⟨px_hc175, List.forall_mem_cons.mpr ⟨px_hc176, List.forall_mem_cons.mpr ⟨px_hc177, List.forall_mem_cons.mpr ⟨px_hc178, List.forall_mem_cons.mpr ⟨px_hc179, fun _ h => absurd h List.not_mem_nil⟩⟩⟩⟩⟩⟩⟩⟩⟩⟩⟩⟩⟩⟩⟩⟩⟩⟩⟩⟩
theorem px_hcA180 : ∀ k ∈ [180, 181, 182, 183, 184, 185, 186, 187, 188, 189, 190, 191, 192, 193, 194, 195, 196, 197, 198, 199], px_hcP k := List.forall_mem_cons.mpr ⟨px_hc180, List.forall_mem_cons.mpr ⟨px_hc181, List.forall_mem_cons.mpr ⟨px_hc182, List.forall_mem_cons.mpr ⟨px_hc183, List.forall_mem_cons.mpr ⟨px_hc184, List.forall_mem_cons.mpr ⟨px_hc185, List.forall_mem_cons.mpr ⟨px_hc186, List.forall_mem_cons.mpr ⟨px_hc187, List.forall_mem_cons.mpr ⟨px_hc188, List.forall_mem_cons.mpr ⟨px_hc189, List.forall_mem_cons.mpr ⟨px_hc190, List.forall_mem_cons.mpr ⟨px_hc191, List.forall_mem_cons.mpr ⟨px_hc192, List.forall_mem_cons.mpr ⟨px_hc193, List.forall_mem_cons.mpr ⟨px_hc194, List.forall_mem_cons.mpr ⟨px_hc195, List.forall_mem_cons.mpr ⟨px_hc196, List.forall_mem_cons.mpr ⟨px_hc197, List.forall_mem_cons.mpr ⟨px_hc198, List.forall_mem_cons.mpr ⟨px_hc199, fun _ h => absurd h List.not_mem_nil⟩⟩⟩⟩⟩⟩⟩⟩⟩⟩⟩⟩⟩⟩⟩⟩⟩⟩⟩⟩
theorem px_hcA200 : ∀ k ∈ [200, 201, 202, 203, 204, 205, 206, 207, 208, 209, 210, 211, 212, 213, 214, 215, 216, 217, 218, 219], px_hcP k := List.forall_mem_cons.mpr ⟨px_hc200, List.forall_mem_cons.mpr ⟨px_hc201, List.forall_mem_cons.mpr ⟨px_hc202, List.forall_mem_cons.mpr ⟨px_hc203, List.forall_mem_cons.mpr ⟨px_hc204, List.forall_mem_cons.mpr ⟨px_hc205, List.forall_mem_cons.mpr ⟨px_hc206, List.forall_mem_cons.mpr ⟨px_hc207, List.forall_mem_cons.mpr ⟨px_hc208, List.forall_mem_cons.mpr ⟨px_hc209, List.forall_mem_cons.mpr ⟨px_hc210, List.forall_mem_cons.mpr ⟨px_hc211, List.forall_mem_cons.mpr ⟨px_hc212, List.forall_mem_cons.mpr ⟨px_hc213, List.forall_mem_cons.mpr ⟨px_hc214, List.forall_mem_cons.mpr ⟨px_hc215, List.forall_mem_cons.mpr ⟨px_hc216, List.forall_mem_cons.mpr ⟨px_hc217, List.forall_mem_cons.mpr ⟨px_hc218, List.forall_mem_cons.mpr ⟨px_hc219, fun _ h => absurd h List.not_mem_nil⟩⟩⟩⟩⟩⟩⟩⟩⟩⟩⟩⟩⟩⟩⟩⟩⟩⟩⟩⟩
theorem px_hcA220 : ∀ k ∈ [220, 221, 222, 223, 224, 225, 226, 227, 228, 229, 230, 231, 232, 233, 234, 235, 236, 237, 238, 239], px_hcP k := List.forall_mem_cons.mpr ⟨px_hc220, List.forall_mem_cons.mpr ⟨px_hc221, List.forall_mem_cons.mpr ⟨px_hc222, List.forall_mem_cons.mpr ⟨px_hc223, List.forall_mem_cons.mpr ⟨px_hc224, List.forall_mem_cons.mpr ⟨px_hc225, List.forall_mem_cons.mpr ⟨px_hc226, List.forall_mem_cons.mpr ⟨px_hc227, List.forall_mem_cons.mpr ⟨px_hc228, List.forall_mem_cons.mpr ⟨px_hc229, List.forall_mem_cons.mpr ⟨px_hc230, List.forall_mem_cons.mpr ⟨px_hc231, List.forall_mem_cons.mpr ⟨px_hc232, List.forall_mem_cons.mpr ⟨px_hc233, List.forall_mem_cons.mpr ⟨px_hc234, List.forall_mem_cons.mpr ⟨px_hc235, List.forall_mem_cons.mpr ⟨px_hc236, List.forall_mem_cons.mpr ⟨px_hc237, List.forall_mem_cons.mpr ⟨px_hc238, List.forall_mem_cons.mpr ⟨px_hc239, fun _ h => absurd h List.not_mem_nil⟩⟩⟩⟩⟩⟩⟩⟩⟩⟩⟩⟩⟩⟩⟩⟩⟩⟩⟩⟩
theorem px_hcA240 : ∀ k ∈ [240, 241, 242, 243, 244, 245, 246, 247, 248, 249, 250, 251, 252, 253, 254, 255, 256, 257, 258, 259], px_hcP k := List.forall_mem_cons.mpr ⟨px_hc240, List.forall_mem_cons.mpr ⟨px_hc241, List.forall_mem_cons.mpr ⟨px_hc242, List.forall_mem_cons.mpr ⟨px_hc243, List.forall_mem_cons.mpr ⟨px_hc244, List.forall_mem_cons.mpr ⟨px_hc245, List.forall_mem_cons.mpr ⟨px_hc246, List.forall_mem_cons.mpr ⟨px_hc247, List.forall_mem_cons.mpr ⟨px_hc248, List.forall_mem_cons.mpr ⟨px_hc249, List.forall_mem_cons.mpr ⟨px_hc250, List.forall_mem_cons.mpr ⟨px_hc251, List.forall_mem_cons.mpr ⟨px_hc252, List.forall_mem_cons.mpr ⟨px_hc253, List.forall_mem_cons.mpr ⟨px_hc254, List.forall_mem_cons.mpr ⟨px_hc255, List.forall_mem_cons.mpr ⟨px_hc256, List.forall_mem_cons.mpr ⟨px_hc257, List.forall_mem_cons.mpr ⟨px_hc258, List.forall_mem_cons.mpr ⟨px_hc259, fun _ h => absurd h List.not_mem_nil⟩⟩⟩⟩⟩⟩⟩⟩⟩⟩⟩⟩⟩⟩⟩⟩⟩⟩⟩⟩
theorem px_hc {k : Nat} (h : k < px_law) : px_hcP k := by
  have h' : k < 260 := h
  rcases (show (0 ≤ k ∧ k < 20) ∨ (20 ≤ k ∧ k < 40) ∨ (40 ≤ k ∧ k < 60) ∨ (60 ≤ k ∧ k < 80) ∨ (80 ≤ k ∧ k < 100) ∨ (100 ≤ k ∧ k < 120) ∨ (120 ≤ k ∧ k < 140) ∨ (140 ≤ k ∧ k < 160) ∨ (160 ≤ k ∧ k < 180) ∨ (180 ≤ k ∧ k < 200) ∨ (200 ≤ k ∧ k < 220) ∨ (220 ≤ k ∧ k < 240) ∨ (240 ≤ k ∧ k < 260) by omega) with h | h | h | h | h | h | h | h | h | h | h | h | h
  · exact px_hcA0 k (by simp only [List.mem_cons, List.not_mem_nil, or_false]; omega)
  · exact px_hcA20 k (by simp only [List.mem_cons, List.not_mem_nil, or_false]; omega)
  · exact px_hcA40 k (by simp only [List.mem_cons, List.not_mem_nil, or_false]; omega)
  · exact px_hcA60 k (by simp only [List.mem_cons, List.not_mem_nil, or_false]; omega)
  · exact px_hcA80 k (by simp only [List.mem_cons, List.not_mem_nil, or_false]; omega)
  · exact px_hcA100 k (by simp only [List.mem_cons, List.not_mem_nil, or_false]; omega)
  · exact px_hcA120 k (by simp only [List.mem_cons, List.not_mem_nil, or_false]; omega)
  · exact px_hcA140 k (by simp only [List.mem_cons, List.not_mem_nil, or_false]; omega)
  · exact px_hcA160 k (by simp only [List.mem_cons, List.not_mem_nil, or_false]; omega)
  · exact px_hcA180 k (by simp only [List.mem_cons, List.not_mem_nil, or_false]; omega)
  · exact px_hcA200 k (by simp only [List.mem_cons, List.not_mem_nil, or_false]; omega)
  · exact px_hcA220 k (by simp only [List.mem_cons, List.not_mem_nil, or_false]; omega)
  · exact px_hcA240 k (by simp only [List.mem_cons, List.not_mem_nil, or_false]; omega)
theorem px_hd_all {k : Nat} (h : k < px_law ∧ (k < 248 ∨ 250 < k)) : Cond.code (px_y k) (px_b k) (px_mx k) (px_rt k) ∈ px_Ts ∧ Cond.initialized (px_own k) ∈ px_Ts ∧ (px_y k).cls = px_own k ∧ plainName (px_own k) = true ∧ px_own k ≠ "java/lang/invoke/MethodHandle" ∧ px_own k ≠ "java/lang/invoke/VarHandle" ∧ (parseMethodDescriptor (px_y k).desc).map (fun d => d.parameters.length) = some (px_np k) ∧ (0 < px_ini k ↔ (px_y k).name = "<init>") ∧ (px_ini k = 0 ∨ px_ini k = px_cn k + 1) ∧ px_sta k ≤ 1 := by
  have h1 := px_hd h.1
  unfold px_hdB at h1
  rw [Bool.or_eq_true] at h1
  have h2 := h1.resolve_left (by
    simp only [Bool.and_eq_true, decide_eq_true_eq]
    omega)
  simp only [Bool.and_eq_true, decide_eq_true_eq] at h2
  obtain ⟨⟨⟨⟨⟨⟨⟨⟨a2, a3⟩, a4⟩, a5⟩, a6⟩, a7⟩, a8⟩, a9⟩, a10⟩ := h2
  exact ⟨List.mem_filter.mpr ⟨List.mem_of_getElem? (px_hc h.1), rfl⟩, px_has_mem a2, a3, a4, a5, a6, a7, a8, a9, a10⟩
def px_ws (k : Nat) : List Cond := .code (px_y k) (px_b k) (px_mx k) (px_rt k) :: px_Ts
def px_rm (k : Nat) : Room := { frames := px_fr k, cells := px_mc k, slots := px_ms k, locals := px_lo k }
theorem px_good_Ts {ws : List Cond} (h : ∀ w ∈ ws, w ∈ px_Ts) : GoodIn px_Ts ws := fun w hw => ⟨h w hw, good_of_word (List.mem_filter.mp (h w hw)).2⟩
theorem px_ws_Ts {k : Nat} (h : k < px_law ∧ (k < 248 ∨ 250 < k)) : ∀ w ∈ px_ws k, w ∈ px_Ts := fun w hw => by
  rcases List.mem_cons.mp hw with rfl | hw
  · exact (px_hd_all h).1
  · exact hw
/-- a method's start -/
def px_Pc (D : va_G) (tc : Nat → ClassId) (X : px_X) (z : Value) (ad : Nat → Nat) (h : px_H) (vs : List Value) (sz : Nat) : Array Value → State → Prop :=
  va_Pc (vs.map (px_rl ad z)) (fun U => U.heap.size = sz ∧ va_P D vwCl (px_w tc ad h) U.heap ∧ va_K D vwCl (px_tys tc) U ∧ va_D (fun _ => True) (px_w tc ad h) ∧ px_Ex ad z X (va_A (px_w tc ad h) sz) U U.heap)
theorem px_Pc_blind (D : va_G) (tc : Nat → ClassId) (X : px_X) (z : Value) (ad : Nat → Nat) (h : px_H) (vs : List Value) (sz : Nat) : FrameBlind (px_Pc D tc X z ad h vs sz) :=
  fun a U g mk q => ⟨q.1, q.2.1, q.2.2.1, va_K.moved (u := U) (U := U.calling g mk a) (Vm.Alike.refl U.vm) q.2.2.2.1, q.2.2.2.2.1, px_Ex.same (s := U) (U := U.calling g mk a) q.2.2.2.2.2 rfl⟩
/-- and its end -/
def px_Qc (D : va_G) (tc : Nat → ClassId) (z : Value) (ad : Nat → Nat) (h : px_H) (sz : Nat) (v : Option Value) (h' : px_H) : Array Value → State → Outcome → State → Prop := fun _ st oc t =>
  ((∃ ad' : Nat → Nat, (∀ i, ¬ (h.1.length ≤ i ∧ i < h'.1.length) → ad' i = ad i) ∧ oc = .returned (v.map (px_rl ad' z)) ∧ va_P D vwCl (px_w tc ad' h') t.heap ∧ va_D (va_A (px_w tc ad h) sz) (px_w tc ad' h')) ∧ h.1.length ≤ h'.1.length) ∧ va_F (va_A (px_w tc ad h) sz) st t
theorem px_entl_args {f : Value → Value} (hf : ∀ v, (f v).category = v.category) : ∀ (vs : List Value) (base i : Nat) (v : Value), (px_entl vs)[i]? = some v → v ≠ .null → (base + i, f v) ∈ lv_args base (vs.map f)
  | [], _, _, _, h, _ => by cases h
  | w :: vs, base, i, v, h, hv => by
    have e : px_entl (w :: vs) = (if w.category = 2 then [w, .null] else [w]) ++ px_entl vs := rfl
    rw [e] at h
    show (base + i, f v) ∈ (base, f w) :: lv_args (if (f w).category = 2 then base + 2 else base + 1) (vs.map f)
    rw [hf]
    by_cases hc : w.category = 2
    · rw [if_pos hc] at h ⊢
      match i, h with
      | 0, h => cases h; exact List.mem_cons_self
      | 1, h => cases h; exact absurd rfl hv
      | i + 2, h =>
        have := px_entl_args hf vs (base + 2) i v (by simpa using h) hv
        rw [show base + 2 + i = base + (i + 2) by omega] at this
        exact List.mem_cons_of_mem _ this
    · rw [if_neg hc] at h ⊢
      match i, h with
      | 0, h => cases h; exact List.mem_cons_self
      | i + 1, h =>
        have := px_entl_args hf vs (base + 1) i v (by simpa using h) hv
        rw [show base + 1 + i = base + (i + 1) by omega] at this
        exact List.mem_cons_of_mem _ this
theorem px_lg_len {f : Value → Value} (hf : ∀ v, (f v).category = v.category) : ∀ (vs : List Value), (lg_sl (vs.map f)).length = (px_entl vs).length
  | [] => rfl
  | w :: vs => by
    have e : px_entl (w :: vs) = (if w.category = 2 then [w, .null] else [w]) ++ px_entl vs := rfl
    have e2 : lg_sl ((w :: vs).map f) = (if (f w).category = 2 then [.val (f w), .second] else [.val (f w)]) ++ lg_sl (vs.map f) := rfl
    rw [e, e2, List.length_append, List.length_append, px_lg_len hf vs, hf]
    by_cases hc : w.category = 2 <;> simp [hc]
theorem px_Lr_entry {ad : Nat → Nat} {z : Value} (hz : z.category = 1) (vs : List Value) {n : Nat} (h : (px_entl vs).length ≤ n) : px_Lr (px_rl ad z) ((lg_sl (vs.map (px_rl ad z)) ++ List.replicate (n - (lg_sl (vs.map (px_rl ad z))).length) Slot.unset).toArray) n (px_ent vs n) := by
  have hf := px_rl_cat (ad := ad) hz
  have h1 := lv_entry (vs.map (px_rl ad z)) (n := n) (by rw [px_lg_len hf]; exact h)
  refine ⟨h1.1, h1.2.1, ?_, fun i v hi hv => ?_⟩
  · unfold px_ent
    rw [List.length_append, List.length_replicate]; omega
  · refine h1.2.2 (i, px_rl ad z v) ?_
    unfold px_ent at hi
    rcases Nat.lt_or_ge i (px_entl vs).length with hl | hl
    · rw [List.getElem?_append_left hl] at hi
      have := px_entl_args hf vs 0 i v hi hv
      rwa [Nat.zero_add] at this
    · rw [List.getElem?_append_right hl, List.getElem?_replicate] at hi
      split at hi
      · exact absurd (Option.some.inj hi).symm hv
      · cases hi
end
section
def px_ok (k : Nat) : Prop := ∀ e ∈ px_blk k, px_fine k e.2 ∧ ∃ x r, e.2 = x :: r ∧ x.1 = e.1
def px_isret (k : Nat) (i : Instr) (v : Option Value) : Prop :=
  (i = .ireturn ∧ ∃ y, v = some (.int y) ∧ px_rti (px_rt k) y = true) ∨ (i = .lreturn ∧ (∃ y, v = some (.long y)) ∧ px_rt k = some .long) ∨ (i = .areturn ∧ (∃ q, v = some (.ref q)) ∧ px_rta (px_rt k) = true) ∨ (i = .return_ ∧ v = none ∧ px_rt k = none)
/-- what is known where a method returns -/
def px_Zf (D : va_G) (tc : Nat → ClassId) (A : Nat → Prop) (ad0 : Nat → Nat) (n0 : Nat) (R : Room) (s : State) (ad : Nat → Nat) (h : px_H) (cells slots : Nat) (H : Heap) (locs : List Loc) : Prop :=
  va_P D vwCl (px_w tc ad h) H ∧ va_D A (px_w tc ad h) ∧ va_S A s.heap H locs ∧ cells ≤ R.cells ∧ slots ≤ R.slots ∧ n0 ≤ h.1.length ∧ ∀ i, ¬ (n0 ≤ i ∧ i < h.1.length) → ad i = ad0 i
def px_Sound (l : Launch) (X : px_X) (N : Nat) : Prop :=
  ∀ (k : Nat) (rem : Nat × Nat) (suf : List px_I) (L st : List Value) (h : px_H) (v : Option Value) (h' : px_H), px_run X N k rem suf L st h = some (v, h') → k ≤ px_law → px_fine k suf →
  ∀ {p : Program} {e : Env} {R : Room} {s : State} {m : MethodId} {args : Array Value} {below : List Frame} {meth : Method} {c : Code} {Q : State → Prop} {D : va_G} {tc : Nat → ClassId} {z : Value} {A : Nat → Prop} {ad0 : Nat → Nat} {n0 : Nat} {ad : Nat → Nat} {ls : Array Slot} {H : Heap} {locs : List Loc} {cells slots pc : Nat},
    px_Cx D tc X z A ad0 k p R s m args meth c → (∀ i, 1000 ≤ i → ad i = ad0 i) → px_Zr D tc z A ad0 n0 k R s ad h ls L cells slots rem H locs → (∀ x ∈ suf.head?, x.1 = pc) →
    (∀ (ad' : Nat → Nat) (pc' : Nat) (i : Instr) (ls' : Array Slot) (H' : Heap) (locs' : List Loc) (cells' slots' : Nat), decode (px_b k) pc' = .ok (i, 1) → px_isret k i v → px_Zf D tc A ad0 n0 R s ad' h' cells' slots' H' locs' →
      W p l e R s m args below meth c H' locs' cells' slots' Q (F0 m pc' ls' ((v.map (px_rl ad' z)).toList))) →
    W p l e R s m args below meth c H locs cells slots Q (F0 m pc ls (st.map (px_rl ad z)))
theorem px_Zr.fin {D : va_G} {tc : Nat → ClassId} {z : Value} {A : Nat → Prop} {ad0 ad : Nat → Nat} {n0 k : Nat} {R : Room} {s : State} {h : px_H} {ls : Array Slot} {L : List Value} {cells slots : Nat} {rem : Nat × Nat} {H : Heap} {locs : List Loc} (Z : px_Zr D tc z A ad0 n0 k R s ad h ls L cells slots rem H locs) : px_Zf D tc A ad0 n0 R s ad h cells slots H locs :=
  ⟨Z.1, Z.2.1, Z.2.2.1, by have := Z.2.2.2.2.1; omega, by have := Z.2.2.2.2.2.1; omega, Z.2.2.2.2.2.2.1, Z.2.2.2.2.2.2.2⟩
/-- a method's contract out of a run of the pure machine -/
theorem px_met {l : Launch} {X : px_X} {N : Nat} (hS : px_Sound l X N) (hok : ∀ k, k ≤ px_law → px_ok k) {k : Nat} (hk : k < px_law ∧ (k < 248 ∨ 250 < k)) {vs : List Value} {h h' : px_H} {v : Option Value} (hlen : (px_entl vs).length ≤ px_mx k)
    (hrun : px_run X N k (px_mc k, px_ms k) (px_ct k) (px_ent vs (px_mx k)) [] h = some (v, h')) (D : va_G) (tc : Nat → ClassId) (z : Value) (ad : Nat → Nat) (sz : Nat) :
    Met l (px_y k) (px_ws k) (px_rm k) (px_Pc D tc X z ad h vs sz) (px_Qc D tc z ad h sz v h') (px_mc k) (px_ms k) (va_A (px_w tc ad h) sz) := by
  have hh := px_hd_all hk
  obtain ⟨hh1, hh2, hh3, hh4, hh5, hh6, hh7, hh8, hh9, hh10⟩ := hh
  refine Met.ofW (cc := px_b k) (maxL := px_mx k) (ret := px_rt k) (by rw [hh3]; exact hh4) rfl ?_
  intro p e s m args below meth c s₁ B hml hv
  obtain ⟨rfl, hsz, hP, hK, hD0, hE⟩ := hv
  have hx := B.exec
  have hb := B.bytes
  have hr := B.returns
  have hts := atoms_spec (ws := px_ws k) B.pre
  have hown : s.vm.findClass (px_own k) = some m.cls := by rw [← hh3]; exact findClass_of_methodNamed B.named
  have hlocks := B.notSynchronized
  have hname := (name_of_methodNamed B.named B.method).1
  subst hsz
  have hD := hD0.self (sz := s.heap.size)
  have hA : ∀ q : Nat, s.heap.size ≤ q → va_A (px_w tc ad h) s.heap.size q := fun q h => Or.inr h
  have hcx : px_Cx D tc X z (va_A (px_w tc ad h) s.heap.size) ad k p (headSpec (px_ws k) (px_rm k)).room s m (vs.map (px_rl ad z)).toArray meth c :=
    ⟨hx, hb, hml, hown, fun w hw => hts w (List.mem_cons_of_mem _ hw), hK, hA, hE, fun hi => ⟨hname.trans (hh8.mp hi), hh9.resolve_left (by omega)⟩, Nat.le_refl _, Nat.le_refl _⟩
  rw [lg_entry_eq]
  obtain ⟨x0, r0, hct, hx0⟩ : ∃ x r, px_ct k = x :: r ∧ x.1 = 0 := by
    unfold px_ct px_to
    cases hlk : (px_blk k).lookup 0 with
    | none =>
      exfalso
      have : px_ct k = [] := by unfold px_ct px_to; rw [hlk]; rfl
      rw [this] at hrun
      cases N <;> simp [px_run] at hrun
    | some w =>
      obtain ⟨l1, l2, hl, -⟩ := List.lookup_eq_some_iff.mp hlk
      exact (hok k (Nat.le_of_lt hk.1) (0, w) (by rw [hl]; simp)).2
  have hfine : px_fine k (px_ct k) := by
    unfold px_ct px_to at hct ⊢
    cases hlk : (px_blk k).lookup 0 with
    | none => rw [hlk] at hct; cases hct
    | some w =>
      obtain ⟨l1, l2, hl, -⟩ := List.lookup_eq_some_iff.mp hlk
      exact (hok k (Nat.le_of_lt hk.1) (0, w) (by rw [hl]; simp)).1
  have hz := hE.2.2.1
  refine hS k _ _ _ _ _ _ _ hrun (Nat.le_of_lt hk.1) hfine hcx (fun i _ => rfl) (n0 := h.1.length) (pc := 0) ⟨hP, hD, va_S.rf, px_Lr_entry hz vs hlen, by simp only [Nat.zero_add]; exact Nat.le_refl _, by simp only [Nat.zero_add]; exact Nat.le_refl _, Nat.le_refl _, fun i _ => rfl⟩ (fun x hxx => by rw [hct] at hxx; cases hxx; exact hx0) ?_
  intro ad' pc' i ls' H' locs' cells' slots' hd hret Z
  obtain ⟨zP, zD, zS, zc, zs, zn, zag⟩ := Z
  have hQ : ∀ t : State, t.heap = H' → px_Qc D tc z ad h s.heap.size v h' (vs.map (px_rl ad z)).toArray s (.returned (v.map (px_rl ad' z))) t := fun t ht =>
    ⟨⟨⟨ad', zag, rfl, by rw [ht]; exact zP, zD⟩, zn⟩, zS.F ht⟩
  refine W.widen (k := px_mc k) (n := px_ms k) zc zs ?_
  rcases hret with ⟨rfl, y, rfl, hy⟩ | ⟨rfl, ⟨y, rfl⟩, hy⟩ | ⟨rfl, ⟨q, rfl⟩, hy⟩ | ⟨rfl, rfl, hy⟩
  · cases hrt : px_rt k with
    | none => rw [hrt] at hy; cases hy
    | some ty =>
      rw [hrt] at hy hr
      refine W.zret hx hb hr ?_ (fun t ht _ => hQ t ht) zS.2.2 hd
      cases ty <;> first | rfl | exact congrArg Value.int (of_decide_eq_true hy) | exact of_decide_eq_true hy
  · exact W.lret hx hb (hr.trans hy) (fun t ht _ => hQ t ht) zS.2.2 hd
  · cases hrt : px_rt k with
    | none => rw [hrt] at hy; cases hy
    | some ty =>
      rw [hrt] at hy hr
      refine W.aret hx hb hr ?_ (Or.inr ⟨_, rfl⟩) (fun t ht _ => hQ t ht) zS.2.2 hd
      cases ty <;> first | exact Or.inl ⟨_, rfl⟩ | exact Or.inr ⟨_, rfl⟩ | cases hy
  · exact W.vret hx hb (hr.trans hy) (fun t ht _ => hQ t ht) zS.2.2 hd
end
section
section PXC
variable {p : Program} {l : Launch} {e : Env} {R : Room} {s : State} {m : MethodId} {args : Array Value} {below : List Frame} {meth : Method} {c : Code} {H : Heap} {locs : List Loc} {cells slots : Nat} {Q : State → Prop}
variable {D : va_G} {tc : Nat → ClassId} {X : px_X} {z : Value} {A : Nat → Prop} {ad0 ad : Nat → Nat} {n0 k : Nat}
/-- behind a call -/
theorem px_goon {pc mc ms sz : Nat} {ls : Array Slot} {st0 rest : List Value} {a : Array Value} {h h1 : px_H} {v : Option Value} (hsz : sz = H.size)
    (hr : va_Run p l e R s m args below meth c H locs cells slots mc ms (F0 m pc ls st0) rest (px_Qc D tc z ad h sz v h1 a) (va_A (px_w tc ad h) sz)) (hD : va_D A (px_w tc ad h)) (hS : va_S A s.heap H locs) (hA : ∀ q : Nat, s.heap.size ≤ q → A q)
    (kk : ∀ (ad' : Nat → Nat) (H1 : Heap) (locs1 : List Loc), (∀ i, ¬ (h.1.length ≤ i ∧ i < h1.1.length) → ad' i = ad i) → va_P D vwCl (px_w tc ad' h1) H1 → va_D A (px_w tc ad' h1) → h.1.length ≤ h1.1.length → va_S A s.heap H1 locs1 → W p l e R s m args below meth c H1 locs1 (cells + mc) (slots + ms) Q (F0 m (pc + 3) ls ((v.map (px_rl ad' z)).toList ++ rest))) :
    W p l e R s m args below meth c H locs cells slots Q (F0 m pc ls st0) := by
  subst hsz
  have hAA : ∀ q, va_A (px_w tc ad h) H.size q → A q := by
    rintro q (⟨k, e, h⟩ | h)
    · exact hD.2 k (q, e) h
    · exact hA q (Nat.le_trans hS.1 h)
  intro T hT X'
  obtain ⟨v0, st₀, t, T', L, h0, X', hL, e1, e2, ⟨⟨⟨ad', hag, hv, hP1, hD1⟩, hle⟩, hz, hk⟩, st⟩ := hr T hT X'
  cases hv
  rw [h0] at hz hk
  obtain ⟨t2, a1, b1⟩ := kk ad' T'.heap (locs ++ L) hag (by rw [e1]; exact hP1) (hD1.weaken (fun _ q _ h => hAA q.1 h)) hle
    ⟨Nat.le_trans hS.1 (by rw [e1]; exact hz), fun q h1 h2 => by rw [e1, hk q (Nat.lt_of_lt_of_le h1 hS.1) (fun z => h2 (hAA q z))]; exact hS.2.1 q h1 h2, fun q hq => by
      rcases List.mem_append.mp hq with h | h
      · exact hS.2.2 q h
      · exact hAA _ (hL q h)⟩ T' rfl X'
  exact ⟨t2, st t2 a1, b1⟩
theorem px_sum_map {ad : Nat → Nat} {z : Value} (hz : z.category = 1) (st : List Value) : ((st.map (px_rl ad z)).map fun v => v.category).sum = px_sum st := by
  unfold px_sum
  rw [List.map_map]
  congr 1
  apply List.map_congr_left
  intro v _
  exact px_rl_cat hz v
/-- the words of a call's link -/
theorem px_lk_all {idx a : Nat} (h : px_lk3 (px_cn k) idx a = true) : ∃ nest, (if nest = 0 then px_mlink (px_cn k) idx a nest ∈ px_Ts else px_mlink (px_cn k) idx a nest ∈ px_Tn) ∧ (∀ w ∈ px_mwords a, w ∈ px_Ts) ∧ (9000 ≤ a → nest = 0) := by
  obtain ⟨r, hr, h⟩ := List.any_eq_true.mp h
  obtain ⟨r1, r2, r3, r4, r5⟩ := r
  simp only [Bool.and_eq_true, decide_eq_true_eq] at h
  obtain ⟨⟨rfl, rfl⟩, rfl⟩ := h
  have h2 := List.all_eq_true.mp px_LM_ok _ hr
  simp only [px_lmc, Bool.and_eq_true, decide_eq_true_eq, Bool.or_eq_true] at h2
  obtain ⟨⟨⟨b1, b2⟩, b3⟩, b4⟩ := h2
  refine ⟨r4, ?_, px_hasL_mem b2, fun h9 => b4.resolve_left (by omega)⟩
  unfold px_hasB at b1
  by_cases h0 : r4 = 0
  · rw [if_pos h0] at b1 ⊢; exact px_has_mem b1
  · rw [if_neg h0] at b1 ⊢; exact px_hasN_mem b1
theorem px_args_split {b : Nat} {st : List Value} {q : Addr} {vs : List Value} (h : (st.take b).reverse = .ref q :: vs) : st = vs.reverse ++ .ref q :: st.drop b := by
  have h1 : st.take b = vs.reverse ++ [.ref q] := by
    have := congrArg List.reverse h
    rw [List.reverse_reverse, List.reverse_cons] at this
    exact this
  have h2 := List.take_append_drop b st
  rw [h1, List.append_assoc] at h2
  exact h2.symm
/-- the receiver -/
theorem px_recv {a q : Nat} {h : px_H} (ha : a < px_law ∧ (a < 248 ∨ 250 < a)) (hrcv : px_rcv a h.1 (.ref q) = true) (hfar : ∀ i, 1000 ≤ i → ad i = ad0 i) (hK : va_K D vwCl (px_tys tc) s) (hE : px_Ex ad0 z X A s s.heap) (hP : va_P D vwCl (px_w tc ad h) H) (hS : va_S A s.heap H locs) :
    ∃ cell : Cell, H[ad q]? = some cell ∧ cell.vm.isStatics = false ∧ s.vm.findClass (px_own a) = some cell.cls := by
  unfold px_rcv at hrcv
  dsimp only at hrcv
  split at hrcv
  · split at hrcv
    · rename_i t n rs hq
      simp only [Bool.and_eq_true, decide_eq_true_eq] at hrcv
      obtain ⟨rfl, h9⟩ := hrcv
      have he := px_w_at (tc := tc) (ad := ad) hq
      unfold px_cell at he
      rw [if_pos (show px_cn a < 100 by omega)] at he
      exact va_recv hK hP (px_cl_at h9) he
    · cases hrcv
  · rename_i hq
    simp only [Bool.and_eq_true, decide_eq_true_eq] at hrcv
    obtain ⟨e1, e2, e3, e4, e5⟩ := px_far_e q hq hrcv.2
    have := vk_recv hE.2.2.2.1 e3 hS
    simp only [e1] at this
    rw [hfar q e4]
    unfold px_own
    rw [hrcv.1]
    exact this
def px_irB (k : Nat) : Bool := decide (px_ini k = 0) || decide (px_rt k = none)
set_option maxRecDepth 100000 in
theorem px_ir_all : (List.range 260).all px_irB = true := by decide +kernel
theorem px_ini_ret {a : Nat} (ha : a < px_law) (h : 0 < px_ini a) : px_rt a = none := by
  have := List.all_eq_true.mp px_ir_all a (List.mem_range.mpr ha)
  simp only [px_irB, Bool.or_eq_true, decide_eq_true_eq] at this
  exact this.resolve_left (by omega)
set_option maxHeartbeats 1000000 in
/-- the run of a callee -/
theorem px_callRun {kd a b idx pc N : Nat} {i : Instr} {rem : Nat × Nat} {L st : List Value} {h h1 : px_H} {r : Option Value} {ls : Array Slot} (hSo : px_Sound l X N) (hok : ∀ k, k ≤ px_law → px_ok k)
    (hkd : (kd = 0 ∧ i = .invokevirtual idx) ∨ (kd = 1 ∧ i = .invokestatic idx) ∨ (kd = 2 ∧ i = .invokespecial idx))
    (hcok : px_cok kd a b rem L st h.1 = true) (hrun : px_run X N a (px_mc a, px_ms a) (px_ct a) (px_ent (st.take b).reverse (px_mx a)) [] h = some (r, h1))
    (C : px_Cx D tc X z A ad0 k p R s m args meth c) (hfar : ∀ i, 1000 ≤ i → ad i = ad0 i) (Z : px_Zr D tc z A ad0 n0 k R s ad h ls L cells slots rem H locs)
    (hd : decode (px_b k) pc = .ok (i, 3)) (hinv : px_inv k kd a idx 3 = true) :
    ∃ aa : Array Value, va_Run p l e R s m args below meth c H locs cells slots (px_mc a) (px_ms a) (F0 m pc ls (st.map (px_rl ad z))) ((st.drop b).map (px_rl ad z)) (px_Qc D tc z ad h H.size r h1 aa) (va_A (px_w tc ad h) H.size) := by
  obtain ⟨hx, hb, hml, hown, hts, hK, hA, hE, hi, hfr, hlo⟩ := C
  obtain ⟨hP, hD, hS, hL, hc1, hs1, hn0, hag⟩ := Z
  simp only [px_cok, Bool.and_eq_true, decide_eq_true_eq] at hcok
  obtain ⟨⟨⟨⟨⟨⟨⟨⟨⟨⟨⟨ha, ha2⟩, hbl⟩, hbn⟩, hsta⟩, hsum⟩, hmc⟩, hms⟩, htidy⟩, hrcv⟩, hini⟩, hentl⟩ := hcok
  have hk2 : a < px_law ∧ (a < 248 ∨ 250 < a) := ⟨ha, ha2⟩
  have hal : a < 260 := ha
  obtain ⟨hh1, hh2, hh3, hh4, hh5, hh6, hh7, hh8, hh9, hh10⟩ := px_hd_all hk2
  have hM := px_met hSo hok hk2 hentl hrun D tc z ad H.size
  simp only [px_inv, Bool.and_eq_true, Bool.or_eq_true, decide_eq_true_eq] at hinv
  obtain ⟨-, hinv⟩ := hinv
  have hinv := hinv.resolve_left (by omega)
  obtain ⟨hlk, hroom⟩ := hinv
  rw [if_pos hal] at hroom
  simp only [Bool.and_eq_true, decide_eq_true_eq] at hroom
  obtain ⟨nest, hw1, hw2, -⟩ := px_lk_all hlk
  have hcy : px_cy a = px_y a := by
    unfold px_cy
    rw [if_neg (by omega), if_neg (by omega), if_neg (by omega), if_neg (by omega), if_neg (by omega)]
  have hmw : px_mwords a = (if px_sta a = 1 then [.static (px_y a), .initialized (px_y a).cls] else if px_ini a = 0 then [.instanceMethod (px_y a), .selects (px_y a).cls (px_y a) (px_y a), .initialized (px_y a).cls] else [.instanceMethod (px_y a), .initialized (px_y a).cls]) := by
    unfold px_mwords
    rw [if_neg (by omega), if_neg (by omega), if_neg (by omega), if_neg (by omega), if_neg (by omega), hcy]
  rw [hmw] at hw2
  have hS5 : CallFix p m c (px_b k) (px_mx k) s args px_Ts (px_own k) := ⟨hx, hb, hml, hown, hts⟩
  have hR : (px_rm a).frames + 1 ≤ R.frames ∧ 8 + (px_mx a + 11) + (px_rm a).locals ≤ R.locals := ⟨Nat.le_trans hroom.1 hfr, Nat.le_trans hroom.2 hlo⟩
  have hPc : ∀ U : State, U.heap = H → s.WarmedH U.vm → px_Pc D tc X z ad h (st.take b).reverse H.size (((st.take b).reverse.map (px_rl ad z))).toArray U := fun U hU hW =>
    ⟨rfl, by rw [hU], by rw [hU]; exact hP, va_K.moved hW.alike hK, hD.weaken (fun _ _ _ _ => trivial), by
      rw [hU]
      exact (hE.move hW (fun q h1 h2 => hS.2.1 q h1 h2) (by
        rintro q (⟨k, e, h⟩ | h)
        · exact hD.2 k (q, e) h
        · exact hA q (Nat.le_trans hS.1 h))).ad hfar⟩
  have hbli := px_Pc_blind D tc X z ad h (st.take b).reverse H.size
  have hlocs : ls.size = px_mx k := hL.1
  have hWr := lv_room (m := m) (pc := pc) (ls := ls) (rest := st.map (px_rl ad z)) (st := (st.drop b).map (px_rl ad z)) (by rw [px_sum_map hE.2.2.1]; exact hsum)
  have hf : cells + px_mc a ≤ R.cells ∧ slots + px_ms a ≤ R.slots := by omega
  have hgood := px_good_Ts (px_ws_Ts hk2)
  have hlen : (st.take b).reverse.length = b := by rw [List.length_reverse, List.length_take]; omega
  have hiw : (Cond.initialized (px_y a).cls).before args s = true := by rw [hh3]; exact hts _ hh2
  have hdd : (px_y a).cls ≠ "java/lang/invoke/MethodHandle" ∧ (px_y a).cls ≠ "java/lang/invoke/VarHandle" ∧ (parseMethodDescriptor (px_y a).desc).map (fun d => d.parameters.length) = some (px_np a) := by rw [hh3]; exact ⟨hh5, hh6, hh7⟩
  have hnestw : ¬ nest = 0 → va_Nw (.methodLinkNest (px_own k) idx (px_y a) px_host) s := fun h0 => by
    rw [if_neg h0] at hw1
    unfold px_mlink at hw1
    rw [if_neg h0, hcy] at hw1
    exact hE.1 _ hw1
  have hlinkw : nest = 0 → (Cond.methodLink (px_own k) idx (px_y a)) ∈ px_Ts := fun h0 => by
    rw [if_pos h0] at hw1
    unfold px_mlink at hw1
    rw [if_pos h0, hcy] at hw1
    exact hw1
  refine ⟨((st.take b).reverse.map (px_rl ad z)).toArray, ?_⟩
  rcases hkd with ⟨rfl, rfl⟩ | ⟨rfl, rfl⟩ | ⟨rfl, rfl⟩
  · -- invokevirtual
    have hs0 : px_sta a = 0 := by simpa using hsta
    have hi0 : px_ini a = 0 := by
      have : ¬ 0 < px_ini a := fun q => by have := hini.mpr q; omega
      omega
    rw [if_neg (by omega), if_pos hi0] at hw2
    have hrcv2 : px_rcv a h.1 ((st.take b).reverse.headD .null) = true := by
      rw [Bool.or_eq_true] at hrcv
      exact hrcv.resolve_left (by simp)
    obtain ⟨q, vs, hvs⟩ : ∃ (q : Addr) (vs : List Value), (st.take b).reverse = .ref q :: vs := by
      cases hz : (st.take b).reverse with
      | nil => rw [hz] at hrcv2; cases hrcv2
      | cons w vs =>
        rw [hz] at hrcv2
        cases w <;> first | exact ⟨_, _, rfl⟩ | cases hrcv2
    rw [hvs] at hrcv2 hPc hM hbli hlen ⊢
    have hsp := px_args_split hvs
    have hst : st.map (px_rl ad z) = (vs.map (px_rl ad z)).reverse ++ .ref (ad q) :: (st.drop b).map (px_rl ad z) := by
      conv => lhs; rw [hsp]
      rw [List.map_append, List.map_reverse]; rfl
    have hlen2 : (vs.map (px_rl ad z)).length = px_np a := by
      rw [List.length_map]; simp only [List.length_cons] at hlen; omega
    have hcell := px_recv (X := X) hk2 hrcv2 hfar hK hE hP hS
    by_cases h0 : nest = 0
    · have cw : CallW R s args (px_own k) (px_own a) idx (px_y a) (px_b a) (px_mx a) (px_rt a) (px_ws a) (px_rm a) (px_mc a) (px_ms a) (px_np a) :=
        cwV (Ts := px_Ts) (px_np a) hts (px_good_Ts (fun w hw => by
          rcases List.mem_append.mp hw with hw | hw
          · simp only [List.mem_cons, List.not_mem_nil, or_false] at hw
            rcases hw with rfl | rfl | rfl | rfl
            · exact hlinkw h0
            · exact hw2 _ (by simp)
            · exact hw2 _ (by simp [hh3])
            · exact hh2
          · exact px_ws_Ts hk2 w hw)) rfl rfl rfl ⟨hh3, hdd⟩ hR
      exact va_runV (As := vs.map (px_rl ad z)) (b := ad q) hS5 hM cw ⟨hbli, hcell, hPc⟩ rfl hlen2 hlocs hst hWr hd hf
    · have cw := va_cnB (own := px_own k) (host := px_host) (index := idx) (maxL := px_mx a) (y := px_y a) (bytes := px_b a) (ret := px_rt a) (R := R) (s := s) (args := args) (Ts := px_Ts) (ws := px_ws a) (rm := px_rm a) (mc := px_mc a) (ms := px_ms a) (px_np a) hts hgood rfl rfl rfl (hnestw h0) hiw hdd hR
      exact va_runVN (C := px_own a) (As := vs.map (px_rl ad z)) (b := ad q) hS5 hM ⟨cw, hts _ (hw2 _ (by simp)), by have := hts _ (hw2 _ (show Cond.selects (px_y a).cls (px_y a) (px_y a) ∈ _ by simp)); rw [hh3] at this; exact this⟩ ⟨hbli, hcell, hPc⟩ rfl hlen2 hlocs hst hWr hd hf
  · -- invokestatic
    have hs0 : px_sta a = 1 := by simpa using hsta
    rw [if_pos hs0] at hw2
    have hst : st.map (px_rl ad z) = ((st.take b).reverse.map (px_rl ad z)).reverse ++ (st.drop b).map (px_rl ad z) := by
      rw [← List.map_reverse, List.reverse_reverse, ← List.map_append, List.take_append_drop]
    have hlen2 : ((st.take b).reverse.map (px_rl ad z)).length = px_np a := by rw [List.length_map, hlen]; omega
    by_cases h0 : nest = 0
    · have cw := callB_of (own := px_own k) (index := idx) (maxL := px_mx a) (y := px_y a) (bytes := px_b a) (ret := px_rt a) (R := R) (s := s) (args := args) (Ts := px_Ts) (ws := px_ws a) (rm := px_rm a) (mc := px_mc a) (ms := px_ms a) (px_np a) hts hgood rfl rfl rfl hiw (hts _ (hlinkw h0)) hdd hR
      exact va_runS (As := (st.take b).reverse.map (px_rl ad z)) hS5 hM ⟨cw, hts _ (hw2 _ (by simp))⟩ ⟨hbli, hPc⟩ rfl hlen2 hlocs hst hWr hd hf
    · have cw := va_cnB (own := px_own k) (host := px_host) (index := idx) (maxL := px_mx a) (y := px_y a) (bytes := px_b a) (ret := px_rt a) (R := R) (s := s) (args := args) (Ts := px_Ts) (ws := px_ws a) (rm := px_rm a) (mc := px_mc a) (ms := px_ms a) (px_np a) hts hgood rfl rfl rfl (hnestw h0) hiw hdd hR
      exact va_runSN (As := (st.take b).reverse.map (px_rl ad z)) hS5 hM ⟨cw, hts _ (hw2 _ (by simp)), trivial⟩ ⟨hbli, hPc⟩ rfl hlen2 hlocs hst hWr hd hf
  · -- invokespecial
    have hs0 : px_sta a = 0 := by simpa using hsta
    have hi0 : 0 < px_ini a := hini.mp rfl
    rw [if_neg (by omega), if_neg (by omega)] at hw2
    have hrcv2 : px_rcv a h.1 ((st.take b).reverse.headD .null) = true := by
      rw [Bool.or_eq_true] at hrcv
      exact hrcv.resolve_left (by simp)
    obtain ⟨q, vs, hvs⟩ : ∃ (q : Addr) (vs : List Value), (st.take b).reverse = .ref q :: vs := by
      cases hz : (st.take b).reverse with
      | nil => rw [hz] at hrcv2; cases hrcv2
      | cons w vs =>
        rw [hz] at hrcv2
        cases w <;> first | exact ⟨_, _, rfl⟩ | cases hrcv2
    rw [hvs] at hrcv2 hPc hM hbli hlen ⊢
    have hsp := px_args_split hvs
    have hst : st.map (px_rl ad z) = (vs.map (px_rl ad z)).reverse ++ .ref (ad q) :: (st.drop b).map (px_rl ad z) := by
      conv => lhs; rw [hsp]
      rw [List.map_append, List.map_reverse]; rfl
    have hlen2 : (vs.map (px_rl ad z)).length = px_np a := by
      rw [List.length_map]; simp only [List.length_cons] at hlen; omega
    have hnm := hh8.mp hi0
    have hrt : px_rt a = none := px_ini_ret ha hi0
    by_cases h0 : nest = 0
    · have cw := callB_of (own := px_own k) (index := idx) (maxL := px_mx a) (y := px_y a) (bytes := px_b a) (ret := px_rt a) (R := R) (s := s) (args := args) (Ts := px_Ts) (ws := px_ws a) (rm := px_rm a) (mc := px_mc a) (ms := px_ms a) (px_np a) hts hgood rfl rfl rfl hiw (hts _ (hlinkw h0)) hdd hR
      rw [hrt] at cw
      exact va_runI (As := vs.map (px_rl ad z)) (b := ad q) hS5 hM ⟨cw, hnm, hts _ (hw2 _ (by simp))⟩ ⟨hbli, hPc⟩ rfl hlen2 hlocs hst hWr hd hf
    · have cw := va_cnB (own := px_own k) (host := px_host) (index := idx) (maxL := px_mx a) (y := px_y a) (bytes := px_b a) (ret := px_rt a) (R := R) (s := s) (args := args) (Ts := px_Ts) (ws := px_ws a) (rm := px_rm a) (mc := px_mc a) (ms := px_ms a) (px_np a) hts hgood rfl rfl rfl (hnestw h0) hiw hdd hR
      rw [hrt] at cw
      exact va_runIN (As := vs.map (px_rl ad z)) (b := ad q) hS5 hM ⟨cw, hnm, hts _ (hw2 _ (by simp))⟩ ⟨hbli, hPc⟩ rfl hlen2 hlocs hst hWr hd hf
end PXC
end
section
theorem px_to_some {k t : Nat} (hok : px_ok k) {x : px_I} {r : List px_I} (h : px_to k t = x :: r) : px_fine k (px_to k t) ∧ x.1 = t := by
  unfold px_to at h ⊢
  cases hlk : (px_blk k).lookup t with
  | none => rw [hlk] at h; cases h
  | some w =>
    rw [hlk] at h
    obtain ⟨l1, l2, hl, -⟩ := List.lookup_eq_some_iff.mp hlk
    obtain ⟨h1, x', r', h2, h3⟩ := hok (t, w) (by rw [hl]; simp)
    refine ⟨h1, ?_⟩
    have h4 : w = x :: r := h
    have h5 : w = x' :: r' := h2
    rw [h4] at h5
    cases h5
    exact h3
theorem px_next {k pc n a b : Nat} {i : Instr} {v : Int32} {suf : List px_I} (h : px_fine k ((pc, i, n, a, b, v) :: suf)) (hi : (∀ d lo hi os, i ≠ .tableswitch d lo hi os) ∧ ∀ d ps, i ≠ .lookupswitch d ps) : ∀ x ∈ suf.head?, x.1 = pc + n := by
  intro x hx
  cases suf with
  | nil => cases hx
  | cons y s =>
    cases hx
    have h2 := h.2
    simp only [px_chain, Bool.and_eq_true] at h2
    have h3 := h2.1
    split at h3
    · exact absurd rfl (hi.1 _ _ _ _)
    · exact absurd rfl (hi.2 _ _)
    · exact of_decide_eq_true h3
theorem px_step_sw {X : px_X} {ini pc a b : Nat} {rem : Nat × Nat} {i : Instr} {v : Int32} {L st L' st' : List Value} {h h' : px_H} (hs : px_step X ini rem pc i a b v L st h = some (none, L', st', h')) : (∀ d lo hi os, i ≠ .tableswitch d lo hi os) ∧ ∀ d ps, i ≠ .lookupswitch d ps := by
  constructor
  · rintro d lo hi os rfl
    simp only [px_step] at hs
    split at hs
    · split at hs
      · cases hs
      · split at hs <;> cases hs
    · cases hs
  · rintro d ps rfl
    simp only [px_step] at hs
    split at hs
    · split at hs <;> cases hs
    · cases hs
set_option maxHeartbeats 4000000 in
theorem px_sound_succ {l : Launch} {X : px_X} {N : Nat} (hS : px_Sound l X N) (hok : ∀ k, k ≤ px_law → px_ok k) : px_Sound l X (N + 1) := by
  intro k rem suf L st h v h' hrun hk hfine p e R s m args below meth c Q D tc z A ad0 n0 ad ls H locs cells slots pc C hfar Z hpc fin
  cases suf with
  | nil => simp [px_run] at hrun
  | cons x suf =>
    obtain ⟨pc0, i, n, a, b, w⟩ := x
    have hpc0 : pc0 = pc := hpc _ rfl
    subst hpc0
    have hchk := hfine.1 _ List.mem_cons_self
    have hft := px_fine_tail hfine
    have hcall : ∀ (kd : Nat) (idx : Nat), ((kd = 0 ∧ i = .invokevirtual idx) ∨ (kd = 1 ∧ i = .invokestatic idx) ∨ (kd = 2 ∧ i = .invokespecial idx)) → px_inv k kd a idx n = true →
        (if px_cok kd a b rem L st h.1 = true then
          (match px_run X N a (px_mc a, px_ms a) (px_ct a) (px_ent (st.take b).reverse (px_mx a)) [] h with
          | some (r, h') => if (if px_mc a = 0 then decide (h'.1.length = h.1.length) else decide (h'.1.length ≤ 1000)) = true then px_run X N k (rem.1 - px_mc a, rem.2 - px_ms a) suf L (r.toList ++ st.drop b) h' else none
          | none => none) else none) = some (v, h') → W p l e R s m args below meth c H locs cells slots Q (F0 m pc0 ls (st.map (px_rl ad z))) := by
      intro kd idx hkd hinv hr
      have hn3 : n = 3 := by
        simp only [px_inv, Bool.and_eq_true, decide_eq_true_eq] at hinv
        exact hinv.1
      subst hn3
      have hd : decode (px_b k) pc0 = .ok (i, 3) := by
        simp only [px_chk, Bool.and_eq_true, decide_eq_true_eq] at hchk
        exact hchk.1.1
      split at hr
      · rename_i hcok
        split at hr
        · rename_i r h1 hr1
          by_cases hg : (if px_mc a = 0 then decide (h1.1.length = h.1.length) else decide (h1.1.length ≤ 1000)) = true
          · rw [if_pos hg] at hr
            obtain ⟨aa, hva⟩ := px_callRun hS hok hkd hcok hr1 C hfar Z hd hinv
            have C0 := C
            obtain ⟨hx, hb, hml, hown, hts, hK, hA, hE, hi, hfr, hlo⟩ := C
            obtain ⟨hP, hD, hSS, hL, hc1, hs1, hn0, hag⟩ := Z
            refine px_goon rfl hva hD hSS hA (fun ad' H1 locs1 hag1 hP1 hD1 hle hS1 => ?_)
            simp only [px_cok, Bool.and_eq_true, decide_eq_true_eq] at hcok
            obtain ⟨⟨⟨⟨⟨⟨⟨⟨⟨⟨⟨ha, ha2⟩, hbl⟩, hbn⟩, hsta⟩, hsum⟩, hmc⟩, hms⟩, htidy⟩, hrcv⟩, hini⟩, hentl⟩ := hcok
            have hcong : (∀ v ∈ L, px_rl ad z v = px_rl ad' z v) ∧ (∀ v ∈ st.drop b, px_rl ad z v = px_rl ad' z v) ∧ ∀ i, 1000 ≤ i → ad' i = ad i := by
              by_cases hm0 : px_mc a = 0
              · rw [if_pos hm0] at hg
                have hl := of_decide_eq_true hg
                have : ad' = ad := funext fun i => hag1 i (by omega)
                subst this
                exact ⟨fun _ _ => rfl, fun _ _ => rfl, fun _ _ => rfl⟩
              · rw [if_neg hm0] at hg
                have hl := of_decide_eq_true hg
                rw [Bool.or_eq_true] at htidy
                have ht := htidy.resolve_left (by simpa using hm0)
                simp only [px_tidy, Bool.and_eq_true, decide_eq_true_eq] at ht
                have hag2 : ∀ i, (i < h.1.length ∨ 1000 ≤ i) → ad' i = ad i := fun i hi => hag1 i (by omega)
                exact ⟨fun v hv => px_rl_cong hag2 (List.all_eq_true.mp ht.1.1.2 v hv), fun v hv => px_rl_cong hag2 (List.all_eq_true.mp ht.1.2 v hv), fun i hi => hag2 i (Or.inr hi)⟩
            have e1 : (st.drop b).map (px_rl ad z) = (st.drop b).map (px_rl ad' z) := List.map_congr_left hcong.2.1
            have e2 : (r.map (px_rl ad' z)).toList ++ (st.drop b).map (px_rl ad z) = (r.toList ++ st.drop b).map (px_rl ad' z) := by
              rw [e1, List.map_append]
              cases r <;> rfl
            rw [e2]
            exact hS k _ _ _ _ _ _ _ hr hk hft C0 (fun i hi => (hcong.2.2 i hi).trans (hfar i hi)) ⟨hP1, hD1, hS1, hL.cong hcong.1, by simp only []; omega, by simp only []; omega, Nat.le_trans hn0 hle, fun i hi => (hag1 i (by omega)).trans (hag i (by omega))⟩
              (px_next hfine (by rcases hkd with ⟨-, rfl⟩ | ⟨-, rfl⟩ | ⟨-, rfl⟩ <;> simp)) fin
          · rw [if_neg hg] at hr
            cases hr
        · cases hr
      · cases hr
    have hbase : ∀ {i' : Instr}, i = i' → (∀ d lo hi os, i' ≠ .tableswitch d lo hi os) → (∀ d ps, i' ≠ .lookupswitch d ps) → decode (px_b k) pc0 = .ok (i', px_len i') ∧ px_chk2 k pc0 i' (px_len i') a b w = true ∧ n = px_len i' := by
      rintro i' rfl h1 h2
      simp only [px_chk, Bool.and_eq_true, decide_eq_true_eq] at hchk
      obtain ⟨⟨hd, hc2⟩, hn⟩ := hchk
      subst hn
      exact ⟨hd, hc2, rfl⟩
    unfold px_run at hrun
    dsimp only at hrun
    split at hrun
    · -- ireturn
      obtain ⟨hd, -, hn⟩ := hbase rfl (by simp) (by simp)
      split at hrun
      · split at hrun
        · rename_i y hy
          simp only [Option.some.injEq, Prod.mk.injEq] at hrun
          obtain ⟨rfl, rfl⟩ := hrun
          exact fin ad pc0 _ ls H locs cells slots hd (Or.inl ⟨rfl, y, rfl, hy⟩) Z.fin
        · cases hrun
      · cases hrun
    · obtain ⟨hd, -, hn⟩ := hbase rfl (by simp) (by simp)
      split at hrun
      · split at hrun
        · rename_i y hy
          simp only [Option.some.injEq, Prod.mk.injEq] at hrun
          obtain ⟨rfl, rfl⟩ := hrun
          exact fin ad pc0 _ ls H locs cells slots hd (Or.inr (Or.inl ⟨rfl, ⟨y, rfl⟩, hy⟩)) Z.fin
        · cases hrun
      · cases hrun
    · obtain ⟨hd, -, hn⟩ := hbase rfl (by simp) (by simp)
      split at hrun
      · split at hrun
        · rename_i y hy
          simp only [Option.some.injEq, Prod.mk.injEq] at hrun
          obtain ⟨rfl, rfl⟩ := hrun
          exact fin ad pc0 _ ls H locs cells slots hd (Or.inr (Or.inr (Or.inl ⟨rfl, ⟨y, rfl⟩, hy⟩))) Z.fin
        · cases hrun
      · cases hrun
    · obtain ⟨hd, -, hn⟩ := hbase rfl (by simp) (by simp)
      split at hrun
      · split at hrun
        · rename_i hy
          simp only [Option.some.injEq, Prod.mk.injEq] at hrun
          obtain ⟨rfl, rfl⟩ := hrun
          exact fin ad pc0 _ ls H locs cells slots hd (Or.inr (Or.inr (Or.inr ⟨rfl, rfl, hy⟩))) Z.fin
        · cases hrun
      · cases hrun
    · -- invokevirtual
      rename_i idx
      obtain ⟨hd, hc2, hn⟩ := hbase rfl (by simp) (by simp)
      exact hcall 0 idx (Or.inl ⟨rfl, rfl⟩) (by rw [hn]; exact hc2) hrun
    · -- invokestatic
      rename_i idx
      obtain ⟨hd, hc2, hn⟩ := hbase rfl (by simp) (by simp)
      have C0 := C
      have Z0 := Z
      obtain ⟨hx, hb, hml, hown, hts, hK, hA, hE, hi, hfr, hlo⟩ := C
      obtain ⟨hP, hD, hSS, hL, hc1, hs1, hn0, hag⟩ := Z
      have hz := hE.2.2.1
      have hnx := px_next hfine ⟨by simp, by simp⟩
      rw [hn] at hnx
      have hsp : 9001 ≤ a → a ≤ 9004 → Cond.methodLink (px_own k) idx (px_cy a) ∈ px_Ts ∧ (∀ w ∈ px_mwords a, w ∈ px_Ts) ∧ 1 ≤ R.frames ∧ 26 ≤ R.locals := by
        intro h1 h2
        have hc3 : px_inv k 1 a idx 3 = true := hc2
        simp only [px_inv, Bool.and_eq_true, Bool.or_eq_true, decide_eq_true_eq] at hc3
        have h3 := hc3.2.resolve_left (by omega)
        rw [if_neg (by omega), if_neg (by omega)] at h3
        simp only [Bool.and_eq_true, decide_eq_true_eq] at h3
        obtain ⟨nest, w1, w2, w3⟩ := px_lk_all h3.1
        have w3 := w3 (by omega)
        rw [if_pos w3] at w1
        unfold px_mlink at w1
        rw [if_pos w3] at w1
        exact ⟨w1, w2, by omega, by omega⟩
      have hlocs : c.maxLocals = ls.size := hml.trans hL.1.symm
      have hcl : cells ≤ R.cells ∧ slots ≤ R.slots := by omega
      split at hrun
      · rename_i ha
        subst ha
        obtain ⟨w1, w2, r1, r2⟩ := hsp (by omega) (by omega)
        split at hrun
        · rename_i nn dp dst sp src st0
          split at hrun
          · rename_i hsum
            split at hrun
            · rename_i de hcp
              unfold px_cpy at hcp
              split at hcp
              · rename_i t0 n0' rs0 hsrc
                split at hcp
                · rename_i t1 n1' rs1 hdst
                  split at hcp
                  · rename_i hcond
                    obtain ⟨rfl, q0, q1, g1, g2, g3, g4, g5⟩ := hcond
                    have hw2 : ∀ w ∈ [Cond.native arraycopyName, .static arraycopyName, .initialized "java/lang/System"], w ∈ px_Ts := w2
                    split at hcp
                    · rename_i ht
                      subst ht
                      cases hcp
                      refine va_copyi hx hb hlocs hown (hts _ w1) (hts _ (hw2 _ (by simp))) (hts _ (hw2 _ (by simp))) (hts _ (hw2 _ (by simp))) hK hP hD hSS src dst 0 0 (px_w_at (tc := tc) (ad := ad) hsrc) (px_w_at (tc := tc) (ad := ad) hdst) rfl rfl rfl g1 g2 g3 g4 g5 (fun _ _ => rfl) r1 (by rw [px_sum_map hz]; have hnf : nativeFrameWords "java/lang/System" "arraycopy" 5 = 7 := (by decide); rw [hnf]; omega) hd (fun H1 locs1 hP1 hD1 hS1 => ?_)
                      have hw := px_w_set (tc := tc) (ad := ad) (h := h) (h' := (h.1, px_row h.2.1 dst (va_cpy (h.2.1 src) (h.2.1 dst) sp.toNatClampNeg dp.toNatClampNeg nn.toNatClampNeg), h.2.2)) hdst (px_set_same hdst) (fun j hj => by simp only [px_row, if_neg hj]) (fun j hj => rfl) (e := .inl (tc 0, n1', .inl (va_cpy (h.2.1 src) (h.2.1 dst) sp.toNatClampNeg dp.toNatClampNeg nn.toNatClampNeg))) (by
                        unfold px_cell
                        simp [px_row])
                      rw [hw] at hP1 hD1
                      exact hS k _ _ _ _ _ _ _ hrun hk hft C0 hfar ⟨hP1, hD1, hS1, hL, hc1, hs1, hn0, hag⟩ hnx fin
                    · split at hcp
                      · rename_i ht
                        subst ht
                        cases hcp
                        refine va_copyl hx hb hlocs hown (hts _ w1) (hts _ (hw2 _ (by simp))) (hts _ (hw2 _ (by simp))) (hts _ (hw2 _ (by simp))) hK hP hD hSS src dst 2 2 (px_w_at (tc := tc) (ad := ad) hsrc) (px_w_at (tc := tc) (ad := ad) hdst) rfl rfl rfl g1 g2 g3 g4 g5 (fun _ _ => rfl) r1 (by rw [px_sum_map hz]; have hnf : nativeFrameWords "java/lang/System" "arraycopy" 5 = 7 := (by decide); rw [hnf]; omega) hd (fun H1 locs1 hP1 hD1 hS1 => ?_)
                        have hw := px_w_set (tc := tc) (ad := ad) (h := h) (h' := (h.1, h.2.1, px_rowL h.2.2 dst (va_cpy (h.2.2 src) (h.2.2 dst) sp.toNatClampNeg dp.toNatClampNeg nn.toNatClampNeg))) hdst (px_set_same hdst) (fun j hj => rfl) (fun j hj => by simp only [px_rowL, if_neg hj]) (e := .inl (tc 2, n1', .inr (.inl (va_cpy (h.2.2 src) (h.2.2 dst) sp.toNatClampNeg dp.toNatClampNeg nn.toNatClampNeg)))) (by
                          unfold px_cell
                          simp [px_rowL])
                        rw [hw] at hP1 hD1
                        exact hS k _ _ _ _ _ _ _ hrun hk hft C0 hfar ⟨hP1, hD1, hS1, hL, hc1, hs1, hn0, hag⟩ hnx fin
                      · cases hcp
                  · cases hcp
                · cases hcp
              · cases hcp
            · cases hrun
          · cases hrun
        · cases hrun
      · split at hrun
        · rename_i ha
          subst ha
          obtain ⟨w1, w2, r1, r2⟩ := hsp (by omega) (by omega)
          have hw2 : ∀ w ∈ [Cond.static Lib.Math.abs.name, .initialized "java/lang/Math", .code Lib.Math.abs.name Lib.Math.abs.code 1 (some .int)], w ∈ px_Ts := w2
          split at hrun
          · split at hrun
            · rename_i hsum
              refine va_mabs hx hb hlocs hown (hts _ w1) (hts _ (hw2 _ (by simp))) (hts _ (hw2 _ (by simp))) (hts _ (hw2 _ (by simp))) r1 (by rw [px_sum_map hz]; omega) hcl.1 hcl.2 hd ?_
              exact hS k _ _ _ _ _ _ _ hrun hk hft C0 hfar Z0 hnx fin
            · cases hrun
          · cases hrun
        · split at hrun
          · rename_i ha
            subst ha
            obtain ⟨w1, w2, r1, r2⟩ := hsp (by omega) (by omega)
            have hw2 : ∀ w ∈ [Cond.static Lib.Math.max.name, .initialized "java/lang/Math", .code Lib.Math.max.name Lib.Math.max.code 2 (some .int)], w ∈ px_Ts := w2
            split at hrun
            · split at hrun
              · rename_i hsum
                refine va_mmax hx hb hlocs hown (hts _ w1) (hts _ (hw2 _ (by simp))) (hts _ (hw2 _ (by simp))) (hts _ (hw2 _ (by simp))) r1 (by rw [px_sum_map hz]; omega) hcl.1 hcl.2 hd ?_
                exact hS k _ _ _ _ _ _ _ hrun hk hft C0 hfar Z0 hnx fin
              · cases hrun
            · cases hrun
          · split at hrun
            · rename_i ha
              subst ha
              obtain ⟨w1, w2, r1, r2⟩ := hsp (by omega) (by omega)
              have hw2 : ∀ w ∈ [Cond.static Lib.Math.min.name, .initialized "java/lang/Math", .code Lib.Math.min.name Lib.Math.min.code 2 (some .int)], w ∈ px_Ts := w2
              split at hrun
              · split at hrun
                · rename_i hsum
                  refine va_mmin hx hb hlocs hown (hts _ w1) (hts _ (hw2 _ (by simp))) (hts _ (hw2 _ (by simp))) (hts _ (hw2 _ (by simp))) r1 (by rw [px_sum_map hz]; omega) hcl.1 hcl.2 hd ?_
                  exact hS k _ _ _ _ _ _ _ hrun hk hft C0 hfar Z0 hnx fin
                · cases hrun
              · cases hrun
            · exact hcall 1 idx (Or.inr (Or.inl ⟨rfl, rfl⟩)) (by rw [hn]; exact hc2) hrun
    · -- invokespecial
      rename_i idx
      obtain ⟨hd, hc2, hn⟩ := hbase rfl (by simp) (by simp)
      split at hrun
      · rename_i ha
        subst ha
        split at hrun
        · rename_i q st0
          split at hrun
          · rename_i hsum
            have C0 := C
            obtain ⟨hx, hb, hml, hown, hts, hK, hA, hE, hi, hfr, hlo⟩ := C
            have hc3 : px_inv k 2 9000 idx 3 = true := hc2
            simp only [px_inv, Bool.and_eq_true, Bool.or_eq_true, decide_eq_true_eq] at hc3
            have h3 := hc3.2.resolve_left (by omega)
            rw [if_neg (by omega), if_pos trivial] at h3
            simp only [Bool.and_eq_true, decide_eq_true_eq] at h3
            obtain ⟨nest, w1, w2, w3⟩ := px_lk_all h3.1
            have w3 := w3 (by omega)
            rw [if_pos w3] at w1
            unfold px_mlink at w1
            rw [if_pos w3] at w1
            have hnx := px_next hfine ⟨by simp, by simp⟩
            rw [hn] at hnx
            have hr2 := lv_room (m := m) (pc := pc0) (ls := ls) (rest := (Value.ref q :: st0).map (px_rl ad z)) (st := st0.map (px_rl ad z)) (by rw [px_sum_map hE.2.2.1]; exact hsum)
            refine W.objInit hx hb hown (hts _ w1) (hts _ (w2 _ (List.mem_singleton.mpr rfl))) (hts _ (px_hasL_mem px_misc_ok _ (by simp))) rfl (Z.2.2.2.1.1.trans hml.symm) rfl hd (by omega) (Nat.le_trans (Nat.add_le_add_right hr2 12) (by omega)) ?_
            exact hS k _ _ _ _ _ _ _ hrun hk hft C0 hfar Z hnx fin
          · cases hrun
        · cases hrun
      · exact hcall 2 idx (Or.inr (Or.inr ⟨rfl, rfl⟩)) (by rw [hn]; exact hc2) hrun
    · -- all else
      split at hrun
      · rename_i L1 st1 h1 hs
        refine px_stepW C hchk hs hfar Z (fun ad' ls' H' locs' cells' slots' Z' hfar' => ?_)
        exact hS k _ _ _ _ _ _ _ hrun hk hft C hfar' Z' (px_next hfine (px_step_sw hs)) fin
      · rename_i t L1 st1 h1 hs
        refine px_stepW C hchk hs hfar Z (fun ad' ls' H' locs' cells' slots' Z' hfar' => ?_)
        cases hto : px_to k t with
        | nil =>
          rw [hto] at hrun
          cases N <;> simp [px_run] at hrun
        | cons x r =>
          have h2 := px_to_some (hok k hk) hto
          refine hS k _ _ _ _ _ _ _ hrun hk h2.1 C hfar' Z' (fun y hy => ?_) fin
          rw [hto] at hy
          cases hy
          exact h2.2
      · cases hrun

theorem px_sound (l : Launch) (X : px_X) (hok : ∀ k, k ≤ px_law → px_ok k) : ∀ N, px_Sound l X N
  | 0 => fun k rem suf L st h v h' hrun => by simp [px_run] at hrun
  | N + 1 => px_sound_succ (px_sound l X hok N) hok
end
section
/-! THE LAW'S START: what the Statement gives of it, as the pure machine wants it. -/
def px_flat : List Cond := flatC (Jvm.Cond.and given_1 narrow_1)
def px_fin1 (w : Cond) : Bool := decide (w ∈ px_flat)
def px_tmS (i : Nat) : Term := .string "LightAlong" (350 + 2 * i)
def px_sq0 (i : Nat) : Bool := px_fin1 (.exactly (px_tmS i) "java/lang/String") && px_fin1 (.eq (.field (px_tmS i) "java/lang/String" "coder" "B") (.int 0)) && px_fin1 (.arrayOf (.field (px_tmS i) "java/lang/String" "value" "[B") .byte) && px_fin1 (.eq (.length (.field (px_tmS i) "java/lang/String" "value" "[B")) (.int (Int32.ofNat (px_wl.getD i 0)))) &&
  ((List.range (px_wl.getD i 0)).all fun j => px_fin1 (.eq (.elem (.field (px_tmS i) "java/lang/String" "value" "[B") (.int (Int32.ofNat j))) (.int ((px_wb.getD i []).getD j 0)))) && ((List.range 11).all fun j => decide (i = j) || px_fin1 (.not (.eq (px_tmS i) (px_tmS j))) || px_fin1 (.not (.eq (px_tmS j) (px_tmS i))))
set_option maxRecDepth 100000 in
theorem px_sqk0 : px_sq0 0 = true := by decide +kernel
set_option maxRecDepth 100000 in
theorem px_sqk1 : px_sq0 1 = true := by decide +kernel
set_option maxRecDepth 100000 in
theorem px_sqk2 : px_sq0 2 = true := by decide +kernel
set_option maxRecDepth 100000 in
theorem px_sqk3 : px_sq0 3 = true := by decide +kernel
set_option maxRecDepth 100000 in
theorem px_sqk4 : px_sq0 4 = true := by decide +kernel
set_option maxRecDepth 100000 in
theorem px_sqk5 : px_sq0 5 = true := by decide +kernel
set_option maxRecDepth 100000 in
theorem px_sqk6 : px_sq0 6 = true := by decide +kernel
set_option maxRecDepth 100000 in
theorem px_sqk7 : px_sq0 7 = true := by decide +kernel
set_option maxRecDepth 100000 in
theorem px_sqk8 : px_sq0 8 = true := by decide +kernel
set_option maxRecDepth 100000 in
theorem px_sqk9 : px_sq0 9 = true := by decide +kernel
set_option maxRecDepth 100000 in
theorem px_sqk10 : px_sq0 10 = true := by decide +kernel
theorem px_sq_ok {i : Nat} (hi : i < 11) : px_sq0 i = true := by
  rcases (show i = 0 ∨ i = 1 ∨ i = 2 ∨ i = 3 ∨ i = 4 ∨ i = 5 ∨ i = 6 ∨ i = 7 ∨ i = 8 ∨ i = 9 ∨ i = 10 by omega) with rfl | rfl | rfl | rfl | rfl | rfl | rfl | rfl | rfl | rfl | rfl
  · exact px_sqk0
  · exact px_sqk1
  · exact px_sqk2
  · exact px_sqk3
  · exact px_sqk4
  · exact px_sqk5
  · exact px_sqk6
  · exact px_sqk7
  · exact px_sqk8
  · exact px_sqk9
  · exact px_sqk10
def px_tmT (a : Nat) : Term := .static (px_sn a).1 (px_sn a).2.1 (px_sn a).2.2
def px_an (a : Nat) : Nat := (px_ia.getD a []).length
def px_at0 (a : Nat) : Bool := px_fin1 (.arrayOf (px_tmT a) .int) && px_fin1 (.eq (.length (px_tmT a)) (.int (Int32.ofNat (px_an a)))) && decide (px_an a < 100) &&
  ((List.range (px_an a)).all fun j => px_fin1 (.eq (.elem (px_tmT a) (.int (Int32.ofNat j))) (.int ((px_ia.getD a []).getD j 0))))
set_option maxRecDepth 100000 in
theorem px_at_ok : (List.range 4).all px_at0 = true := by decide +kernel
set_option maxRecDepth 100000 in
theorem px_as_ok : (px_fin1 (.eq (px_tmT 4) (.int 1)) && px_fin1 (.isRef (px_tmT 5))) = true := by decide +kernel
def px_zt (a : Nat) : Bool := decide (Cond.laysStatic (px_sn a).1 (px_sn a).2.1 (px_sn a).2.2 ∈ lw_tbl) && decide (Cond.initialized (px_sn a).1 ∈ lw_tbl)
set_option maxRecDepth 100000 in
theorem px_zt_ok : (List.range 6).all px_zt = true := by decide +kernel
set_option maxRecDepth 100000 in
theorem px_sr_ok : (List.range 11).all (fun i => decide (Cond.stringRef "LightAlong" (350 + 2 * i) (px_tx i) ∈ lw_tbl)) = true := by decide +kernel
set_option maxRecDepth 100000 in
theorem px_in_ok : (List.range 9).all (fun c => decide (Cond.instantiable (px_cl c) (px_nf c) ∈ lw_tbl)) = true := by decide +kernel
set_option maxRecDepth 100000 in
theorem px_ao_ok : decide (Cond.arrayOver (.object "LightAlong$Shelf") ∈ lw_tbl) = true := by decide +kernel
theorem px_zo {args : Array Value} {s : State} {A : Nat → Prop} (hts : ∀ w ∈ lw_tbl, w.before args s = true) {a : Nat} (ha : a < 6) {v : Value} (hv : (px_tmT a).eval args s none [] s = some v) (hA : ∀ a : Nat, a < s.heap.size → ¬ A a) : va_Z (px_sn a).1 (px_sn a).2.1 (px_sn a).2.2 v A s s.heap := by
  have h := List.all_eq_true.mp px_zt_ok a (List.mem_range.mpr ha)
  simp only [px_zt, Bool.and_eq_true, decide_eq_true_eq] at h
  exact va_Zof (hts _ h.1) (hts _ h.2) hv hA
/-- the outside at the law's start -/
theorem px_Ex_start {args : Array Value} {s : State} {b L : Nat} {xs : Nat → Int32} (hts : ∀ w ∈ lw_tbl, w.before args s = true) (hgv : ∀ w ∈ px_flat, w.before args s = true) (hX : va_X b L xs s s.heap) (hbl : b < s.heap.size) :
    ∃ (ad : Nat → Nat) (z : Value), ad 1300 = b ∧ px_Ex ad z (L, xs) (fun q : Nat => s.heap.size ≤ q) s s.heap := by
  have hA : ∀ a : Nat, a < s.heap.size → ¬ (fun q : Nat => s.heap.size ≤ q) a := fun a h => Nat.not_le.mpr h
  have hf : ∀ w, px_fin1 w = true → w.before args s = true := fun w h => hgv w (of_decide_eq_true h)
  have hsq : ∀ i, i < 11 → px_sq0 i = true := fun i hi => px_sq_ok hi
  have hsq' : ∀ i, i < 11 → _ := fun i hi => by
    have h := hsq i hi
    simp only [px_sq0, Bool.and_eq_true] at h
    exact h
  obtain ⟨adK, adV, hS, hev⟩ := vk_Sof (args := args) (s := s) (N := 11) (tm := px_tmS) (len := px_wl) (byt := px_wb) (A := fun q : Nat => s.heap.size ≤ q)
    (fun i hi => by
      rcases (show i = 0 ∨ i = 1 ∨ i = 2 ∨ i = 3 ∨ i = 4 ∨ i = 5 ∨ i = 6 ∨ i = 7 ∨ i = 8 ∨ i = 9 ∨ i = 10 by omega) with rfl | rfl | rfl | rfl | rfl | rfl | rfl | rfl | rfl | rfl | rfl <;> decide)
    (fun i hi => hf _ (hsq' i hi).1.1.1.1.1) (fun i hi => hf _ (hsq' i hi).1.1.1.1.2) (fun i hi => hf _ (hsq' i hi).1.1.1.2) (fun i hi => hf _ (hsq' i hi).1.1.2)
    (fun i hi j hj => hf _ (List.all_eq_true.mp (hsq' i hi).1.2 j (List.mem_range.mpr hj)))
    (fun i j hi hj hij => by
      have := List.all_eq_true.mp (hsq' i hi).2 j (List.mem_range.mpr hj)
      simp only [Bool.or_eq_true, decide_eq_true_eq] at this
      rcases this with (h | h) | h
      · exact absurd h hij
      · exact Or.inl (hf _ h)
      · exact Or.inr (hf _ h)) hA
  have hT : ∀ a : Nat, ∃ t : Nat, a < 4 → (px_tmT a).eval args s none [] s = some (.ref t) ∧ va_T .int t (px_an a) (fun j => .int ((px_ia.getD a []).getD j 0)) (fun q : Nat => s.heap.size ≤ q) s s.heap := by
    intro a
    by_cases ha : a < 4
    · have h := List.all_eq_true.mp px_at_ok a (List.mem_range.mpr ha)
      simp only [px_at0, Bool.and_eq_true, decide_eq_true_eq] at h
      obtain ⟨t, h1, h2⟩ := va_Tof (args := args) (s := s) (tm := px_tmT a) (ty := .int) (N := px_an a) (f := fun j => .int ((px_ia.getD a []).getD j 0)) (A := fun q : Nat => s.heap.size ≤ q) (by have := h.1.2; omega) (hf _ h.1.1.1) (va_eqt (hf _ h.1.1.2)) (fun j hj => va_eqt (hf _ (List.all_eq_true.mp h.2 j (List.mem_range.mpr hj)))) hA
      exact ⟨t, fun _ => ⟨h1, h2⟩⟩
    · exact ⟨0, fun h => absurd h ha⟩
  obtain ⟨T, hT⟩ : ∃ T : Nat → Nat, ∀ a, a < 4 → (px_tmT a).eval args s none [] s = some (.ref (T a)) ∧ va_T .int (T a) (px_an a) (fun j => .int ((px_ia.getD a []).getD j 0)) (fun q : Nat => s.heap.size ≤ q) s s.heap :=
    ⟨fun a => Classical.choose (hT a), fun a ha => Classical.choose_spec (hT a) ha⟩
  have has := px_as_ok
  simp only [Bool.and_eq_true] at has
  have hz4 := px_zo hts (show 4 < 6 by decide) (va_eqt (hf _ has.1)) hA
  have hz5 : va_Zq (px_sn 5).1 (px_sn 5).2.1 (px_sn 5).2.2 (fun q : Nat => s.heap.size ≤ q) s s.heap := by
    have h := List.all_eq_true.mp px_zt_ok 5 (List.mem_range.mpr (by decide))
    simp only [px_zt, Bool.and_eq_true, decide_eq_true_eq] at h
    exact va_Zqof (hts _ h.1) (hts _ h.2) (hf _ has.2) hA
  obtain ⟨z, hzc, hz5⟩ : ∃ z : Value, z.category = 1 ∧ va_Z (px_sn 5).1 (px_sn 5).2.1 (px_sn 5).2.2 z (fun q : Nat => s.heap.size ≤ q) s s.heap := by
    rcases hz5 with h | ⟨t, h⟩
    · exact ⟨.null, rfl, h⟩
    · exact ⟨.ref t, rfl, h⟩
  refine ⟨fun i => if 1300 ≤ i then b else if 1200 ≤ i then T (i - 1200) else if 1100 ≤ i then adV (i - 1100) else adK (i - 1000), z, if_pos (by decide), ?_⟩
  have eK : ∀ i, i < 11 → (if 1300 ≤ 1000 + i then b else if 1200 ≤ 1000 + i then T (1000 + i - 1200) else if 1100 ≤ 1000 + i then adV (1000 + i - 1100) else adK (1000 + i - 1000)) = adK i := fun i hi => by
    rw [if_neg (by omega), if_neg (by omega), if_neg (by omega), show 1000 + i - 1000 = i by omega]
  have eV : ∀ i, i < 11 → (if 1300 ≤ 1100 + i then b else if 1200 ≤ 1100 + i then T (1100 + i - 1200) else if 1100 ≤ 1100 + i then adV (1100 + i - 1100) else adK (1100 + i - 1000)) = adV i := fun i hi => by
    rw [if_neg (by omega), if_neg (by omega), if_pos (by omega), show 1100 + i - 1100 = i by omega]
  have eT : ∀ a, a < 4 → (if 1300 ≤ 1200 + a then b else if 1200 ≤ 1200 + a then T (1200 + a - 1200) else if 1100 ≤ 1200 + a then adV (1200 + a - 1100) else adK (1200 + a - 1000)) = T a := fun a ha => by
    rw [if_neg (by omega), if_pos (by omega), show 1200 + a - 1200 = a by omega]
  refine ⟨fun w hw => ?_, ?_, hzc, ⟨fun i hi => ?_, fun i j hi hj h => ?_⟩, fun i hi => ?_, fun q n f hx => ?_, fun a ha => ?_, hz4, hz5⟩
  · have hk := px_Tn_kind hw
    have hw2 := hts w (List.mem_filter.mp hw).1
    unfold px_isN at hk
    split at hk
    · exact va_Nw.of rfl hw2
    · exact va_Nw.of rfl hw2
    · cases hk
  · exact va_AO.of (hts _ (of_decide_eq_true px_ao_ok))
  · have := hS.1 i hi
    dsimp only
    rw [eK i hi, eV i hi]
    exact this
  · dsimp only at h
    rw [eK i hi, eK j hj] at h
    exact hS.2 i j hi hj h
  · dsimp only
    rw [eK i hi]
    have h1 := List.all_eq_true.mp px_sr_ok i (List.mem_range.mpr hi)
    exact vk_R.of (hts _ (of_decide_eq_true h1)) (hev i hi)
  · unfold px_xa at hx
    split at hx
    · rename_i hq
      subst hq
      cases hx
      show va_T .int (if 1300 ≤ 1300 then b else _) _ _ _ _ _
      rw [if_pos (Nat.le_refl _)]
      obtain ⟨scr, h1, h2, h3, h4, h5⟩ := hX
      exact ⟨scr, h1, h2, h3, Nat.le_of_eq h4.symm, by rw [h4], h5, Nat.not_le.mpr hbl⟩
    · split at hx
      · cases hx
      · rename_i hq1 hq2
        cases hl : px_ia[q - 1200]? with
        | none => rw [hl] at hx; cases hx
        | some l =>
          rw [hl] at hx
          simp only [Option.map_some, Option.some.injEq, Prod.mk.injEq] at hx
          obtain ⟨rfl, rfl⟩ := hx
          have hl4 : q - 1200 < 4 := (List.getElem?_eq_some_iff.mp hl).1
          have e := eT (q - 1200) hl4
          rw [show 1200 + (q - 1200) = q by omega] at e
          dsimp only
          rw [e]
          have h2 := (hT (q - 1200) hl4).2
          have h3 : px_ia.getD (q - 1200) [] = l := by rw [List.getD_eq_getElem?_getD, hl]; rfl
          unfold px_an at h2
          simp only [h3] at h2
          exact h2
  · dsimp only
    rw [eT a ha]
    exact px_zo hts (by omega) (hT a ha).1 hA
end
section
theorem px_okA : ∀ k, k ≤ px_law → px_ok k := by
  sorry
end
section
theorem px_pure (X : px_X) (h : X.1 ≤ 3072) : ∃ (N : Nat) (h' : px_H), px_run X N px_law (1000, 20000) (px_ct px_law) (px_ent [.ref 1300] 4) [] ([], fun _ _ => 0, fun _ _ => 0) = some (some (.int 1), h') := by
  sorry
end
section
/-! THE CLAIM OUT OF ONE WALK OF THE LAW'S BODY. Your part is whole_start (and what it stands on); all else here is the same for every law, but numbers. -/
def lw_P (b : Addr) (xs : List Int32) (args : Array Value) (s : State) : Prop := args = #[.ref b] ∧ s.IntsAt b xs ∧ xs.length ≤ 3072 ∧ (Jvm.Cond.and given_1 narrow_1).before args s = true
def lw_Q (_ : Array Value) (s : State) (o : Outcome) (t : State) : Prop := o = .returned (some (.int 1)) ∧ Framed s o t [] 600000 7302250
def lw_Z (below : List Frame) (a : Array Value) (s : State) : State → Prop := fun t => ∃ o, t.status = .running ∧ Ended t below o ∧ lw_Q a s o t
/-- the law's own end, with 1 on the stack, nothing written that was there before, its room as the claim has it -/
theorem lw_ret {p : Program} {l : Launch} {e : Env} {s : State} {m : MethodId} {below : List Frame} {meth : Method} {c : Code} {b : Nat} (hx : p.tables.exec = Jvm.exec) (hb : c.code = code) (hr : meth.sig.returnType = ret) (hlocks : meth.locks = false) {pc : Nat} {H : Heap} {ls : Array Slot} (hdg : decode code pc = .ok (.ireturn, 1)) : W p l e room_1 s m #[Value.ref b] below meth c H [] 600000 7302250 (lw_Z below #[Value.ref b] s) (F0 m pc ls [.int 1]) := by
  intro T hT X
  obtain ⟨fs, hret, hrun, hended, hW, hframe⟩ := X.leave (v := some (.int 1)) (hlocks := hlocks) (fun h => by rw [hr] at h; cases h)
  have hmeth' : T.vm.method? m = some meth := X.method'
  refine ⟨T.setFrames fs, ?_, .returned (some (.int 1)), hrun, hended, rfl, ⟨_, rfl⟩, hW, hframe⟩
  jvm_step X.here [X.here.top, hx, hb, hdg, hmeth', hr, ret, narrow_b1]
  (try refine ⟨rfl, ?_⟩); (try refine ⟨rfl, ?_⟩)
  first | (intro acts; rw [hret _ acts rfl rfl rfl]) | rw [hret _ _ rfl rfl rfl]
  exact Steps.refl _
/-- what holds at the law's entry: the machine, the code, the tables' words (any of lw_tbl by 'hts w (by decide +kernel)'), the script of L ints xs at the cell b, what the Statement gives of the start (any of its parts by flat_of_before) -/
def lw_At (p : Program) (s : State) (m : MethodId) (meth : Method) (c : Code) (b L : Nat) (xs : Nat → Int32) : Prop :=
  p.tables.exec = Jvm.exec ∧ c.code = code ∧ meth.sig.returnType = ret ∧ c.maxLocals = 4 ∧ s.vm.findClass R_law = some m.cls ∧ (∀ w ∈ lw_tbl, w.before #[Value.ref b] s = true) ∧ va_X b L xs s s.heap ∧ b < s.heap.size ∧ meth.locks = false ∧ (Jvm.Cond.and given_1 narrow_1).before #[Value.ref b] s = true
-- ===== YOUR PART BEGINS =====
theorem px_ao_spec {s : State} (h : va_AO "LightAlong$Shelf" s) : ∃ cA : ClassId, ArrOfT s cA (.object "LightAlong$Shelf") ∧ va_RA s cA (.object "LightAlong$Shelf") := by
  obtain ⟨comp, c, k, h1, h2, h3, h4, h5⟩ := Cond.arrayOver_spec h
  exact ⟨c, fun n w => ⟨(fun k h => by cases h), k, h3, comp, h4⟩, k, comp, h3, h4, h1, h5⟩
theorem px_ac_spec {args : Array Value} {s : State} {ty : FieldType} (hp : ty = .int ∨ ty = .boolean ∨ ty = .long) (h : (Cond.arrayClass ty).before args s = true) : ∃ cA : ClassId, ArrOfT s cA ty ∧ va_RA s cA ty := by
  obtain ⟨cA, kA, comp, h1, h2, h3⟩ := Cond.arrayClass_spec h
  refine ⟨cA, fun n w => ⟨(fun k h => by cases h), kA, h2, comp, h3⟩, ?_⟩
  rcases hp with rfl | rfl | rfl <;> exact h1
/-- YOUR PART: from the entry, for every script of at most 3072 ints, the law comes to its end with true -/
theorem whole_start {p : Program} {e : Env} {s : State} {m : MethodId} {below : List Frame} {meth : Method} {c : Code} (l : Launch) (hflags : l.flags = flags0) {b L : Nat} {xs : Nat → Int32} (hL : L ≤ 3072) (C0 : lw_At p s m meth c b L xs) : W p l e room_1 s m #[Value.ref b] below meth c s.heap [] 0 0 (lw_Z below #[Value.ref b] s) (entryFrame m ([Value.ref b] : List Value).toArray 4) := by
  obtain ⟨hx, hb, hr, hml, hown, hts, hX, hbl, hlocks, hgv⟩ := id C0
  obtain ⟨ad, z, hadb, hE⟩ := px_Ex_start hts (flat_of_before _ hgv) hX hbl
  have htt : ∀ w ∈ px_Ts, w.before #[Value.ref b] s = true := fun w hw => hts w (List.mem_filter.mp hw).1
  have hKn : ∀ c : Nat, ∃ q : ClassId × (Nat → Nat), c < 9 → u_Kn s (px_cl c) (px_T c) (px_nf c) q.1 q.2 := by
    intro c
    by_cases hc : c < 9
    · have hi := List.all_eq_true.mp px_in_ok c (List.mem_range.mpr hc)
      obtain ⟨cC, iS, h⟩ := u_known (C := px_cl c) (T := px_T c) (N := px_nf c) htt (px_ws_in hc) (hts _ (of_decide_eq_true hi))
      exact ⟨(cC, iS), fun _ => h⟩
    · exact ⟨(0, fun _ => 0), fun h => absurd h hc⟩
  obtain ⟨c0, hc0⟩ := px_ac_spec (Or.inl rfl) (htt _ (px_hasL_mem px_misc_ok (.arrayClass .int) (by simp)))
  obtain ⟨c1, hc1⟩ := px_ac_spec (Or.inr (Or.inl rfl)) (htt _ (px_hasL_mem px_misc_ok (.arrayClass .boolean) (by simp)))
  obtain ⟨c2, hc2⟩ := px_ac_spec (Or.inr (Or.inr rfl)) (htt _ (px_hasL_mem px_misc_ok (.arrayClass .long) (by simp)))
  obtain ⟨c3, hc3⟩ := px_ao_spec hE.2.1
  have hK : va_K (fun c => (Classical.choose (hKn c)).1, fun c => (Classical.choose (hKn c)).2) vwCl (px_tys (fun i => if i = 0 then c0 else if i = 1 then c1 else if i = 2 then c2 else c3)) s := by
    refine ⟨fun c q hq => ?_, fun k q hq => ?_⟩
    · have hc : c < 9 := (List.getElem?_eq_some_iff.mp hq).1
      rw [px_cl_at hc] at hq
      cases hq
      exact Classical.choose_spec (hKn c) hc
    · have hk : k < 4 := (List.getElem?_eq_some_iff.mp hq).1
      rcases (show k = 0 ∨ k = 1 ∨ k = 2 ∨ k = 3 by omega) with rfl | rfl | rfl | rfl
      · cases hq; exact hc0
      · cases hq; exact hc1
      · cases hq; exact hc2
      · cases hq; exact hc3
  obtain ⟨N, h', hrun⟩ := px_pure (L, xs) hL
  have hfine : px_fine px_law (px_ct px_law) := (px_okA px_law (Nat.le_refl _) (0, px_ct px_law) List.mem_cons_self).1
  have hcx : px_Cx (fun c => (Classical.choose (hKn c)).1, fun c => (Classical.choose (hKn c)).2) (fun i => if i = 0 then c0 else if i = 1 then c1 else if i = 2 then c2 else c3) (L, xs) z (fun q : Nat => s.heap.size ≤ q) ad px_law p room_1 s m #[Value.ref b] meth c :=
    ⟨hx, hb, hml, hown, htt, hK, fun _ h => h, hE, fun h => absurd h (by decide), by decide, by decide⟩
  have hLr := px_Lr_entry (ad := ad) hE.2.2.1 [.ref 1300] (n := 4) (by decide)
  have hmap : ([.ref 1300] : List Value).map (px_rl ad z) = [.ref b] := by
    show [Value.ref (ad 1300)] = _
    rw [hadb]
  rw [hmap] at hLr
  rw [lg_entry_eq]
  refine px_sound l (L, xs) px_okA N px_law _ _ _ _ _ _ _ hrun (Nat.le_refl _) hfine hcx (fun _ _ => rfl) (n0 := 0) (pc := 0) ⟨fun k q h => by simp [px_w] at h, ⟨fun i j p q h => by simp [px_w] at h, fun k q h => by simp [px_w] at h⟩, va_S.rf, hLr, by decide, by decide, Nat.le_refl _, fun i _ => rfl⟩ (fun x hxx => by cases hxx; rfl) ?_
  intro ad' pc' i ls' H' locs' cells' slots' hd hret Z
  obtain ⟨zP, zD, zS, zc, zs, zn, zag⟩ := Z
  rcases hret with ⟨rfl, y, hy, -⟩ | ⟨-, ⟨y, hy⟩, -⟩ | ⟨-, ⟨y, hy⟩, -⟩ | ⟨-, hy, -⟩
  · refine W.forget (locs := []) zS.2.2 (W.widen zc zs ?_)
    exact lw_ret hx hb hr hlocks hd
  · cases hy
  · cases hy
  · cases hy
-- ===== YOUR PART ENDS =====
set_option maxHeartbeats 4000000 in
theorem lw_walk (l : Launch) (hflags : l.flags = flags0) (b : Addr) (xs : List Int32) : MetFree l x (headSpec (Jvm.Cond.code x code maxLocals ret :: tables_1) room_1) (lw_P b xs) (fun _ _ _ _ _ => True) lw_Q := by
  refine MetFree.of_bodyS (code := code) (maxLocals := maxLocals) (ret := ret) (by decide) ?_ ?_
  · intro args s m h hn
    obtain ⟨meth, c, h1, h2, h3, h4, h5, h6, -, -⟩ := Cond.code_spec hn (atoms_spec (ws := Jvm.Cond.code x code maxLocals ret :: tables_1) h _ List.mem_cons_self)
    exact ⟨meth, c, h1, h2, h3, h4, h5, h6⟩
  · intro p e s m args below meth c s₁ B hml0 hP _
    obtain ⟨rfl, hx, hbd, hgv⟩ := hP
    obtain ⟨scr, harrAt, hlist, hof, hsmall⟩ := hx
    obtain ⟨hcb, hkn, -, -⟩ := State.arrayAt?_spec harrAt
    have hown : s.vm.findClass R_law = some m.cls := findClass_of_methodNamed B.named
    have hts0 : ∀ c ∈ (Jvm.Cond.code x code maxLocals ret :: tables_1), c.before #[Value.ref b] s = true := atoms_spec (ws := Jvm.Cond.code x code maxLocals ret :: tables_1) B.pre
    have hts : ∀ w ∈ lw_tbl, w.before #[Value.ref b] s = true := k2_hts_sels lw_privs (fun w hw => hts0 w (List.mem_cons_of_mem _ hw)) lw_privs_ok
    have hml : c.maxLocals = 4 := B.maxLocals_eq (hts0 _ List.mem_cons_self)
    have X₀ : Stand p l e room_1 s m #[Value.ref b] below meth c s₁ [] 0 0 := Stand.of_body B
    have hh0 : s₁.heap = s.heap := by rw [B.state]; rfl
    have hsz : scr.slots.size = xs.length := by rw [← Array.length_toList, hlist, List.length_map]
    have hval : ∀ j : Nat, j < xs.length → scr.slots[j]? = some (.int (xs.getD j 0)) := fun j hj => by
      rw [← Array.getElem?_toList, hlist]
      simp [hj]
    have hbl : b < s.heap.size := (Array.getElem?_eq_some_iff.mp hcb).1
    have hX : va_X b xs.length (fun j => xs.getD j 0) s s.heap := ⟨scr, hcb, hof, hkn, hsz, hval⟩
    have K : W p l e room_1 s m #[Value.ref b] below meth c s₁.heap [] 0 0 (lw_Z below #[Value.ref b] s) (entryFrame m ([Value.ref b] : List Value).toArray 4) := by
      rw [hh0]
      exact whole_start l hflags hbd ⟨B.exec, B.bytes, B.returns, hml, hown, hts, hX, hbl, B.notSynchronized, hgv⟩
    obtain ⟨t, a1, o, b1, b2, b3⟩ := K s₁ rfl X₀
    exact ⟨t, o, a1, b1, b2, b3⟩
theorem lw_pre_spec {args : Array Value} {s : State} (h : (Jvm.Cond.and given_1 narrow_1).before args s = true) (hr : rest_1_c.before args s = true) : ∃ (b : Addr) (xs : List Int32), lw_P b xs args s := by
  have hs := flat_of_before _ h
  have hq := flat_of_before _ hr
  have hc : (Cond.count 1).before args s = true := hs _ (by decide +kernel)
  have harr : (Cond.arrayOf (.arg 0) .int).before args s = true := hs _ (by decide +kernel)
  have hle : (Cond.le (.length (.arg 0)) (.int 3072)).before args s = true := hs _ (by decide +kernel)
  have hlen : (Cond.isInt (.length (.arg 0))).before args s = true := hq _ (by decide +kernel)
  have hall : (Cond.all (.arg 0) (.isInt (.elem (.arg 0) (.index 0)))).before args s = true := hq _ (by decide +kernel)
  obtain ⟨b, xs, hb, hx⟩ := State.ints_of_pre rfl harr hlen hall
  have hsm : xs.length < 2 ^ 31 := hx.choose_spec.2.2.2
  have hev : (Term.length (.arg 0)).eval args s none [] s = some (.int xs.length.toInt32) := hx.length_eval hb
  have hv := Cond.le_ints hev (show (Term.int 3072).eval args s none [] s = some (.int 3072) from rfl)
  have hd : xs.length.toInt32 ≤ 3072 := by
    simpa [Cond.before, Cond.holds, hv] using hle
  have hN : xs.length ≤ 3072 := (Int32.ofNat_le_ofNat hsm (by decide)).mp (show Int32.ofNat xs.length ≤ Int32.ofNat 3072 from hd)
  exact ⟨b, xs, Cond.one_arg hc (show args[0]? = some (.ref b) from hb), hx, hN, h⟩
theorem lw_comes (l : Launch) (hflags : l.flags = flags0) : Comes l x (Jvm.Cond.code x code maxLocals ret :: tables_1) room_1 (fun tb e args s => Calls_1 tb e args s ∧ rest_1 tb e args s ∧ Pre_1 tb e args s)
    (fun _ _ args s o t => lw_Q args s o t) := by
  intro p e ha hc hk s m args below hf hfit hheap happ hpre
  obtain ⟨b, xs, hP⟩ := lw_pre_spec hpre.2.2 hpre.2.1
  obtain ⟨k, o, h1, h2, h3, hQ⟩ := lw_walk l hflags b xs p e ha hc hk s m args below hf ((Spec.applies_iff_loose hf).mp happ).1 hP trivial
  exact ⟨k, o, h1, h2, h3, hQ⟩
theorem lw_frame {s t : State} {o : Outcome} {args : Array Value} (h : Framed s o t [] 600000 7302250) :
    Framed s o t (fieldLocs frame_1_writes args s ++ arrayLocs frame_1_arrays args s ++ staticLocs frame_1_statics s) 600000 7302250 := h
theorem lw_limb (L : Cond) (hL : ∀ (args : Array Value) (s t : State), L.after args s (.returned (some (.int 1))) t = true) :
    ArmFor flags0 classFile x code maxLocals ret World_1 tables_1 room_1 Calls_1 rest_1 Pre_1
      (fun tb e a s o t => postC L tb e a s o t ∧ Framed s o t (fieldLocs frame_1_writes a s ++ arrayLocs frame_1_arrays a s ++ staticLocs frame_1_statics s) 600000 7302250) := by
  intro l hflags _ _ p e ha hc hk s m args below hf hfit hheap happ hpre
  obtain ⟨k, o, h1, h2, h3, rfl, hF⟩ := lw_comes l hflags p e ha hc hk s m args below hf hfit hheap happ hpre
  exact ⟨k, _, h1, h2, h3, hL args s _, lw_frame hF⟩
theorem i_vc : Claimed_1_1 ∧ Claimed_1_2 := ⟨lw_limb limb_1_1 (fun args s t => by simp [limb_1_1, Cond.after, Cond.holds, Cond.value]), lw_limb limb_1_2 (fun args s t => Cond.after_iff.mpr (by
  first | (rw [show limb_1_2 = Cond.eq .result (.int 1) from rfl, Cond.eq_ints (x := 1) (y := 1) rfl rfl]; simp; done) | (simp [limb_1_2, Cond.value, Term.eval]; done)))⟩
end
section
theorem zz_one : lw_tbl.length = lw_tbl.length := rfl
end
