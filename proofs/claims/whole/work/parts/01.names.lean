/-- a private method of a class that the tables say can be made, by its rows of tables_1 -/
def lw_okq (q : MethodName × Nat) : Prop := (q.1.cls ≠ "java/lang/invoke/MethodHandle" ∧ q.1.cls ≠ "java/lang/invoke/VarHandle") ∧ Cond.instantiable q.1.cls q.2 ∈ tables_1 ∧ Cond.privateMethod q.1 ∈ tables_1 ∧ Cond.instanceMethod q.1 ∈ tables_1
theorem lw_p0 : lw_okq (⟨"FacesOfLines", "forgetWhatFollows", "()V"⟩, 16) := ⟨⟨by decide +kernel, by decide +kernel⟩, List.mem_of_getElem? (i := 17) (by decide +kernel), List.mem_of_getElem? (i := 405) (by decide +kernel), List.mem_of_getElem? (i := 406) (by decide +kernel)⟩
theorem lw_p1 : lw_okq (⟨"FacesOfLines", "knowPoints", "()V"⟩, 16) := ⟨⟨by decide +kernel, by decide +kernel⟩, List.mem_of_getElem? (i := 17) (by decide +kernel), List.mem_of_getElem? (i := 444) (by decide +kernel), List.mem_of_getElem? (i := 445) (by decide +kernel)⟩
theorem lw_p2 : lw_okq (⟨"FacesOfLines$Points", "add", "(JJJJ)V"⟩, 11) := ⟨⟨by decide +kernel, by decide +kernel⟩, List.mem_of_getElem? (i := 71) (by decide +kernel), List.mem_of_getElem? (i := 452) (by decide +kernel), List.mem_of_getElem? (i := 453) (by decide +kernel)⟩
theorem lw_p3 : lw_okq (⟨"FacesOfLines$Points", "compareTo", "(IJJJJ)I"⟩, 11) := ⟨⟨by decide +kernel, by decide +kernel⟩, List.mem_of_getElem? (i := 71) (by decide +kernel), List.mem_of_getElem? (i := 456) (by decide +kernel), List.mem_of_getElem? (i := 457) (by decide +kernel)⟩
theorem lw_p4 : lw_okq (⟨"FacesOfLines$Points", "addMeetings", "(LFacesOfLines$Lines;)V"⟩, 11) := ⟨⟨by decide +kernel, by decide +kernel⟩, List.mem_of_getElem? (i := 71) (by decide +kernel), List.mem_of_getElem? (i := 463) (by decide +kernel), List.mem_of_getElem? (i := 464) (by decide +kernel)⟩
theorem lw_p5 : lw_okq (⟨"FacesOfLines$Meeting", "findInOneRow", "(LFacesOfLines$Lines;II)V"⟩, 5) := ⟨⟨by decide +kernel, by decide +kernel⟩, List.mem_of_getElem? (i := 77) (by decide +kernel), List.mem_of_getElem? (i := 479) (by decide +kernel), List.mem_of_getElem? (i := 480) (by decide +kernel)⟩
theorem lw_p6 : lw_okq (⟨"FacesOfLines$Meeting", "layAt", "(JJJ)V"⟩, 5) := ⟨⟨by decide +kernel, by decide +kernel⟩, List.mem_of_getElem? (i := 77) (by decide +kernel), List.mem_of_getElem? (i := 486) (by decide +kernel), List.mem_of_getElem? (i := 487) (by decide +kernel)⟩
theorem lw_p7 : lw_okq (⟨"FacesOfLines$Points", "linesThrough", "(LFacesOfLines$Lines;I)I"⟩, 11) := ⟨⟨by decide +kernel, by decide +kernel⟩, List.mem_of_getElem? (i := 71) (by decide +kernel), List.mem_of_getElem? (i := 493) (by decide +kernel), List.mem_of_getElem? (i := 494) (by decide +kernel)⟩
theorem lw_p8 : lw_okq (⟨"FacesOfLines$Points", "walkAlong", "(I)V"⟩, 11) := ⟨⟨by decide +kernel, by decide +kernel⟩, List.mem_of_getElem? (i := 71) (by decide +kernel), List.mem_of_getElem? (i := 513) (by decide +kernel), List.mem_of_getElem? (i := 514) (by decide +kernel)⟩
theorem lw_p9 : lw_okq (⟨"FacesOfLines$Points", "unite", "(II)V"⟩, 11) := ⟨⟨by decide +kernel, by decide +kernel⟩, List.mem_of_getElem? (i := 71) (by decide +kernel), List.mem_of_getElem? (i := 520) (by decide +kernel), List.mem_of_getElem? (i := 521) (by decide +kernel)⟩
theorem lw_p10 : lw_okq (⟨"FacesOfLines$Points", "rootOf", "(I)I"⟩, 11) := ⟨⟨by decide +kernel, by decide +kernel⟩, List.mem_of_getElem? (i := 71) (by decide +kernel), List.mem_of_getElem? (i := 524) (by decide +kernel), List.mem_of_getElem? (i := 525) (by decide +kernel)⟩
theorem lw_p11 : lw_okq (⟨"FacesOfLines$Points", "countParts", "()V"⟩, 11) := ⟨⟨by decide +kernel, by decide +kernel⟩, List.mem_of_getElem? (i := 71) (by decide +kernel), List.mem_of_getElem? (i := 530) (by decide +kernel), List.mem_of_getElem? (i := 531) (by decide +kernel)⟩
theorem lw_p12 : lw_okq (⟨"FacesOfLines", "knowHulls", "()V"⟩, 16) := ⟨⟨by decide +kernel, by decide +kernel⟩, List.mem_of_getElem? (i := 17) (by decide +kernel), List.mem_of_getElem? (i := 538) (by decide +kernel), List.mem_of_getElem? (i := 539) (by decide +kernel)⟩
theorem lw_p13 : lw_okq (⟨"FacesOfLines$Hulls", "add", "(II)V"⟩, 5) := ⟨⟨by decide +kernel, by decide +kernel⟩, List.mem_of_getElem? (i := 300) (by decide +kernel), List.mem_of_getElem? (i := 546) (by decide +kernel), List.mem_of_getElem? (i := 547) (by decide +kernel)⟩
theorem lw_p14 : lw_okq (⟨"FacesOfLines$Hulls", "peelOff", "(I)I"⟩, 5) := ⟨⟨by decide +kernel, by decide +kernel⟩, List.mem_of_getElem? (i := 300) (by decide +kernel), List.mem_of_getElem? (i := 554) (by decide +kernel), List.mem_of_getElem? (i := 555) (by decide +kernel)⟩
theorem lw_p15 : lw_okq (⟨"FacesOfLines$Hulls", "isOnBorder", "(II)Z"⟩, 5) := ⟨⟨by decide +kernel, by decide +kernel⟩, List.mem_of_getElem? (i := 300) (by decide +kernel), List.mem_of_getElem? (i := 558) (by decide +kernel), List.mem_of_getElem? (i := 559) (by decide +kernel)⟩
def lw_privs_1 : List (MethodName × Nat) := [(⟨"FacesOfLines", "forgetWhatFollows", "()V"⟩, 16), (⟨"FacesOfLines", "knowPoints", "()V"⟩, 16), (⟨"FacesOfLines$Points", "add", "(JJJJ)V"⟩, 11), (⟨"FacesOfLines$Points", "compareTo", "(IJJJJ)I"⟩, 11), (⟨"FacesOfLines$Points", "addMeetings", "(LFacesOfLines$Lines;)V"⟩, 11), (⟨"FacesOfLines$Meeting", "findInOneRow", "(LFacesOfLines$Lines;II)V"⟩, 5), (⟨"FacesOfLines$Meeting", "layAt", "(JJJ)V"⟩, 5), (⟨"FacesOfLines$Points", "linesThrough", "(LFacesOfLines$Lines;I)I"⟩, 11), (⟨"FacesOfLines$Points", "walkAlong", "(I)V"⟩, 11), (⟨"FacesOfLines$Points", "unite", "(II)V"⟩, 11), (⟨"FacesOfLines$Points", "rootOf", "(I)I"⟩, 11), (⟨"FacesOfLines$Points", "countParts", "()V"⟩, 11), (⟨"FacesOfLines", "knowHulls", "()V"⟩, 16), (⟨"FacesOfLines$Hulls", "add", "(II)V"⟩, 5), (⟨"FacesOfLines$Hulls", "peelOff", "(I)I"⟩, 5), (⟨"FacesOfLines$Hulls", "isOnBorder", "(II)Z"⟩, 5)]
theorem lw_r1 : ∀ q ∈ lw_privs_1, lw_okq q := List.forall_mem_cons.mpr ⟨lw_p0, List.forall_mem_cons.mpr ⟨lw_p1, List.forall_mem_cons.mpr ⟨lw_p2, List.forall_mem_cons.mpr ⟨lw_p3, List.forall_mem_cons.mpr ⟨lw_p4, List.forall_mem_cons.mpr ⟨lw_p5, List.forall_mem_cons.mpr ⟨lw_p6, List.forall_mem_cons.mpr ⟨lw_p7, List.forall_mem_cons.mpr ⟨lw_p8, List.forall_mem_cons.mpr ⟨lw_p9, List.forall_mem_cons.mpr ⟨lw_p10, List.forall_mem_cons.mpr ⟨lw_p11, List.forall_mem_cons.mpr ⟨lw_p12, List.forall_mem_cons.mpr ⟨lw_p13, List.forall_mem_cons.mpr ⟨lw_p14, List.forall_mem_cons.mpr ⟨lw_p15, fun _ h => absurd h List.not_mem_nil⟩⟩⟩⟩⟩⟩⟩⟩⟩⟩⟩⟩⟩⟩⟩⟩
theorem lw_p16 : lw_okq (⟨"FacesOfLines$Hulls", "isLeft", "(II)Z"⟩, 5) := ⟨⟨by decide +kernel, by decide +kernel⟩, List.mem_of_getElem? (i := 300) (by decide +kernel), List.mem_of_getElem? (i := 562) (by decide +kernel), List.mem_of_getElem? (i := 563) (by decide +kernel)⟩
theorem lw_p17 : lw_okq (⟨"FacesOfLines$Hulls", "noneAtTheLeft", "(III)Z"⟩, 5) := ⟨⟨by decide +kernel, by decide +kernel⟩, List.mem_of_getElem? (i := 300) (by decide +kernel), List.mem_of_getElem? (i := 566) (by decide +kernel), List.mem_of_getElem? (i := 567) (by decide +kernel)⟩
theorem lw_p18 : lw_okq (⟨"FacesOfLines$Standing", "let", "(LFacesOfLines$Lines;I)V"⟩, 3) := ⟨⟨by decide +kernel, by decide +kernel⟩, List.mem_of_getElem? (i := 159) (by decide +kernel), List.mem_of_getElem? (i := 607) (by decide +kernel), List.mem_of_getElem? (i := 608) (by decide +kernel)⟩
theorem lw_p19 : lw_okq (⟨"FacesOfLines", "knowFaces", "()V"⟩, 16) := ⟨⟨by decide +kernel, by decide +kernel⟩, List.mem_of_getElem? (i := 17) (by decide +kernel), List.mem_of_getElem? (i := 622) (by decide +kernel), List.mem_of_getElem? (i := 623) (by decide +kernel)⟩
theorem lw_p20 : lw_okq (⟨"FacesOfLines$Slabs", "findXs", "(LFacesOfLines$Points;)V"⟩, 8) := ⟨⟨by decide +kernel, by decide +kernel⟩, List.mem_of_getElem? (i := 181) (by decide +kernel), List.mem_of_getElem? (i := 630) (by decide +kernel), List.mem_of_getElem? (i := 631) (by decide +kernel)⟩
theorem lw_p21 : lw_okq (⟨"FacesOfLines$Slabs", "addCell", "(III)V"⟩, 8) := ⟨⟨by decide +kernel, by decide +kernel⟩, List.mem_of_getElem? (i := 181) (by decide +kernel), List.mem_of_getElem? (i := 635) (by decide +kernel), List.mem_of_getElem? (i := 636) (by decide +kernel)⟩
theorem lw_p22 : lw_okq (⟨"FacesOfLines$Slabs", "addCells", "(LFacesOfLines$Lines;LFacesOfLines$Standing;I)V"⟩, 8) := ⟨⟨by decide +kernel, by decide +kernel⟩, List.mem_of_getElem? (i := 181) (by decide +kernel), List.mem_of_getElem? (i := 640) (by decide +kernel), List.mem_of_getElem? (i := 641) (by decide +kernel)⟩
theorem lw_p23 : lw_okq (⟨"FacesOfLines$Stretches", "findSteps", "(LFacesOfLines$Lines;JJ)V"⟩, 9) := ⟨⟨by decide +kernel, by decide +kernel⟩, List.mem_of_getElem? (i := 228) (by decide +kernel), List.mem_of_getElem? (i := 650) (by decide +kernel), List.mem_of_getElem? (i := 651) (by decide +kernel)⟩
theorem lw_p24 : lw_okq (⟨"FacesOfLines$Stretches", "addStep", "(JJ)V"⟩, 9) := ⟨⟨by decide +kernel, by decide +kernel⟩, List.mem_of_getElem? (i := 228) (by decide +kernel), List.mem_of_getElem? (i := 656) (by decide +kernel), List.mem_of_getElem? (i := 657) (by decide +kernel)⟩
theorem lw_p25 : lw_okq (⟨"FacesOfLines$Stretches", "stepsUnder", "(JJ)I"⟩, 9) := ⟨⟨by decide +kernel, by decide +kernel⟩, List.mem_of_getElem? (i := 228) (by decide +kernel), List.mem_of_getElem? (i := 660) (by decide +kernel), List.mem_of_getElem? (i := 661) (by decide +kernel)⟩
theorem lw_p26 : lw_okq (⟨"FacesOfLines$Stretches", "cellAt", "(LFacesOfLines$Slabs;III)I"⟩, 9) := ⟨⟨by decide +kernel, by decide +kernel⟩, List.mem_of_getElem? (i := 228) (by decide +kernel), List.mem_of_getElem? (i := 667) (by decide +kernel), List.mem_of_getElem? (i := 668) (by decide +kernel)⟩
theorem lw_p27 : lw_okq (⟨"FacesOfLines$Stretches", "uprightsAt", "(LFacesOfLines$Lines;JJI)I"⟩, 9) := ⟨⟨by decide +kernel, by decide +kernel⟩, List.mem_of_getElem? (i := 228) (by decide +kernel), List.mem_of_getElem? (i := 672) (by decide +kernel), List.mem_of_getElem? (i := 673) (by decide +kernel)⟩
theorem lw_p28 : lw_okq (⟨"FacesOfLines$Stretches", "add", "(III)V"⟩, 9) := ⟨⟨by decide +kernel, by decide +kernel⟩, List.mem_of_getElem? (i := 228) (by decide +kernel), List.mem_of_getElem? (i := 676) (by decide +kernel), List.mem_of_getElem? (i := 677) (by decide +kernel)⟩
theorem lw_p29 : lw_okq (⟨"FacesOfLines$Faces", "unite", "(II)V"⟩, 7) := ⟨⟨by decide +kernel, by decide +kernel⟩, List.mem_of_getElem? (i := 266) (by decide +kernel), List.mem_of_getElem? (i := 684) (by decide +kernel), List.mem_of_getElem? (i := 685) (by decide +kernel)⟩
theorem lw_p30 : lw_okq (⟨"FacesOfLines$Faces", "rootOf", "(I)I"⟩, 7) := ⟨⟨by decide +kernel, by decide +kernel⟩, List.mem_of_getElem? (i := 266) (by decide +kernel), List.mem_of_getElem? (i := 688) (by decide +kernel), List.mem_of_getElem? (i := 689) (by decide +kernel)⟩
theorem lw_p31 : lw_okq (⟨"FacesOfLines$Faces", "number", "(I)V"⟩, 7) := ⟨⟨by decide +kernel, by decide +kernel⟩, List.mem_of_getElem? (i := 266) (by decide +kernel), List.mem_of_getElem? (i := 694) (by decide +kernel), List.mem_of_getElem? (i := 695) (by decide +kernel)⟩
def lw_privs_2 : List (MethodName × Nat) := [(⟨"FacesOfLines$Hulls", "isLeft", "(II)Z"⟩, 5), (⟨"FacesOfLines$Hulls", "noneAtTheLeft", "(III)Z"⟩, 5), (⟨"FacesOfLines$Standing", "let", "(LFacesOfLines$Lines;I)V"⟩, 3), (⟨"FacesOfLines", "knowFaces", "()V"⟩, 16), (⟨"FacesOfLines$Slabs", "findXs", "(LFacesOfLines$Points;)V"⟩, 8), (⟨"FacesOfLines$Slabs", "addCell", "(III)V"⟩, 8), (⟨"FacesOfLines$Slabs", "addCells", "(LFacesOfLines$Lines;LFacesOfLines$Standing;I)V"⟩, 8), (⟨"FacesOfLines$Stretches", "findSteps", "(LFacesOfLines$Lines;JJ)V"⟩, 9), (⟨"FacesOfLines$Stretches", "addStep", "(JJ)V"⟩, 9), (⟨"FacesOfLines$Stretches", "stepsUnder", "(JJ)I"⟩, 9), (⟨"FacesOfLines$Stretches", "cellAt", "(LFacesOfLines$Slabs;III)I"⟩, 9), (⟨"FacesOfLines$Stretches", "uprightsAt", "(LFacesOfLines$Lines;JJI)I"⟩, 9), (⟨"FacesOfLines$Stretches", "add", "(III)V"⟩, 9), (⟨"FacesOfLines$Faces", "unite", "(II)V"⟩, 7), (⟨"FacesOfLines$Faces", "rootOf", "(I)I"⟩, 7), (⟨"FacesOfLines$Faces", "number", "(I)V"⟩, 7)]
theorem lw_r2 : ∀ q ∈ lw_privs_2, lw_okq q := List.forall_mem_cons.mpr ⟨lw_p16, List.forall_mem_cons.mpr ⟨lw_p17, List.forall_mem_cons.mpr ⟨lw_p18, List.forall_mem_cons.mpr ⟨lw_p19, List.forall_mem_cons.mpr ⟨lw_p20, List.forall_mem_cons.mpr ⟨lw_p21, List.forall_mem_cons.mpr ⟨lw_p22, List.forall_mem_cons.mpr ⟨lw_p23, List.forall_mem_cons.mpr ⟨lw_p24, List.forall_mem_cons.mpr ⟨lw_p25, List.forall_mem_cons.mpr ⟨lw_p26, List.forall_mem_cons.mpr ⟨lw_p27, List.forall_mem_cons.mpr ⟨lw_p28, List.forall_mem_cons.mpr ⟨lw_p29, List.forall_mem_cons.mpr ⟨lw_p30, List.forall_mem_cons.mpr ⟨lw_p31, fun _ h => absurd h List.not_mem_nil⟩⟩⟩⟩⟩⟩⟩⟩⟩⟩⟩⟩⟩⟩⟩⟩
theorem lw_p32 : lw_okq (⟨"FacesOfLines$Faces", "boundByCells", "(LFacesOfLines$Slabs;)V"⟩, 7) := ⟨⟨by decide +kernel, by decide +kernel⟩, List.mem_of_getElem? (i := 266) (by decide +kernel), List.mem_of_getElem? (i := 698) (by decide +kernel), List.mem_of_getElem? (i := 699) (by decide +kernel)⟩
theorem lw_p33 : lw_okq (⟨"FacesOfLines$Faces", "link", "(II)V"⟩, 7) := ⟨⟨by decide +kernel, by decide +kernel⟩, List.mem_of_getElem? (i := 266) (by decide +kernel), List.mem_of_getElem? (i := 702) (by decide +kernel), List.mem_of_getElem? (i := 703) (by decide +kernel)⟩
theorem lw_p34 : lw_okq (⟨"FacesOfLines$Faces", "boundByUprights", "(LFacesOfLines$Stretches;)V"⟩, 7) := ⟨⟨by decide +kernel, by decide +kernel⟩, List.mem_of_getElem? (i := 266) (by decide +kernel), List.mem_of_getElem? (i := 706) (by decide +kernel), List.mem_of_getElem? (i := 707) (by decide +kernel)⟩
theorem lw_p35 : lw_okq (⟨"FacesOfLines", "linesOn", "(III)I"⟩, 16) := ⟨⟨by decide +kernel, by decide +kernel⟩, List.mem_of_getElem? (i := 17) (by decide +kernel), List.mem_of_getElem? (i := 732) (by decide +kernel), List.mem_of_getElem? (i := 733) (by decide +kernel)⟩
theorem lw_p36 : lw_okq (⟨"FacesOfLines", "facesWithout", "(I)I"⟩, 16) := ⟨⟨by decide +kernel, by decide +kernel⟩, List.mem_of_getElem? (i := 17) (by decide +kernel), List.mem_of_getElem? (i := 764) (by decide +kernel), List.mem_of_getElem? (i := 765) (by decide +kernel)⟩
theorem lw_p37 : lw_okq (⟨"FacesOfLines", "facesDrawn", "(II)I"⟩, 16) := ⟨⟨by decide +kernel, by decide +kernel⟩, List.mem_of_getElem? (i := 17) (by decide +kernel), List.mem_of_getElem? (i := 784) (by decide +kernel), List.mem_of_getElem? (i := 785) (by decide +kernel)⟩
theorem lw_p38 : lw_okq (⟨"FacesOfLines", "toldXs", "(IZ)I"⟩, 16) := ⟨⟨by decide +kernel, by decide +kernel⟩, List.mem_of_getElem? (i := 17) (by decide +kernel), List.mem_of_getElem? (i := 820) (by decide +kernel), List.mem_of_getElem? (i := 821) (by decide +kernel)⟩
theorem lw_p39 : lw_okq (⟨"FacesOfLines", "toldWithout", "(II)I"⟩, 16) := ⟨⟨by decide +kernel, by decide +kernel⟩, List.mem_of_getElem? (i := 17) (by decide +kernel), List.mem_of_getElem? (i := 824) (by decide +kernel), List.mem_of_getElem? (i := 825) (by decide +kernel)⟩
theorem lw_p40 : lw_okq (⟨"FacesOfLinesModel", "stands", "(IIIII)V"⟩, 48) := ⟨⟨by decide +kernel, by decide +kernel⟩, List.mem_of_getElem? (i := 877) (by decide +kernel), List.mem_of_getElem? (i := 1043) (by decide +kernel), List.mem_of_getElem? (i := 1044) (by decide +kernel)⟩
theorem lw_p41 : lw_okq (⟨"FacesOfLinesModel", "isLine", "(I)Z"⟩, 48) := ⟨⟨by decide +kernel, by decide +kernel⟩, List.mem_of_getElem? (i := 877) (by decide +kernel), List.mem_of_getElem? (i := 1051) (by decide +kernel), List.mem_of_getElem? (i := 1052) (by decide +kernel)⟩
theorem lw_p42 : lw_okq (⟨"FacesOfLinesModel", "drops", "(I)V"⟩, 48) := ⟨⟨by decide +kernel, by decide +kernel⟩, List.mem_of_getElem? (i := 877) (by decide +kernel), List.mem_of_getElem? (i := 1055) (by decide +kernel), List.mem_of_getElem? (i := 1056) (by decide +kernel)⟩
theorem lw_p43 : lw_okq (⟨"FacesOfLinesModel", "meet", "(II)V"⟩, 48) := ⟨⟨by decide +kernel, by decide +kernel⟩, List.mem_of_getElem? (i := 877) (by decide +kernel), List.mem_of_getElem? (i := 1067) (by decide +kernel), List.mem_of_getElem? (i := 1068) (by decide +kernel)⟩
theorem lw_p44 : lw_okq (⟨"FacesOfLinesModel", "turn", "(IIII)I"⟩, 48) := ⟨⟨by decide +kernel, by decide +kernel⟩, List.mem_of_getElem? (i := 877) (by decide +kernel), List.mem_of_getElem? (i := 1071) (by decide +kernel), List.mem_of_getElem? (i := 1072) (by decide +kernel)⟩
theorem lw_p45 : lw_okq (⟨"FacesOfLinesModel", "meetInRow", "(II)V"⟩, 48) := ⟨⟨by decide +kernel, by decide +kernel⟩, List.mem_of_getElem? (i := 877) (by decide +kernel), List.mem_of_getElem? (i := 1075) (by decide +kernel), List.mem_of_getElem? (i := 1076) (by decide +kernel)⟩
theorem lw_p46 : lw_okq (⟨"FacesOfLinesModel", "tellPoints", "()V"⟩, 48) := ⟨⟨by decide +kernel, by decide +kernel⟩, List.mem_of_getElem? (i := 877) (by decide +kernel), List.mem_of_getElem? (i := 1095) (by decide +kernel), List.mem_of_getElem? (i := 1096) (by decide +kernel)⟩
theorem lw_p47 : lw_okq (⟨"FacesOfLinesModel", "addPoint", "(JJJ)V"⟩, 48) := ⟨⟨by decide +kernel, by decide +kernel⟩, List.mem_of_getElem? (i := 877) (by decide +kernel), List.mem_of_getElem? (i := 1099) (by decide +kernel), List.mem_of_getElem? (i := 1100) (by decide +kernel)⟩
def lw_privs_3 : List (MethodName × Nat) := [(⟨"FacesOfLines$Faces", "boundByCells", "(LFacesOfLines$Slabs;)V"⟩, 7), (⟨"FacesOfLines$Faces", "link", "(II)V"⟩, 7), (⟨"FacesOfLines$Faces", "boundByUprights", "(LFacesOfLines$Stretches;)V"⟩, 7), (⟨"FacesOfLines", "linesOn", "(III)I"⟩, 16), (⟨"FacesOfLines", "facesWithout", "(I)I"⟩, 16), (⟨"FacesOfLines", "facesDrawn", "(II)I"⟩, 16), (⟨"FacesOfLines", "toldXs", "(IZ)I"⟩, 16), (⟨"FacesOfLines", "toldWithout", "(II)I"⟩, 16), (⟨"FacesOfLinesModel", "stands", "(IIIII)V"⟩, 48), (⟨"FacesOfLinesModel", "isLine", "(I)Z"⟩, 48), (⟨"FacesOfLinesModel", "drops", "(I)V"⟩, 48), (⟨"FacesOfLinesModel", "meet", "(II)V"⟩, 48), (⟨"FacesOfLinesModel", "turn", "(IIII)I"⟩, 48), (⟨"FacesOfLinesModel", "meetInRow", "(II)V"⟩, 48), (⟨"FacesOfLinesModel", "tellPoints", "()V"⟩, 48), (⟨"FacesOfLinesModel", "addPoint", "(JJJ)V"⟩, 48)]
theorem lw_r3 : ∀ q ∈ lw_privs_3, lw_okq q := List.forall_mem_cons.mpr ⟨lw_p32, List.forall_mem_cons.mpr ⟨lw_p33, List.forall_mem_cons.mpr ⟨lw_p34, List.forall_mem_cons.mpr ⟨lw_p35, List.forall_mem_cons.mpr ⟨lw_p36, List.forall_mem_cons.mpr ⟨lw_p37, List.forall_mem_cons.mpr ⟨lw_p38, List.forall_mem_cons.mpr ⟨lw_p39, List.forall_mem_cons.mpr ⟨lw_p40, List.forall_mem_cons.mpr ⟨lw_p41, List.forall_mem_cons.mpr ⟨lw_p42, List.forall_mem_cons.mpr ⟨lw_p43, List.forall_mem_cons.mpr ⟨lw_p44, List.forall_mem_cons.mpr ⟨lw_p45, List.forall_mem_cons.mpr ⟨lw_p46, List.forall_mem_cons.mpr ⟨lw_p47, fun _ h => absurd h List.not_mem_nil⟩⟩⟩⟩⟩⟩⟩⟩⟩⟩⟩⟩⟩⟩⟩⟩
theorem lw_p48 : lw_okq (⟨"FacesOfLinesModel", "pointAgainst", "(IJJJJ)I"⟩, 48) := ⟨⟨by decide +kernel, by decide +kernel⟩, List.mem_of_getElem? (i := 877) (by decide +kernel), List.mem_of_getElem? (i := 1103) (by decide +kernel), List.mem_of_getElem? (i := 1104) (by decide +kernel)⟩
theorem lw_p49 : lw_okq (⟨"FacesOfLinesModel", "linesAt", "(I)I"⟩, 48) := ⟨⟨by decide +kernel, by decide +kernel⟩, List.mem_of_getElem? (i := 877) (by decide +kernel), List.mem_of_getElem? (i := 1110) (by decide +kernel), List.mem_of_getElem? (i := 1111) (by decide +kernel)⟩
theorem lw_p50 : lw_okq (⟨"FacesOfLinesModel", "linesOn", "(JJJJ)I"⟩, 48) := ⟨⟨by decide +kernel, by decide +kernel⟩, List.mem_of_getElem? (i := 877) (by decide +kernel), List.mem_of_getElem? (i := 1114) (by decide +kernel), List.mem_of_getElem? (i := 1115) (by decide +kernel)⟩
theorem lw_p51 : lw_okq (⟨"FacesOfLinesModel", "isOn", "(IJJJJ)Z"⟩, 48) := ⟨⟨by decide +kernel, by decide +kernel⟩, List.mem_of_getElem? (i := 877) (by decide +kernel), List.mem_of_getElem? (i := 1118) (by decide +kernel), List.mem_of_getElem? (i := 1119) (by decide +kernel)⟩
theorem lw_p52 : lw_okq (⟨"FacesOfLinesModel", "endsAt", "(I)I"⟩, 48) := ⟨⟨by decide +kernel, by decide +kernel⟩, List.mem_of_getElem? (i := 877) (by decide +kernel), List.mem_of_getElem? (i := 1124) (by decide +kernel), List.mem_of_getElem? (i := 1125) (by decide +kernel)⟩
theorem lw_p53 : lw_okq (⟨"FacesOfLinesModel", "tellPieces", "()I"⟩, 48) := ⟨⟨by decide +kernel, by decide +kernel⟩, List.mem_of_getElem? (i := 877) (by decide +kernel), List.mem_of_getElem? (i := 1128) (by decide +kernel), List.mem_of_getElem? (i := 1129) (by decide +kernel)⟩
theorem lw_p54 : lw_okq (⟨"FacesOfLinesModel", "isPiece", "(II)Z"⟩, 48) := ⟨⟨by decide +kernel, by decide +kernel⟩, List.mem_of_getElem? (i := 877) (by decide +kernel), List.mem_of_getElem? (i := 1132) (by decide +kernel), List.mem_of_getElem? (i := 1133) (by decide +kernel)⟩
theorem lw_p55 : lw_okq (⟨"FacesOfLinesModel", "isUpright", "(I)Z"⟩, 48) := ⟨⟨by decide +kernel, by decide +kernel⟩, List.mem_of_getElem? (i := 877) (by decide +kernel), List.mem_of_getElem? (i := 1140) (by decide +kernel), List.mem_of_getElem? (i := 1141) (by decide +kernel)⟩
theorem lw_p56 : lw_okq (⟨"FacesOfLinesModel", "pointsOn", "(I)I"⟩, 48) := ⟨⟨by decide +kernel, by decide +kernel⟩, List.mem_of_getElem? (i := 877) (by decide +kernel), List.mem_of_getElem? (i := 1144) (by decide +kernel), List.mem_of_getElem? (i := 1145) (by decide +kernel)⟩
theorem lw_p57 : lw_okq (⟨"FacesOfLinesModel", "tellHulls", "()I"⟩, 48) := ⟨⟨by decide +kernel, by decide +kernel⟩, List.mem_of_getElem? (i := 877) (by decide +kernel), List.mem_of_getElem? (i := 1148) (by decide +kernel), List.mem_of_getElem? (i := 1149) (by decide +kernel)⟩
theorem lw_p58 : lw_okq (⟨"FacesOfLinesModel", "placeAt", "(II)I"⟩, 48) := ⟨⟨by decide +kernel, by decide +kernel⟩, List.mem_of_getElem? (i := 877) (by decide +kernel), List.mem_of_getElem? (i := 1152) (by decide +kernel), List.mem_of_getElem? (i := 1153) (by decide +kernel)⟩
theorem lw_p59 : lw_okq (⟨"FacesOfLinesModel", "isSide", "(II)Z"⟩, 48) := ⟨⟨by decide +kernel, by decide +kernel⟩, List.mem_of_getElem? (i := 877) (by decide +kernel), List.mem_of_getElem? (i := 1156) (by decide +kernel), List.mem_of_getElem? (i := 1157) (by decide +kernel)⟩
theorem lw_p60 : lw_okq (⟨"FacesOfLinesModel", "tellOrder", "(JJI)V"⟩, 48) := ⟨⟨by decide +kernel, by decide +kernel⟩, List.mem_of_getElem? (i := 877) (by decide +kernel), List.mem_of_getElem? (i := 1168) (by decide +kernel), List.mem_of_getElem? (i := 1169) (by decide +kernel)⟩
theorem lw_p61 : lw_okq (⟨"FacesOfLinesModel", "isThere", "(IJJ)Z"⟩, 48) := ⟨⟨by decide +kernel, by decide +kernel⟩, List.mem_of_getElem? (i := 877) (by decide +kernel), List.mem_of_getElem? (i := 1172) (by decide +kernel), List.mem_of_getElem? (i := 1173) (by decide +kernel)⟩
theorem lw_p62 : lw_okq (⟨"FacesOfLinesModel", "isAhead", "(IIJJ)Z"⟩, 48) := ⟨⟨by decide +kernel, by decide +kernel⟩, List.mem_of_getElem? (i := 877) (by decide +kernel), List.mem_of_getElem? (i := 1176) (by decide +kernel), List.mem_of_getElem? (i := 1177) (by decide +kernel)⟩
theorem lw_p63 : lw_okq (⟨"FacesOfLinesModel", "yAbove", "(IJJ)J"⟩, 48) := ⟨⟨by decide +kernel, by decide +kernel⟩, List.mem_of_getElem? (i := 877) (by decide +kernel), List.mem_of_getElem? (i := 1180) (by decide +kernel), List.mem_of_getElem? (i := 1181) (by decide +kernel)⟩
def lw_privs_4 : List (MethodName × Nat) := [(⟨"FacesOfLinesModel", "pointAgainst", "(IJJJJ)I"⟩, 48), (⟨"FacesOfLinesModel", "linesAt", "(I)I"⟩, 48), (⟨"FacesOfLinesModel", "linesOn", "(JJJJ)I"⟩, 48), (⟨"FacesOfLinesModel", "isOn", "(IJJJJ)Z"⟩, 48), (⟨"FacesOfLinesModel", "endsAt", "(I)I"⟩, 48), (⟨"FacesOfLinesModel", "tellPieces", "()I"⟩, 48), (⟨"FacesOfLinesModel", "isPiece", "(II)Z"⟩, 48), (⟨"FacesOfLinesModel", "isUpright", "(I)Z"⟩, 48), (⟨"FacesOfLinesModel", "pointsOn", "(I)I"⟩, 48), (⟨"FacesOfLinesModel", "tellHulls", "()I"⟩, 48), (⟨"FacesOfLinesModel", "placeAt", "(II)I"⟩, 48), (⟨"FacesOfLinesModel", "isSide", "(II)Z"⟩, 48), (⟨"FacesOfLinesModel", "tellOrder", "(JJI)V"⟩, 48), (⟨"FacesOfLinesModel", "isThere", "(IJJ)Z"⟩, 48), (⟨"FacesOfLinesModel", "isAhead", "(IIJJ)Z"⟩, 48), (⟨"FacesOfLinesModel", "yAbove", "(IJJ)J"⟩, 48)]
theorem lw_r4 : ∀ q ∈ lw_privs_4, lw_okq q := List.forall_mem_cons.mpr ⟨lw_p48, List.forall_mem_cons.mpr ⟨lw_p49, List.forall_mem_cons.mpr ⟨lw_p50, List.forall_mem_cons.mpr ⟨lw_p51, List.forall_mem_cons.mpr ⟨lw_p52, List.forall_mem_cons.mpr ⟨lw_p53, List.forall_mem_cons.mpr ⟨lw_p54, List.forall_mem_cons.mpr ⟨lw_p55, List.forall_mem_cons.mpr ⟨lw_p56, List.forall_mem_cons.mpr ⟨lw_p57, List.forall_mem_cons.mpr ⟨lw_p58, List.forall_mem_cons.mpr ⟨lw_p59, List.forall_mem_cons.mpr ⟨lw_p60, List.forall_mem_cons.mpr ⟨lw_p61, List.forall_mem_cons.mpr ⟨lw_p62, List.forall_mem_cons.mpr ⟨lw_p63, fun _ h => absurd h List.not_mem_nil⟩⟩⟩⟩⟩⟩⟩⟩⟩⟩⟩⟩⟩⟩⟩⟩
theorem lw_p64 : lw_okq (⟨"FacesOfLinesModel", "yBelow", "(IJ)J"⟩, 48) := ⟨⟨by decide +kernel, by decide +kernel⟩, List.mem_of_getElem? (i := 877) (by decide +kernel), List.mem_of_getElem? (i := 1184) (by decide +kernel), List.mem_of_getElem? (i := 1185) (by decide +kernel)⟩
theorem lw_p65 : lw_okq (⟨"FacesOfLinesModel", "tellSheet", "()V"⟩, 48) := ⟨⟨by decide +kernel, by decide +kernel⟩, List.mem_of_getElem? (i := 877) (by decide +kernel), List.mem_of_getElem? (i := 1192) (by decide +kernel), List.mem_of_getElem? (i := 1193) (by decide +kernel)⟩
theorem lw_p66 : lw_okq (⟨"FacesOfLinesModel", "addCell", "(III)V"⟩, 48) := ⟨⟨by decide +kernel, by decide +kernel⟩, List.mem_of_getElem? (i := 877) (by decide +kernel), List.mem_of_getElem? (i := 1196) (by decide +kernel), List.mem_of_getElem? (i := 1197) (by decide +kernel)⟩
theorem lw_p67 : lw_okq (⟨"FacesOfLinesModel", "cut", "(I)V"⟩, 48) := ⟨⟨by decide +kernel, by decide +kernel⟩, List.mem_of_getElem? (i := 877) (by decide +kernel), List.mem_of_getElem? (i := 1200) (by decide +kernel), List.mem_of_getElem? (i := 1201) (by decide +kernel)⟩
theorem lw_p68 : lw_okq (⟨"FacesOfLinesModel", "againstThrough", "(III)I"⟩, 48) := ⟨⟨by decide +kernel, by decide +kernel⟩, List.mem_of_getElem? (i := 877) (by decide +kernel), List.mem_of_getElem? (i := 1204) (by decide +kernel), List.mem_of_getElem? (i := 1205) (by decide +kernel)⟩
theorem lw_p69 : lw_okq (⟨"FacesOfLinesModel", "joinCells", "()V"⟩, 48) := ⟨⟨by decide +kernel, by decide +kernel⟩, List.mem_of_getElem? (i := 877) (by decide +kernel), List.mem_of_getElem? (i := 1208) (by decide +kernel), List.mem_of_getElem? (i := 1209) (by decide +kernel)⟩
theorem lw_p70 : lw_okq (⟨"FacesOfLinesModel", "wide", "()V"⟩, 48) := ⟨⟨by decide +kernel, by decide +kernel⟩, List.mem_of_getElem? (i := 877) (by decide +kernel), List.mem_of_getElem? (i := 1212) (by decide +kernel), List.mem_of_getElem? (i := 1213) (by decide +kernel)⟩
theorem lw_p71 : lw_okq (⟨"FacesOfLinesModel", "narrow", "(IJJ)V"⟩, 48) := ⟨⟨by decide +kernel, by decide +kernel⟩, List.mem_of_getElem? (i := 877) (by decide +kernel), List.mem_of_getElem? (i := 1218) (by decide +kernel), List.mem_of_getElem? (i := 1219) (by decide +kernel)⟩
theorem lw_p72 : lw_okq (⟨"FacesOfLinesModel", "isMoreThanOne", "()Z"⟩, 48) := ⟨⟨by decide +kernel, by decide +kernel⟩, List.mem_of_getElem? (i := 877) (by decide +kernel), List.mem_of_getElem? (i := 1229) (by decide +kernel), List.mem_of_getElem? (i := 1230) (by decide +kernel)⟩
theorem lw_p73 : lw_okq (⟨"FacesOfLinesModel", "isOpen", "(JJ)Z"⟩, 48) := ⟨⟨by decide +kernel, by decide +kernel⟩, List.mem_of_getElem? (i := 877) (by decide +kernel), List.mem_of_getElem? (i := 1233) (by decide +kernel), List.mem_of_getElem? (i := 1234) (by decide +kernel)⟩
theorem lw_p74 : lw_okq (⟨"FacesOfLinesModel", "isUprightAt", "(IJJ)Z"⟩, 48) := ⟨⟨by decide +kernel, by decide +kernel⟩, List.mem_of_getElem? (i := 877) (by decide +kernel), List.mem_of_getElem? (i := 1237) (by decide +kernel), List.mem_of_getElem? (i := 1238) (by decide +kernel)⟩
theorem lw_p75 : lw_okq (⟨"FacesOfLinesModel", "borders", "(I)I"⟩, 48) := ⟨⟨by decide +kernel, by decide +kernel⟩, List.mem_of_getElem? (i := 877) (by decide +kernel), List.mem_of_getElem? (i := 1249) (by decide +kernel), List.mem_of_getElem? (i := 1250) (by decide +kernel)⟩
theorem lw_p76 : lw_okq (⟨"FacesOfLinesModel", "bordersAt", "(II)I"⟩, 48) := ⟨⟨by decide +kernel, by decide +kernel⟩, List.mem_of_getElem? (i := 877) (by decide +kernel), List.mem_of_getElem? (i := 1253) (by decide +kernel), List.mem_of_getElem? (i := 1254) (by decide +kernel)⟩
theorem lw_p77 : lw_okq (⟨"FacesOfLinesModel", "hasMore", "(I)Z"⟩, 48) := ⟨⟨by decide +kernel, by decide +kernel⟩, List.mem_of_getElem? (i := 877) (by decide +kernel), List.mem_of_getElem? (i := 1257) (by decide +kernel), List.mem_of_getElem? (i := 1258) (by decide +kernel)⟩
theorem lw_p78 : lw_okq (⟨"FacesOfLinesModel", "nextTo", "(I)I"⟩, 48) := ⟨⟨by decide +kernel, by decide +kernel⟩, List.mem_of_getElem? (i := 877) (by decide +kernel), List.mem_of_getElem? (i := 1261) (by decide +kernel), List.mem_of_getElem? (i := 1262) (by decide +kernel)⟩
theorem lw_p79 : lw_okq (⟨"FacesOfLinesModel", "tellNext", "()V"⟩, 48) := ⟨⟨by decide +kernel, by decide +kernel⟩, List.mem_of_getElem? (i := 877) (by decide +kernel), List.mem_of_getElem? (i := 1265) (by decide +kernel), List.mem_of_getElem? (i := 1266) (by decide +kernel)⟩
def lw_privs_5 : List (MethodName × Nat) := [(⟨"FacesOfLinesModel", "yBelow", "(IJ)J"⟩, 48), (⟨"FacesOfLinesModel", "tellSheet", "()V"⟩, 48), (⟨"FacesOfLinesModel", "addCell", "(III)V"⟩, 48), (⟨"FacesOfLinesModel", "cut", "(I)V"⟩, 48), (⟨"FacesOfLinesModel", "againstThrough", "(III)I"⟩, 48), (⟨"FacesOfLinesModel", "joinCells", "()V"⟩, 48), (⟨"FacesOfLinesModel", "wide", "()V"⟩, 48), (⟨"FacesOfLinesModel", "narrow", "(IJJ)V"⟩, 48), (⟨"FacesOfLinesModel", "isMoreThanOne", "()Z"⟩, 48), (⟨"FacesOfLinesModel", "isOpen", "(JJ)Z"⟩, 48), (⟨"FacesOfLinesModel", "isUprightAt", "(IJJ)Z"⟩, 48), (⟨"FacesOfLinesModel", "borders", "(I)I"⟩, 48), (⟨"FacesOfLinesModel", "bordersAt", "(II)I"⟩, 48), (⟨"FacesOfLinesModel", "hasMore", "(I)Z"⟩, 48), (⟨"FacesOfLinesModel", "nextTo", "(I)I"⟩, 48), (⟨"FacesOfLinesModel", "tellNext", "()V"⟩, 48)]
theorem lw_r5 : ∀ q ∈ lw_privs_5, lw_okq q := List.forall_mem_cons.mpr ⟨lw_p64, List.forall_mem_cons.mpr ⟨lw_p65, List.forall_mem_cons.mpr ⟨lw_p66, List.forall_mem_cons.mpr ⟨lw_p67, List.forall_mem_cons.mpr ⟨lw_p68, List.forall_mem_cons.mpr ⟨lw_p69, List.forall_mem_cons.mpr ⟨lw_p70, List.forall_mem_cons.mpr ⟨lw_p71, List.forall_mem_cons.mpr ⟨lw_p72, List.forall_mem_cons.mpr ⟨lw_p73, List.forall_mem_cons.mpr ⟨lw_p74, List.forall_mem_cons.mpr ⟨lw_p75, List.forall_mem_cons.mpr ⟨lw_p76, List.forall_mem_cons.mpr ⟨lw_p77, List.forall_mem_cons.mpr ⟨lw_p78, List.forall_mem_cons.mpr ⟨lw_p79, fun _ h => absurd h List.not_mem_nil⟩⟩⟩⟩⟩⟩⟩⟩⟩⟩⟩⟩⟩⟩⟩⟩
theorem lw_p80 : lw_okq (⟨"FacesOfLinesModel", "isNext", "(II)V"⟩, 48) := ⟨⟨by decide +kernel, by decide +kernel⟩, List.mem_of_getElem? (i := 877) (by decide +kernel), List.mem_of_getElem? (i := 1269) (by decide +kernel), List.mem_of_getElem? (i := 1270) (by decide +kernel)⟩
theorem lw_p81 : lw_okq (⟨"FacesOfLinesModel", "partsMany", "()I"⟩, 48) := ⟨⟨by decide +kernel, by decide +kernel⟩, List.mem_of_getElem? (i := 877) (by decide +kernel), List.mem_of_getElem? (i := 1292) (by decide +kernel), List.mem_of_getElem? (i := 1293) (by decide +kernel)⟩
theorem lw_p82 : lw_okq (⟨"FacesOfLinesModel", "twos", "(I)I"⟩, 48) := ⟨⟨by decide +kernel, by decide +kernel⟩, List.mem_of_getElem? (i := 877) (by decide +kernel), List.mem_of_getElem? (i := 1296) (by decide +kernel), List.mem_of_getElem? (i := 1297) (by decide +kernel)⟩
theorem lw_p83 : lw_okq (⟨"FacesOfLinesModel", "facesWithout", "(I)I"⟩, 48) := ⟨⟨by decide +kernel, by decide +kernel⟩, List.mem_of_getElem? (i := 877) (by decide +kernel), List.mem_of_getElem? (i := 1304) (by decide +kernel), List.mem_of_getElem? (i := 1305) (by decide +kernel)⟩
theorem lw_p84 : lw_okq (⟨"FacesOfLinesModel", "keep", "(I)V"⟩, 48) := ⟨⟨by decide +kernel, by decide +kernel⟩, List.mem_of_getElem? (i := 877) (by decide +kernel), List.mem_of_getElem? (i := 1308) (by decide +kernel), List.mem_of_getElem? (i := 1309) (by decide +kernel)⟩
theorem lw_p85 : lw_okq (⟨"FacesOfLinesModel", "endRow", "(I)[I"⟩, 48) := ⟨⟨by decide +kernel, by decide +kernel⟩, List.mem_of_getElem? (i := 877) (by decide +kernel), List.mem_of_getElem? (i := 1312) (by decide +kernel), List.mem_of_getElem? (i := 1313) (by decide +kernel)⟩
theorem lw_p86 : lw_okq (⟨"FacesOfLinesModel", "facesNow", "()I"⟩, 48) := ⟨⟨by decide +kernel, by decide +kernel⟩, List.mem_of_getElem? (i := 877) (by decide +kernel), List.mem_of_getElem? (i := 1317) (by decide +kernel), List.mem_of_getElem? (i := 1318) (by decide +kernel)⟩
theorem lw_p87 : lw_okq (⟨"FacesOfLinesModel", "layBack", "(I)V"⟩, 48) := ⟨⟨by decide +kernel, by decide +kernel⟩, List.mem_of_getElem? (i := 877) (by decide +kernel), List.mem_of_getElem? (i := 1321) (by decide +kernel), List.mem_of_getElem? (i := 1322) (by decide +kernel)⟩
theorem lw_p88 : lw_okq (⟨"FacesOfLinesModel", "byLot", "(II)I"⟩, 48) := ⟨⟨by decide +kernel, by decide +kernel⟩, List.mem_of_getElem? (i := 877) (by decide +kernel), List.mem_of_getElem? (i := 1333) (by decide +kernel), List.mem_of_getElem? (i := 1334) (by decide +kernel)⟩
theorem lw_p89 : lw_okq (⟨"FacesOfLinesModel", "draw", "()I"⟩, 48) := ⟨⟨by decide +kernel, by decide +kernel⟩, List.mem_of_getElem? (i := 877) (by decide +kernel), List.mem_of_getElem? (i := 1337) (by decide +kernel), List.mem_of_getElem? (i := 1338) (by decide +kernel)⟩
theorem lw_p90 : lw_okq (⟨"FacesOfLinesModel", "otherwise", "(III)I"⟩, 48) := ⟨⟨by decide +kernel, by decide +kernel⟩, List.mem_of_getElem? (i := 877) (by decide +kernel), List.mem_of_getElem? (i := 1354) (by decide +kernel), List.mem_of_getElem? (i := 1355) (by decide +kernel)⟩
def lw_privs_6 : List (MethodName × Nat) := [(⟨"FacesOfLinesModel", "isNext", "(II)V"⟩, 48), (⟨"FacesOfLinesModel", "partsMany", "()I"⟩, 48), (⟨"FacesOfLinesModel", "twos", "(I)I"⟩, 48), (⟨"FacesOfLinesModel", "facesWithout", "(I)I"⟩, 48), (⟨"FacesOfLinesModel", "keep", "(I)V"⟩, 48), (⟨"FacesOfLinesModel", "endRow", "(I)[I"⟩, 48), (⟨"FacesOfLinesModel", "facesNow", "()I"⟩, 48), (⟨"FacesOfLinesModel", "layBack", "(I)V"⟩, 48), (⟨"FacesOfLinesModel", "byLot", "(II)I"⟩, 48), (⟨"FacesOfLinesModel", "draw", "()I"⟩, 48), (⟨"FacesOfLinesModel", "otherwise", "(III)I"⟩, 48)]
theorem lw_r6 : ∀ q ∈ lw_privs_6, lw_okq q := List.forall_mem_cons.mpr ⟨lw_p80, List.forall_mem_cons.mpr ⟨lw_p81, List.forall_mem_cons.mpr ⟨lw_p82, List.forall_mem_cons.mpr ⟨lw_p83, List.forall_mem_cons.mpr ⟨lw_p84, List.forall_mem_cons.mpr ⟨lw_p85, List.forall_mem_cons.mpr ⟨lw_p86, List.forall_mem_cons.mpr ⟨lw_p87, List.forall_mem_cons.mpr ⟨lw_p88, List.forall_mem_cons.mpr ⟨lw_p89, List.forall_mem_cons.mpr ⟨lw_p90, fun _ h => absurd h List.not_mem_nil⟩⟩⟩⟩⟩⟩⟩⟩⟩⟩⟩
def lw_privs : List (MethodName × Nat) := lw_privs_1 ++ (lw_privs_2 ++ (lw_privs_3 ++ (lw_privs_4 ++ (lw_privs_5 ++ (lw_privs_6)))))
def lw_tbl : List Cond := k2_sels lw_privs ++ tables_1
theorem lw_privs_ok : ∀ q ∈ lw_privs, lw_okq q := by
  show ∀ q ∈ lw_privs_1 ++ (lw_privs_2 ++ (lw_privs_3 ++ (lw_privs_4 ++ (lw_privs_5 ++ (lw_privs_6))))), lw_okq q
  exact List.forall_mem_append.mpr ⟨lw_r1, List.forall_mem_append.mpr ⟨lw_r2, List.forall_mem_append.mpr ⟨lw_r3, List.forall_mem_append.mpr ⟨lw_r4, List.forall_mem_append.mpr ⟨lw_r5, lw_r6⟩⟩⟩⟩⟩
def RX0 : String := "FacesOfLines$Faces"
def TX0 : u_T := fun k => match k with
  | 0 => ("FacesOfLines$Faces", "size", "I", false)
  | 1 => ("FacesOfLines$Faces", "root", "[I", true)
  | 2 => ("FacesOfLines$Faces", "of", "[I", true)
  | 3 => ("FacesOfLines$Faces", "least", "[I", true)
  | 4 => ("FacesOfLines$Faces", "cells", "[I", true)
  | 5 => ("FacesOfLines$Faces", "borders", "[I", true)
  | _ => ("FacesOfLines$Faces", "next", "[J", true)
def tyX0 : Nat → FieldType := fun k => match k with
  | 0 => .int
  | 1 => .array .int
  | 2 => .array .int
  | 3 => .array .int
  | 4 => .array .int
  | 5 => .array .int
  | _ => .array .long
theorem nmX0 : ∀ a, a < 7 → ∀ b, b < 7 → a ≠ b → (TX0 a).2.1 ≠ (TX0 b).2.1 := by decide +kernel
theorem tyX0_ok : ∀ k, k < 7 → parseFieldDescriptor (TX0 k).2.2.1 = some (tyX0 k) := by decide +kernel
abbrev cX0_init : ByteArray := prog_2_method_1_code
def yX0_init : MethodName := ⟨RX0, "<init>", "()V"⟩
abbrev cX0_join : ByteArray := prog_2_method_2_code
def yX0_join : MethodName := ⟨RX0, "join", "(LFacesOfLines$Slabs;LFacesOfLines$Stretches;)V"⟩
abbrev cX0_unite : ByteArray := prog_2_method_3_code
def yX0_unite : MethodName := ⟨RX0, "unite", "(II)V"⟩
abbrev cX0_rootOf : ByteArray := prog_2_method_4_code
def yX0_rootOf : MethodName := ⟨RX0, "rootOf", "(I)I"⟩
abbrev cX0_number : ByteArray := prog_2_method_5_code
def yX0_number : MethodName := ⟨RX0, "number", "(I)V"⟩
abbrev cX0_boundByCells : ByteArray := prog_2_method_6_code
def yX0_boundByCells : MethodName := ⟨RX0, "boundByCells", "(LFacesOfLines$Slabs;)V"⟩
abbrev cX0_boundByUprights : ByteArray := prog_2_method_7_code
def yX0_boundByUprights : MethodName := ⟨RX0, "boundByUprights", "(LFacesOfLines$Stretches;)V"⟩
abbrev cX0_link : ByteArray := prog_2_method_8_code
def yX0_link : MethodName := ⟨RX0, "link", "(II)V"⟩
abbrev cX0_way : ByteArray := prog_2_method_9_code
def yX0_way : MethodName := ⟨RX0, "way", "(II)I"⟩
def RX1 : String := "FacesOfLines$Hulls"
def TX1 : u_T := fun k => match k with
  | 0 => ("FacesOfLines$Hulls", "size", "I", false)
  | 1 => ("FacesOfLines$Hulls", "places", "I", false)
  | 2 => ("FacesOfLines$Hulls", "x", "[I", true)
  | 3 => ("FacesOfLines$Hulls", "y", "[I", true)
  | _ => ("FacesOfLines$Hulls", "hull", "[I", true)
def tyX1 : Nat → FieldType := fun k => match k with
  | 0 => .int
  | 1 => .int
  | 2 => .array .int
  | 3 => .array .int
  | _ => .array .int
theorem nmX1 : ∀ a, a < 5 → ∀ b, b < 5 → a ≠ b → (TX1 a).2.1 ≠ (TX1 b).2.1 := by decide +kernel
theorem tyX1_ok : ∀ k, k < 5 → parseFieldDescriptor (TX1 k).2.2.1 = some (tyX1 k) := by decide +kernel
abbrev cX1_init : ByteArray := prog_3_method_1_code
def yX1_init : MethodName := ⟨RX1, "<init>", "()V"⟩
abbrev cX1_peel : ByteArray := prog_3_method_2_code
def yX1_peel : MethodName := ⟨RX1, "peel", "(LFacesOfLines$Lines;)V"⟩
abbrev cX1_add : ByteArray := prog_3_method_3_code
def yX1_add : MethodName := ⟨RX1, "add", "(II)V"⟩
abbrev cX1_hullOf : ByteArray := prog_3_method_4_code
def yX1_hullOf : MethodName := ⟨RX1, "hullOf", "(II)I"⟩
abbrev cX1_peelOff : ByteArray := prog_3_method_5_code
def yX1_peelOff : MethodName := ⟨RX1, "peelOff", "(I)I"⟩
abbrev cX1_isLeft : ByteArray := prog_3_method_6_code
def yX1_isLeft : MethodName := ⟨RX1, "isLeft", "(II)Z"⟩
abbrev cX1_isOnBorder : ByteArray := prog_3_method_7_code
def yX1_isOnBorder : MethodName := ⟨RX1, "isOnBorder", "(II)Z"⟩
abbrev cX1_noneAtTheLeft : ByteArray := prog_3_method_8_code
def yX1_noneAtTheLeft : MethodName := ⟨RX1, "noneAtTheLeft", "(III)Z"⟩
def RX2 : String := "FacesOfLines$Lines"
def TX2 : u_T := fun k => match k with
  | 0 => ("FacesOfLines$Lines", "size", "I", false)
  | 1 => ("FacesOfLines$Lines", "ax", "[I", true)
  | 2 => ("FacesOfLines$Lines", "ay", "[I", true)
  | 3 => ("FacesOfLines$Lines", "bx", "[I", true)
  | _ => ("FacesOfLines$Lines", "by", "[I", true)
def tyX2 : Nat → FieldType := fun k => match k with
  | 0 => .int
  | 1 => .array .int
  | 2 => .array .int
  | 3 => .array .int
  | _ => .array .int
theorem nmX2 : ∀ a, a < 5 → ∀ b, b < 5 → a ≠ b → (TX2 a).2.1 ≠ (TX2 b).2.1 := by decide +kernel
theorem tyX2_ok : ∀ k, k < 5 → parseFieldDescriptor (TX2 k).2.2.1 = some (tyX2 k) := by decide +kernel
abbrev cX2_init : ByteArray := prog_4_method_1_code
def yX2_init : MethodName := ⟨RX2, "<init>", "()V"⟩
abbrev cX2_has : ByteArray := prog_4_method_2_code
def yX2_has : MethodName := ⟨RX2, "has", "(I)Z"⟩
abbrev cX2_isFull : ByteArray := prog_4_method_3_code
def yX2_isFull : MethodName := ⟨RX2, "isFull", "()Z"⟩
abbrev cX2_add : ByteArray := prog_4_method_4_code
def yX2_add : MethodName := ⟨RX2, "add", "(IIII)I"⟩
abbrev cX2_lay : ByteArray := prog_4_method_5_code
def yX2_lay : MethodName := ⟨RX2, "lay", "(IIIII)V"⟩
abbrev cX2_remove : ByteArray := prog_4_method_6_code
def yX2_remove : MethodName := ⟨RX2, "remove", "(I)V"⟩
abbrev cX2_become : ByteArray := prog_4_method_7_code
def yX2_become : MethodName := ⟨RX2, "become", "(LFacesOfLines$Lines;)V"⟩
abbrev cX2_isUpright : ByteArray := prog_4_method_8_code
def yX2_isUpright : MethodName := ⟨RX2, "isUpright", "(I)Z"⟩
abbrev cX2_run : ByteArray := prog_4_method_9_code
def yX2_run : MethodName := ⟨RX2, "run", "(I)J"⟩
abbrev cX2_rise : ByteArray := prog_4_method_10_code
def yX2_rise : MethodName := ⟨RX2, "rise", "(I)J"⟩
abbrev cX2_reaches : ByteArray := prog_4_method_11_code
def yX2_reaches : MethodName := ⟨RX2, "reaches", "(IJJ)Z"⟩
abbrev cX2_height : ByteArray := prog_4_method_12_code
def yX2_height : MethodName := ⟨RX2, "height", "(IJJ)J"⟩
abbrev cX2_holds : ByteArray := prog_4_method_13_code
def yX2_holds : MethodName := ⟨RX2, "holds", "(IJJJJ)Z"⟩
def RX3 : String := "FacesOfLines$Meeting"
def TX3 : u_T := fun k => match k with
  | 0 => ("FacesOfLines$Meeting", "kind", "I", false)
  | 1 => ("FacesOfLines$Meeting", "xn", "J", false)
  | 2 => ("FacesOfLines$Meeting", "xd", "J", false)
  | 3 => ("FacesOfLines$Meeting", "yn", "J", false)
  | _ => ("FacesOfLines$Meeting", "yd", "J", false)
def tyX3 : Nat → FieldType := fun k => match k with
  | 0 => .int
  | 1 => .long
  | 2 => .long
  | 3 => .long
  | _ => .long
theorem nmX3 : ∀ a, a < 5 → ∀ b, b < 5 → a ≠ b → (TX3 a).2.1 ≠ (TX3 b).2.1 := by decide +kernel
theorem tyX3_ok : ∀ k, k < 5 → parseFieldDescriptor (TX3 k).2.2.1 = some (tyX3 k) := by decide +kernel
abbrev cX3_init : ByteArray := prog_5_method_1_code
def yX3_init : MethodName := ⟨RX3, "<init>", "()V"⟩
abbrev cX3_isAtOnePlace : ByteArray := prog_5_method_2_code
def yX3_isAtOnePlace : MethodName := ⟨RX3, "isAtOnePlace", "()Z"⟩
abbrev cX3_find : ByteArray := prog_5_method_3_code
def yX3_find : MethodName := ⟨RX3, "find", "(LFacesOfLines$Lines;II)V"⟩
abbrev cX3_findInOneRow : ByteArray := prog_5_method_4_code
def yX3_findInOneRow : MethodName := ⟨RX3, "findInOneRow", "(LFacesOfLines$Lines;II)V"⟩
abbrev cX3_isAhead : ByteArray := prog_5_method_5_code
def yX3_isAhead : MethodName := ⟨RX3, "isAhead", "(IIII)Z"⟩
abbrev cX3_layAt : ByteArray := prog_5_method_6_code
def yX3_layAt : MethodName := ⟨RX3, "layAt", "(JJJ)V"⟩
def RX4 : String := "FacesOfLines$Points"
def TX4 : u_T := fun k => match k with
  | 0 => ("FacesOfLines$Points", "size", "I", false)
  | 1 => ("FacesOfLines$Points", "pieces", "I", false)
  | 2 => ("FacesOfLines$Points", "parts", "I", false)
  | 3 => ("FacesOfLines$Points", "xn", "[J", true)
  | 4 => ("FacesOfLines$Points", "xd", "[J", true)
  | 5 => ("FacesOfLines$Points", "yn", "[J", true)
  | 6 => ("FacesOfLines$Points", "yd", "[J", true)
  | 7 => ("FacesOfLines$Points", "through", "[I", true)
  | 8 => ("FacesOfLines$Points", "part", "[I", true)
  | 9 => ("FacesOfLines$Points", "twos", "[I", true)
  | _ => ("FacesOfLines$Points", "meeting", "LFacesOfLines$Meeting;", true)
def tyX4 : Nat → FieldType := fun k => match k with
  | 0 => .int
  | 1 => .int
  | 2 => .int
  | 3 => .array .long
  | 4 => .array .long
  | 5 => .array .long
  | 6 => .array .long
  | 7 => .array .int
  | 8 => .array .int
  | 9 => .array .int
  | _ => .object "FacesOfLines$Meeting"
theorem nmX4 : ∀ a, a < 11 → ∀ b, b < 11 → a ≠ b → (TX4 a).2.1 ≠ (TX4 b).2.1 := by decide +kernel
theorem tyX4_ok : ∀ k, k < 11 → parseFieldDescriptor (TX4 k).2.2.1 = some (tyX4 k) := by decide +kernel
abbrev cX4_init : ByteArray := prog_6_method_1_code
def yX4_init : MethodName := ⟨RX4, "<init>", "()V"⟩
abbrev cX4_find : ByteArray := prog_6_method_2_code
def yX4_find : MethodName := ⟨RX4, "find", "(LFacesOfLines$Lines;)V"⟩
abbrev cX4_addMeetings : ByteArray := prog_6_method_3_code
def yX4_addMeetings : MethodName := ⟨RX4, "addMeetings", "(LFacesOfLines$Lines;)V"⟩
abbrev cX4_add : ByteArray := prog_6_method_4_code
def yX4_add : MethodName := ⟨RX4, "add", "(JJJJ)V"⟩
abbrev cX4_compareTo : ByteArray := prog_6_method_5_code
def yX4_compareTo : MethodName := ⟨RX4, "compareTo", "(IJJJJ)I"⟩
abbrev cX4_linesThrough : ByteArray := prog_6_method_6_code
def yX4_linesThrough : MethodName := ⟨RX4, "linesThrough", "(LFacesOfLines$Lines;I)I"⟩
abbrev cX4_walkAlong : ByteArray := prog_6_method_7_code
def yX4_walkAlong : MethodName := ⟨RX4, "walkAlong", "(I)V"⟩
abbrev cX4_unite : ByteArray := prog_6_method_8_code
def yX4_unite : MethodName := ⟨RX4, "unite", "(II)V"⟩
abbrev cX4_rootOf : ByteArray := prog_6_method_9_code
def yX4_rootOf : MethodName := ⟨RX4, "rootOf", "(I)I"⟩
abbrev cX4_countParts : ByteArray := prog_6_method_10_code
def yX4_countParts : MethodName := ⟨RX4, "countParts", "()V"⟩
abbrev cX4_facesAround : ByteArray := prog_6_method_11_code
def yX4_facesAround : MethodName := ⟨RX4, "facesAround", "()I"⟩
abbrev cX4_countOn : ByteArray := prog_6_method_12_code
def yX4_countOn : MethodName := ⟨RX4, "countOn", "(I)I"⟩
abbrev cX4_endsAt : ByteArray := prog_6_method_13_code
def yX4_endsAt : MethodName := ⟨RX4, "endsAt", "(LFacesOfLines$Lines;I)I"⟩
def RX5 : String := "FacesOfLines$Sheets"
def TX5 : u_T := fun k => match k with
  | 0 => ("FacesOfLines$Sheets", "sort", "[I", true)
  | 1 => ("FacesOfLines$Sheets", "size", "[I", true)
  | _ => ("FacesOfLines$Sheets", "items", "[I", true)
def tyX5 : Nat → FieldType := fun k => match k with
  | 0 => .array .int
  | 1 => .array .int
  | _ => .array .int
theorem nmX5 : ∀ a, a < 3 → ∀ b, b < 3 → a ≠ b → (TX5 a).2.1 ≠ (TX5 b).2.1 := by decide +kernel
theorem tyX5_ok : ∀ k, k < 3 → parseFieldDescriptor (TX5 k).2.2.1 = some (tyX5 k) := by decide +kernel
abbrev cX5_init : ByteArray := prog_7_method_1_code
def yX5_init : MethodName := ⟨RX5, "<init>", "()V"⟩
abbrev cX5_isOne : ByteArray := prog_7_method_2_code
def yX5_isOne : MethodName := ⟨RX5, "isOne", "(I)Z"⟩
abbrev cX5_isSort : ByteArray := prog_7_method_3_code
def yX5_isSort : MethodName := ⟨RX5, "isSort", "(I)Z"⟩
abbrev cX5_isMissing : ByteArray := prog_7_method_4_code
def yX5_isMissing : MethodName := ⟨RX5, "isMissing", "(I)Z"⟩
abbrev cX5_hasRow : ByteArray := prog_7_method_5_code
def yX5_hasRow : MethodName := ⟨RX5, "hasRow", "(III)Z"⟩
abbrev cX5_make : ByteArray := prog_7_method_6_code
def yX5_make : MethodName := ⟨RX5, "make", "(III)V"⟩
abbrev cX5_item : ByteArray := prog_7_method_7_code
def yX5_item : MethodName := ⟨RX5, "item", "(II)I"⟩
abbrev cX5_set : ByteArray := prog_7_method_8_code
def yX5_set : MethodName := ⟨RX5, "set", "(III)V"⟩
abbrev cX5_firstOtherwise : ByteArray := prog_7_method_9_code
def yX5_firstOtherwise : MethodName := ⟨RX5, "firstOtherwise", "(ILFacesOfLines$Standing;I)I"⟩
def RX6 : String := "FacesOfLines$Slabs"
def TX6 : u_T := fun k => match k with
  | 0 => ("FacesOfLines$Slabs", "xs", "I", false)
  | 1 => ("FacesOfLines$Slabs", "cells", "I", false)
  | 2 => ("FacesOfLines$Slabs", "xn", "[J", true)
  | 3 => ("FacesOfLines$Slabs", "xd", "[J", true)
  | 4 => ("FacesOfLines$Slabs", "first", "[I", true)
  | 5 => ("FacesOfLines$Slabs", "slabOf", "[I", true)
  | 6 => ("FacesOfLines$Slabs", "below", "[I", true)
  | _ => ("FacesOfLines$Slabs", "above", "[I", true)
def tyX6 : Nat → FieldType := fun k => match k with
  | 0 => .int
  | 1 => .int
  | 2 => .array .long
  | 3 => .array .long
  | 4 => .array .int
  | 5 => .array .int
  | 6 => .array .int
  | _ => .array .int
theorem nmX6 : ∀ a, a < 8 → ∀ b, b < 8 → a ≠ b → (TX6 a).2.1 ≠ (TX6 b).2.1 := by decide +kernel
theorem tyX6_ok : ∀ k, k < 8 → parseFieldDescriptor (TX6 k).2.2.1 = some (tyX6 k) := by decide +kernel
abbrev cX6_init : ByteArray := prog_8_method_1_code
def yX6_init : MethodName := ⟨RX6, "<init>", "()V"⟩
abbrev cX6_cut : ByteArray := prog_8_method_2_code
def yX6_cut : MethodName := ⟨RX6, "cut", "(LFacesOfLines$Lines;LFacesOfLines$Points;LFacesOfLines$Standing;)V"⟩
abbrev cX6_findXs : ByteArray := prog_8_method_3_code
def yX6_findXs : MethodName := ⟨RX6, "findXs", "(LFacesOfLines$Points;)V"⟩
abbrev cX6_addCells : ByteArray := prog_8_method_4_code
def yX6_addCells : MethodName := ⟨RX6, "addCells", "(LFacesOfLines$Lines;LFacesOfLines$Standing;I)V"⟩
abbrev cX6_addCell : ByteArray := prog_8_method_5_code
def yX6_addCell : MethodName := ⟨RX6, "addCell", "(III)V"⟩
abbrev cX6_cellAround : ByteArray := prog_8_method_6_code
def yX6_cellAround : MethodName := ⟨RX6, "cellAround", "(LFacesOfLines$Lines;III)I"⟩
def RX7 : String := "FacesOfLines$Standing"
def TX7 : u_T := fun k => match k with
  | 0 => ("FacesOfLines$Standing", "size", "I", false)
  | 1 => ("FacesOfLines$Standing", "row", "[I", true)
  | _ => ("FacesOfLines$Standing", "height", "[J", true)
def tyX7 : Nat → FieldType := fun k => match k with
  | 0 => .int
  | 1 => .array .int
  | _ => .array .long
theorem nmX7 : ∀ a, a < 3 → ∀ b, b < 3 → a ≠ b → (TX7 a).2.1 ≠ (TX7 b).2.1 := by decide +kernel
theorem tyX7_ok : ∀ k, k < 3 → parseFieldDescriptor (TX7 k).2.2.1 = some (tyX7 k) := by decide +kernel
abbrev cX7_init : ByteArray := prog_9_method_1_code
def yX7_init : MethodName := ⟨RX7, "<init>", "()V"⟩
abbrev cX7_stand : ByteArray := prog_9_method_2_code
def yX7_stand : MethodName := ⟨RX7, "stand", "(LFacesOfLines$Lines;JJ)V"⟩
abbrev cX7_let : ByteArray := prog_9_method_3_code
def yX7_let : MethodName := ⟨RX7, "let", "(LFacesOfLines$Lines;I)V"⟩
abbrev cX7_compareTwo : ByteArray := prog_9_method_4_code
def yX7_compareTwo : MethodName := ⟨RX7, "compareTwo", "(LFacesOfLines$Lines;II)I"⟩
def RX8 : String := "FacesOfLines$Stretches"
def TX8 : u_T := fun k => match k with
  | 0 => ("FacesOfLines$Stretches", "size", "I", false)
  | 1 => ("FacesOfLines$Stretches", "left", "[I", true)
  | 2 => ("FacesOfLines$Stretches", "right", "[I", true)
  | 3 => ("FacesOfLines$Stretches", "uprights", "[I", true)
  | 4 => ("FacesOfLines$Stretches", "steps", "I", false)
  | 5 => ("FacesOfLines$Stretches", "stepN", "[J", true)
  | 6 => ("FacesOfLines$Stretches", "stepD", "[J", true)
  | 7 => ("FacesOfLines$Stretches", "low", "[I", true)
  | _ => ("FacesOfLines$Stretches", "high", "[I", true)
def tyX8 : Nat → FieldType := fun k => match k with
  | 0 => .int
  | 1 => .array .int
  | 2 => .array .int
  | 3 => .array .int
  | 4 => .int
  | 5 => .array .long
  | 6 => .array .long
  | 7 => .array .int
  | _ => .array .int
theorem nmX8 : ∀ a, a < 9 → ∀ b, b < 9 → a ≠ b → (TX8 a).2.1 ≠ (TX8 b).2.1 := by decide +kernel
theorem tyX8_ok : ∀ k, k < 9 → parseFieldDescriptor (TX8 k).2.2.1 = some (tyX8 k) := by decide +kernel
abbrev cX8_init : ByteArray := prog_10_method_1_code
def yX8_init : MethodName := ⟨RX8, "<init>", "()V"⟩
abbrev cX8_find : ByteArray := prog_10_method_2_code
def yX8_find : MethodName := ⟨RX8, "find", "(LFacesOfLines$Lines;LFacesOfLines$Slabs;)V"⟩
abbrev cX8_findSteps : ByteArray := prog_10_method_3_code
def yX8_findSteps : MethodName := ⟨RX8, "findSteps", "(LFacesOfLines$Lines;JJ)V"⟩
abbrev cX8_addStep : ByteArray := prog_10_method_4_code
def yX8_addStep : MethodName := ⟨RX8, "addStep", "(JJ)V"⟩
abbrev cX8_stepsUnder : ByteArray := prog_10_method_5_code
def yX8_stepsUnder : MethodName := ⟨RX8, "stepsUnder", "(JJ)I"⟩
abbrev cX8_cellAt : ByteArray := prog_10_method_6_code
def yX8_cellAt : MethodName := ⟨RX8, "cellAt", "(LFacesOfLines$Slabs;III)I"⟩
abbrev cX8_uprightsAt : ByteArray := prog_10_method_7_code
def yX8_uprightsAt : MethodName := ⟨RX8, "uprightsAt", "(LFacesOfLines$Lines;JJI)I"⟩
abbrev cX8_add : ByteArray := prog_10_method_8_code
def yX8_add : MethodName := ⟨RX8, "add", "(III)V"⟩
def RX9 : String := "FacesOfLines"
def TX9 : u_T := fun k => match k with
  | 0 => ("FacesOfLines", "lines", "LFacesOfLines$Lines;", true)
  | 1 => ("FacesOfLines", "imaged", "LFacesOfLines$Lines;", true)
  | 2 => ("FacesOfLines", "thought", "LFacesOfLines$Lines;", true)
  | 3 => ("FacesOfLines", "points", "LFacesOfLines$Points;", true)
  | 4 => ("FacesOfLines", "thoughtPoints", "LFacesOfLines$Points;", true)
  | 5 => ("FacesOfLines", "meeting", "LFacesOfLines$Meeting;", true)
  | 6 => ("FacesOfLines", "standing", "LFacesOfLines$Standing;", true)
  | 7 => ("FacesOfLines", "slabs", "LFacesOfLines$Slabs;", true)
  | 8 => ("FacesOfLines", "stretches", "LFacesOfLines$Stretches;", true)
  | 9 => ("FacesOfLines", "faces", "LFacesOfLines$Faces;", true)
  | 10 => ("FacesOfLines", "hulls", "LFacesOfLines$Hulls;", true)
  | 11 => ("FacesOfLines", "sheets", "LFacesOfLines$Sheets;", true)
  | 12 => ("FacesOfLines", "hasImage", "Z", false)
  | 13 => ("FacesOfLines", "knowsPoints", "Z", false)
  | 14 => ("FacesOfLines", "knowsFaces", "Z", false)
  | _ => ("FacesOfLines", "knowsHulls", "Z", false)
def tyX9 : Nat → FieldType := fun k => match k with
  | 0 => .object "FacesOfLines$Lines"
  | 1 => .object "FacesOfLines$Lines"
  | 2 => .object "FacesOfLines$Lines"
  | 3 => .object "FacesOfLines$Points"
  | 4 => .object "FacesOfLines$Points"
  | 5 => .object "FacesOfLines$Meeting"
  | 6 => .object "FacesOfLines$Standing"
  | 7 => .object "FacesOfLines$Slabs"
  | 8 => .object "FacesOfLines$Stretches"
  | 9 => .object "FacesOfLines$Faces"
  | 10 => .object "FacesOfLines$Hulls"
  | 11 => .object "FacesOfLines$Sheets"
  | 12 => .boolean
  | 13 => .boolean
  | 14 => .boolean
  | _ => .boolean
theorem nmX9 : ∀ a, a < 16 → ∀ b, b < 16 → a ≠ b → (TX9 a).2.1 ≠ (TX9 b).2.1 := by decide +kernel
theorem tyX9_ok : ∀ k, k < 16 → parseFieldDescriptor (TX9 k).2.2.1 = some (tyX9 k) := by decide +kernel
abbrev cX9_init : ByteArray := prog_1_method_1_code
def yX9_init : MethodName := ⟨RX9, "<init>", "()V"⟩
abbrev cX9_line : ByteArray := prog_1_method_2_code
def yX9_line : MethodName := ⟨RX9, "line", "(IIII)I"⟩
abbrev cX9_drop : ByteArray := prog_1_method_3_code
def yX9_drop : MethodName := ⟨RX9, "drop", "(I)I"⟩
abbrev cX9_move : ByteArray := prog_1_method_4_code
def yX9_move : MethodName := ⟨RX9, "move", "(IIII)I"⟩
abbrev cX9_told : ByteArray := prog_1_method_5_code
def yX9_told : MethodName := ⟨RX9, "told", "(II)I"⟩
abbrev cX9_taken : ByteArray := prog_1_method_6_code
def yX9_taken : MethodName := ⟨RX9, "taken", "(II)I"⟩
abbrev cX9_cross : ByteArray := prog_1_method_7_code
def yX9_cross : MethodName := ⟨RX9, "cross", "(III)I"⟩
abbrev cX9_point : ByteArray := prog_1_method_8_code
def yX9_point : MethodName := ⟨RX9, "point", "(II)I"⟩
abbrev cX9_order : ByteArray := prog_1_method_9_code
def yX9_order : MethodName := ⟨RX9, "order", "(III)I"⟩
abbrev cX9_slab : ByteArray := prog_1_method_10_code
def yX9_slab : MethodName := ⟨RX9, "slab", "(II)I"⟩
abbrev cX9_cell : ByteArray := prog_1_method_11_code
def yX9_cell : MethodName := ⟨RX9, "cell", "(II)I"⟩
abbrev cX9_face : ByteArray := prog_1_method_12_code
def yX9_face : MethodName := ⟨RX9, "face", "(II)I"⟩
abbrev cX9_where : ByteArray := prog_1_method_13_code
def yX9_where : MethodName := ⟨RX9, "where", "(III)I"⟩
abbrev cX9_on : ByteArray := prog_1_method_14_code
def yX9_on : MethodName := ⟨RX9, "on", "(III)I"⟩
abbrev cX9_hops : ByteArray := prog_1_method_15_code
def yX9_hops : MethodName := ⟨RX9, "hops", "(II)I"⟩
abbrev cX9_count : ByteArray := prog_1_method_16_code
def yX9_count : MethodName := ⟨RX9, "count", "(I)I"⟩
abbrev cX9_without : ByteArray := prog_1_method_17_code
def yX9_without : MethodName := ⟨RX9, "without", "(I)I"⟩
abbrev cX9_most : ByteArray := prog_1_method_18_code
def yX9_most : MethodName := ⟨RX9, "most", "(I)I"⟩
abbrev cX9_drawn : ByteArray := prog_1_method_19_code
def yX9_drawn : MethodName := ⟨RX9, "drawn", "(II)I"⟩
abbrev cX9_chance : ByteArray := prog_1_method_20_code
def yX9_chance : MethodName := ⟨RX9, "chance", "(IIII)I"⟩
abbrev cX9_tells : ByteArray := prog_1_method_21_code
def yX9_tells : MethodName := ⟨RX9, "tells", "(III)I"⟩
abbrev cX9_film : ByteArray := prog_1_method_22_code
def yX9_film : MethodName := ⟨RX9, "film", "(II)I"⟩
abbrev cX9_image : ByteArray := prog_1_method_23_code
def yX9_image : MethodName := ⟨RX9, "image", "()I"⟩
abbrev cX9_back : ByteArray := prog_1_method_24_code
def yX9_back : MethodName := ⟨RX9, "back", "()I"⟩
abbrev cX9_sheet : ByteArray := prog_1_method_25_code
def yX9_sheet : MethodName := ⟨RX9, "sheet", "(III)I"⟩
abbrev cX9_put : ByteArray := prog_1_method_26_code
def yX9_put : MethodName := ⟨RX9, "put", "(III)I"⟩
abbrev cX9_copy : ByteArray := prog_1_method_27_code
def yX9_copy : MethodName := ⟨RX9, "copy", "(IIIII)I"⟩
abbrev cX9_load : ByteArray := prog_1_method_28_code
def yX9_load : MethodName := ⟨RX9, "load", "(IIII)I"⟩
abbrev cX9_isCoordinate : ByteArray := prog_1_method_29_code
def yX9_isCoordinate : MethodName := ⟨RX9, "isCoordinate", "(I)Z"⟩
abbrev cX9_canBeEnds : ByteArray := prog_1_method_30_code
def yX9_canBeEnds : MethodName := ⟨RX9, "canBeEnds", "(IIII)Z"⟩
abbrev cX9_canBePlace : ByteArray := prog_1_method_31_code
def yX9_canBePlace : MethodName := ⟨RX9, "canBePlace", "(III)Z"⟩
abbrev cX9_compareFractions : ByteArray := prog_1_method_32_code
def yX9_compareFractions : MethodName := ⟨RX9, "compareFractions", "(JJJJ)I"⟩
abbrev cX9_commonDivisor : ByteArray := prog_1_method_33_code
def yX9_commonDivisor : MethodName := ⟨RX9, "commonDivisor", "(JJ)J"⟩
abbrev cX9_leastOf : ByteArray := prog_1_method_34_code
def yX9_leastOf : MethodName := ⟨RX9, "leastOf", "(I)I"⟩
abbrev cX9_forgetWhatFollows : ByteArray := prog_1_method_35_code
def yX9_forgetWhatFollows : MethodName := ⟨RX9, "forgetWhatFollows", "()V"⟩
abbrev cX9_knowPoints : ByteArray := prog_1_method_36_code
def yX9_knowPoints : MethodName := ⟨RX9, "knowPoints", "()V"⟩
abbrev cX9_knowFaces : ByteArray := prog_1_method_37_code
def yX9_knowFaces : MethodName := ⟨RX9, "knowFaces", "()V"⟩
abbrev cX9_knowHulls : ByteArray := prog_1_method_38_code
def yX9_knowHulls : MethodName := ⟨RX9, "knowHulls", "()V"⟩
abbrev cX9_linesOn : ByteArray := prog_1_method_39_code
def yX9_linesOn : MethodName := ⟨RX9, "linesOn", "(III)I"⟩
abbrev cX9_facesWithout : ByteArray := prog_1_method_40_code
def yX9_facesWithout : MethodName := ⟨RX9, "facesWithout", "(I)I"⟩
abbrev cX9_facesDrawn : ByteArray := prog_1_method_41_code
def yX9_facesDrawn : MethodName := ⟨RX9, "facesDrawn", "(II)I"⟩
abbrev cX9_anew : ByteArray := prog_1_method_42_code
def yX9_anew : MethodName := ⟨RX9, "anew", "(I)I"⟩
abbrev cX9_coordinateBy : ByteArray := prog_1_method_43_code
def yX9_coordinateBy : MethodName := ⟨RX9, "coordinateBy", "(I)I"⟩
abbrev cX9_toldXs : ByteArray := prog_1_method_44_code
def yX9_toldXs : MethodName := ⟨RX9, "toldXs", "(IZ)I"⟩
abbrev cX9_toldWithout : ByteArray := prog_1_method_45_code
def yX9_toldWithout : MethodName := ⟨RX9, "toldWithout", "(II)I"⟩
def RX10 : String := "FacesOfLinesModel"
def TX10 : u_T := fun k => match k with
  | 0 => ("FacesOfLinesModel", "lines", "I", false)
  | 1 => ("FacesOfLinesModel", "ax", "[I", true)
  | 2 => ("FacesOfLinesModel", "ay", "[I", true)
  | 3 => ("FacesOfLinesModel", "bx", "[I", true)
  | 4 => ("FacesOfLinesModel", "by", "[I", true)
  | 5 => ("FacesOfLinesModel", "how", "I", false)
  | 6 => ("FacesOfLinesModel", "atX", "J", false)
  | 7 => ("FacesOfLinesModel", "atY", "J", false)
  | 8 => ("FacesOfLinesModel", "atBelow", "J", false)
  | 9 => ("FacesOfLinesModel", "points", "I", false)
  | 10 => ("FacesOfLinesModel", "px", "[J", true)
  | 11 => ("FacesOfLinesModel", "pxBelow", "[J", true)
  | 12 => ("FacesOfLinesModel", "py", "[J", true)
  | 13 => ("FacesOfLinesModel", "pyBelow", "[J", true)
  | 14 => ("FacesOfLinesModel", "least", "[I", true)
  | 15 => ("FacesOfLinesModel", "places", "I", false)
  | 16 => ("FacesOfLinesModel", "placeX", "[I", true)
  | 17 => ("FacesOfLinesModel", "placeY", "[I", true)
  | 18 => ("FacesOfLinesModel", "hulls", "[I", true)
  | 19 => ("FacesOfLinesModel", "isBorder", "[Z", true)
  | 20 => ("FacesOfLinesModel", "ordered", "I", false)
  | 21 => ("FacesOfLinesModel", "orders", "[I", true)
  | 22 => ("FacesOfLinesModel", "slabs", "I", false)
  | 23 => ("FacesOfLinesModel", "cells", "I", false)
  | 24 => ("FacesOfLinesModel", "faces", "I", false)
  | 25 => ("FacesOfLinesModel", "slabX", "[J", true)
  | 26 => ("FacesOfLinesModel", "slabBelow", "[J", true)
  | 27 => ("FacesOfLinesModel", "slabFirst", "[I", true)
  | 28 => ("FacesOfLinesModel", "cellSlab", "[I", true)
  | 29 => ("FacesOfLinesModel", "lows", "[I", true)
  | 30 => ("FacesOfLinesModel", "highs", "[I", true)
  | 31 => ("FacesOfLinesModel", "faceOf", "[I", true)
  | 32 => ("FacesOfLinesModel", "through", "[I", true)
  | 33 => ("FacesOfLinesModel", "fromAbove", "J", false)
  | 34 => ("FacesOfLinesModel", "fromBelow", "J", false)
  | 35 => ("FacesOfLinesModel", "toAbove", "J", false)
  | 36 => ("FacesOfLinesModel", "toBelow", "J", false)
  | 37 => ("FacesOfLinesModel", "numberOf", "[I", true)
  | 38 => ("FacesOfLinesModel", "areNext", "[[Z", true)
  | 39 => ("FacesOfLinesModel", "far", "[I", true)
  | 40 => ("FacesOfLinesModel", "keptLines", "[I", true)
  | 41 => ("FacesOfLinesModel", "keptEnds", "[[I", true)
  | 42 => ("FacesOfLinesModel", "z", "I", false)
  | 43 => ("FacesOfLinesModel", "hasImage", "Z", false)
  | 44 => ("FacesOfLinesModel", "sorts", "[I", true)
  | 45 => ("FacesOfLinesModel", "lengths", "[I", true)
  | 46 => ("FacesOfLinesModel", "items", "[[I", true)
  | _ => ("FacesOfLinesModel", "passed", "[I", true)
def tyX10 : Nat → FieldType := fun k => match k with
  | 0 => .int
  | 1 => .array .int
  | 2 => .array .int
  | 3 => .array .int
  | 4 => .array .int
  | 5 => .int
  | 6 => .long
  | 7 => .long
  | 8 => .long
  | 9 => .int
  | 10 => .array .long
  | 11 => .array .long
  | 12 => .array .long
  | 13 => .array .long
  | 14 => .array .int
  | 15 => .int
  | 16 => .array .int
  | 17 => .array .int
  | 18 => .array .int
  | 19 => .array .boolean
  | 20 => .int
  | 21 => .array .int
  | 22 => .int
  | 23 => .int
  | 24 => .int
  | 25 => .array .long
  | 26 => .array .long
  | 27 => .array .int
  | 28 => .array .int
  | 29 => .array .int
  | 30 => .array .int
  | 31 => .array .int
  | 32 => .array .int
  | 33 => .long
  | 34 => .long
  | 35 => .long
  | 36 => .long
  | 37 => .array .int
  | 38 => .array (.array .boolean)
  | 39 => .array .int
  | 40 => .array .int
  | 41 => .array (.array .int)
  | 42 => .int
  | 43 => .boolean
  | 44 => .array .int
  | 45 => .array .int
  | 46 => .array (.array .int)
  | _ => .array .int
theorem nmX10 : ∀ a, a < 48 → ∀ b, b < 48 → a ≠ b → (TX10 a).2.1 ≠ (TX10 b).2.1 := by decide +kernel
theorem tyX10_ok : ∀ k, k < 48 → parseFieldDescriptor (TX10 k).2.2.1 = some (tyX10 k) := by decide +kernel
abbrev cX10_init : ByteArray := prog_12_method_1_code
def yX10_init : MethodName := ⟨RX10, "<init>", "()V"⟩
abbrev cX10_in : ByteArray := prog_12_method_2_code
def yX10_in : MethodName := ⟨RX10, "in", "(III)Z"⟩
abbrev cX10_isLine : ByteArray := prog_12_method_3_code
def yX10_isLine : MethodName := ⟨RX10, "isLine", "(I)Z"⟩
abbrev cX10_isOnSheet : ByteArray := prog_12_method_4_code
def yX10_isOnSheet : MethodName := ⟨RX10, "isOnSheet", "(I)Z"⟩
abbrev cX10_common : ByteArray := prog_12_method_5_code
def yX10_common : MethodName := ⟨RX10, "common", "(JJ)J"⟩
abbrev cX10_size : ByteArray := prog_12_method_6_code
def yX10_size : MethodName := ⟨RX10, "size", "(J)J"⟩
abbrev cX10_against : ByteArray := prog_12_method_7_code
def yX10_against : MethodName := ⟨RX10, "against", "(JJJJ)I"⟩
abbrev cX10_stands : ByteArray := prog_12_method_8_code
def yX10_stands : MethodName := ⟨RX10, "stands", "(IIIII)V"⟩
abbrev cX10_line : ByteArray := prog_12_method_9_code
def yX10_line : MethodName := ⟨RX10, "line", "(IIII)I"⟩
abbrev cX10_drops : ByteArray := prog_12_method_10_code
def yX10_drops : MethodName := ⟨RX10, "drops", "(I)V"⟩
abbrev cX10_drop : ByteArray := prog_12_method_11_code
def yX10_drop : MethodName := ⟨RX10, "drop", "(I)I"⟩
abbrev cX10_move : ByteArray := prog_12_method_12_code
def yX10_move : MethodName := ⟨RX10, "move", "(IIII)I"⟩
abbrev cX10_isUpright : ByteArray := prog_12_method_13_code
def yX10_isUpright : MethodName := ⟨RX10, "isUpright", "(I)Z"⟩
abbrev cX10_turn : ByteArray := prog_12_method_14_code
def yX10_turn : MethodName := ⟨RX10, "turn", "(IIII)I"⟩
abbrev cX10_isLess : ByteArray := prog_12_method_15_code
def yX10_isLess : MethodName := ⟨RX10, "isLess", "(IIII)Z"⟩
abbrev cX10_meetInRow : ByteArray := prog_12_method_16_code
def yX10_meetInRow : MethodName := ⟨RX10, "meetInRow", "(II)V"⟩
abbrev cX10_meet : ByteArray := prog_12_method_17_code
def yX10_meet : MethodName := ⟨RX10, "meet", "(II)V"⟩
abbrev cX10_lowest : ByteArray := prog_12_method_18_code
def yX10_lowest : MethodName := ⟨RX10, "lowest", "(JJZ)J"⟩
abbrev cX10_cross : ByteArray := prog_12_method_19_code
def yX10_cross : MethodName := ⟨RX10, "cross", "(III)I"⟩
abbrev cX10_pointAgainst : ByteArray := prog_12_method_20_code
def yX10_pointAgainst : MethodName := ⟨RX10, "pointAgainst", "(IJJJJ)I"⟩
abbrev cX10_addPoint : ByteArray := prog_12_method_21_code
def yX10_addPoint : MethodName := ⟨RX10, "addPoint", "(JJJ)V"⟩
abbrev cX10_tellPoints : ByteArray := prog_12_method_22_code
def yX10_tellPoints : MethodName := ⟨RX10, "tellPoints", "()V"⟩
abbrev cX10_isOn : ByteArray := prog_12_method_23_code
def yX10_isOn : MethodName := ⟨RX10, "isOn", "(IJJJJ)Z"⟩
abbrev cX10_linesOn : ByteArray := prog_12_method_24_code
def yX10_linesOn : MethodName := ⟨RX10, "linesOn", "(JJJJ)I"⟩
abbrev cX10_linesAt : ByteArray := prog_12_method_25_code
def yX10_linesAt : MethodName := ⟨RX10, "linesAt", "(I)I"⟩
abbrev cX10_tellPieces : ByteArray := prog_12_method_26_code
def yX10_tellPieces : MethodName := ⟨RX10, "tellPieces", "()I"⟩
abbrev cX10_isPiece : ByteArray := prog_12_method_27_code
def yX10_isPiece : MethodName := ⟨RX10, "isPiece", "(II)Z"⟩
abbrev cX10_endsAt : ByteArray := prog_12_method_28_code
def yX10_endsAt : MethodName := ⟨RX10, "endsAt", "(I)I"⟩
abbrev cX10_pointsOn : ByteArray := prog_12_method_29_code
def yX10_pointsOn : MethodName := ⟨RX10, "pointsOn", "(I)I"⟩
abbrev cX10_point : ByteArray := prog_12_method_30_code
def yX10_point : MethodName := ⟨RX10, "point", "(II)I"⟩
abbrev cX10_placeAt : ByteArray := prog_12_method_31_code
def yX10_placeAt : MethodName := ⟨RX10, "placeAt", "(II)I"⟩
abbrev cX10_isSide : ByteArray := prog_12_method_32_code
def yX10_isSide : MethodName := ⟨RX10, "isSide", "(II)Z"⟩
abbrev cX10_tellHulls : ByteArray := prog_12_method_33_code
def yX10_tellHulls : MethodName := ⟨RX10, "tellHulls", "()I"⟩
abbrev cX10_told : ByteArray := prog_12_method_34_code
def yX10_told : MethodName := ⟨RX10, "told", "(II)I"⟩
abbrev cX10_taken : ByteArray := prog_12_method_35_code
def yX10_taken : MethodName := ⟨RX10, "taken", "(II)I"⟩
abbrev cX10_yAbove : ByteArray := prog_12_method_36_code
def yX10_yAbove : MethodName := ⟨RX10, "yAbove", "(IJJ)J"⟩
abbrev cX10_yBelow : ByteArray := prog_12_method_37_code
def yX10_yBelow : MethodName := ⟨RX10, "yBelow", "(IJ)J"⟩
abbrev cX10_isThere : ByteArray := prog_12_method_38_code
def yX10_isThere : MethodName := ⟨RX10, "isThere", "(IJJ)Z"⟩
abbrev cX10_isAhead : ByteArray := prog_12_method_39_code
def yX10_isAhead : MethodName := ⟨RX10, "isAhead", "(IIJJ)Z"⟩
abbrev cX10_tellOrder : ByteArray := prog_12_method_40_code
def yX10_tellOrder : MethodName := ⟨RX10, "tellOrder", "(JJI)V"⟩
abbrev cX10_order : ByteArray := prog_12_method_41_code
def yX10_order : MethodName := ⟨RX10, "order", "(III)I"⟩
abbrev cX10_leastOf : ByteArray := prog_12_method_42_code
def yX10_leastOf : MethodName := ⟨RX10, "leastOf", "(I)I"⟩
abbrev cX10_againstThrough : ByteArray := prog_12_method_43_code
def yX10_againstThrough : MethodName := ⟨RX10, "againstThrough", "(III)I"⟩
abbrev cX10_addCell : ByteArray := prog_12_method_44_code
def yX10_addCell : MethodName := ⟨RX10, "addCell", "(III)V"⟩
abbrev cX10_cut : ByteArray := prog_12_method_45_code
def yX10_cut : MethodName := ⟨RX10, "cut", "(I)V"⟩
abbrev cX10_tellSheet : ByteArray := prog_12_method_46_code
def yX10_tellSheet : MethodName := ⟨RX10, "tellSheet", "()V"⟩
abbrev cX10_narrow : ByteArray := prog_12_method_47_code
def yX10_narrow : MethodName := ⟨RX10, "narrow", "(IJJ)V"⟩
abbrev cX10_wide : ByteArray := prog_12_method_48_code
def yX10_wide : MethodName := ⟨RX10, "wide", "()V"⟩
abbrev cX10_isMoreThanOne : ByteArray := prog_12_method_49_code
def yX10_isMoreThanOne : MethodName := ⟨RX10, "isMoreThanOne", "()Z"⟩
abbrev cX10_isUprightAt : ByteArray := prog_12_method_50_code
def yX10_isUprightAt : MethodName := ⟨RX10, "isUprightAt", "(IJJ)Z"⟩
abbrev cX10_hasMore : ByteArray := prog_12_method_51_code
def yX10_hasMore : MethodName := ⟨RX10, "hasMore", "(I)Z"⟩
abbrev cX10_isOpen : ByteArray := prog_12_method_52_code
def yX10_isOpen : MethodName := ⟨RX10, "isOpen", "(JJ)Z"⟩
abbrev cX10_joinCells : ByteArray := prog_12_method_53_code
def yX10_joinCells : MethodName := ⟨RX10, "joinCells", "()V"⟩
abbrev cX10_slab : ByteArray := prog_12_method_54_code
def yX10_slab : MethodName := ⟨RX10, "slab", "(II)I"⟩
abbrev cX10_cell : ByteArray := prog_12_method_55_code
def yX10_cell : MethodName := ⟨RX10, "cell", "(II)I"⟩
abbrev cX10_bordersAt : ByteArray := prog_12_method_56_code
def yX10_bordersAt : MethodName := ⟨RX10, "bordersAt", "(II)I"⟩
abbrev cX10_borders : ByteArray := prog_12_method_57_code
def yX10_borders : MethodName := ⟨RX10, "borders", "(I)I"⟩
abbrev cX10_isNext : ByteArray := prog_12_method_58_code
def yX10_isNext : MethodName := ⟨RX10, "isNext", "(II)V"⟩
abbrev cX10_tellNext : ByteArray := prog_12_method_59_code
def yX10_tellNext : MethodName := ⟨RX10, "tellNext", "()V"⟩
abbrev cX10_nextTo : ByteArray := prog_12_method_60_code
def yX10_nextTo : MethodName := ⟨RX10, "nextTo", "(I)I"⟩
abbrev cX10_face : ByteArray := prog_12_method_61_code
def yX10_face : MethodName := ⟨RX10, "face", "(II)I"⟩
abbrev cX10_isPlace : ByteArray := prog_12_method_62_code
def yX10_isPlace : MethodName := ⟨RX10, "isPlace", "(III)Z"⟩
abbrev cX10_where : ByteArray := prog_12_method_63_code
def yX10_where : MethodName := ⟨RX10, "where", "(III)I"⟩
abbrev cX10_on : ByteArray := prog_12_method_64_code
def yX10_on : MethodName := ⟨RX10, "on", "(III)I"⟩
abbrev cX10_hops : ByteArray := prog_12_method_65_code
def yX10_hops : MethodName := ⟨RX10, "hops", "(II)I"⟩
abbrev cX10_partsMany : ByteArray := prog_12_method_66_code
def yX10_partsMany : MethodName := ⟨RX10, "partsMany", "()I"⟩
abbrev cX10_twos : ByteArray := prog_12_method_67_code
def yX10_twos : MethodName := ⟨RX10, "twos", "(I)I"⟩
abbrev cX10_facesNow : ByteArray := prog_12_method_68_code
def yX10_facesNow : MethodName := ⟨RX10, "facesNow", "()I"⟩
abbrev cX10_count : ByteArray := prog_12_method_69_code
def yX10_count : MethodName := ⟨RX10, "count", "(I)I"⟩
abbrev cX10_endRow : ByteArray := prog_12_method_70_code
def yX10_endRow : MethodName := ⟨RX10, "endRow", "(I)[I"⟩
abbrev cX10_keep : ByteArray := prog_12_method_71_code
def yX10_keep : MethodName := ⟨RX10, "keep", "(I)V"⟩
abbrev cX10_layBack : ByteArray := prog_12_method_72_code
def yX10_layBack : MethodName := ⟨RX10, "layBack", "(I)V"⟩
abbrev cX10_facesWithout : ByteArray := prog_12_method_73_code
def yX10_facesWithout : MethodName := ⟨RX10, "facesWithout", "(I)I"⟩
abbrev cX10_without : ByteArray := prog_12_method_74_code
def yX10_without : MethodName := ⟨RX10, "without", "(I)I"⟩
abbrev cX10_most : ByteArray := prog_12_method_75_code
def yX10_most : MethodName := ⟨RX10, "most", "(I)I"⟩
abbrev cX10_draw : ByteArray := prog_12_method_76_code
def yX10_draw : MethodName := ⟨RX10, "draw", "()I"⟩
abbrev cX10_byLot : ByteArray := prog_12_method_77_code
def yX10_byLot : MethodName := ⟨RX10, "byLot", "(II)I"⟩
abbrev cX10_drawn : ByteArray := prog_12_method_78_code
def yX10_drawn : MethodName := ⟨RX10, "drawn", "(II)I"⟩
abbrev cX10_chance : ByteArray := prog_12_method_79_code
def yX10_chance : MethodName := ⟨RX10, "chance", "(IIII)I"⟩
abbrev cX10_otherwise : ByteArray := prog_12_method_80_code
def yX10_otherwise : MethodName := ⟨RX10, "otherwise", "(III)I"⟩
abbrev cX10_tells : ByteArray := prog_12_method_81_code
def yX10_tells : MethodName := ⟨RX10, "tells", "(III)I"⟩
abbrev cX10_film : ByteArray := prog_12_method_82_code
def yX10_film : MethodName := ⟨RX10, "film", "(II)I"⟩
abbrev cX10_image : ByteArray := prog_12_method_83_code
def yX10_image : MethodName := ⟨RX10, "image", "()I"⟩
abbrev cX10_back : ByteArray := prog_12_method_84_code
def yX10_back : MethodName := ⟨RX10, "back", "()I"⟩
abbrev cX10_isSheet : ByteArray := prog_12_method_85_code
def yX10_isSheet : MethodName := ⟨RX10, "isSheet", "(I)Z"⟩
abbrev cX10_sheet : ByteArray := prog_12_method_86_code
def yX10_sheet : MethodName := ⟨RX10, "sheet", "(III)I"⟩
abbrev cX10_put : ByteArray := prog_12_method_87_code
def yX10_put : MethodName := ⟨RX10, "put", "(III)I"⟩
abbrev cX10_copy : ByteArray := prog_12_method_88_code
def yX10_copy : MethodName := ⟨RX10, "copy", "(IIIII)I"⟩
abbrev cX10_load : ByteArray := prog_12_method_89_code
def yX10_load : MethodName := ⟨RX10, "load", "(IIII)I"⟩
def RJ6 : String := "java/lang/Integer"
abbrev cJ6_numberOfTrailingZeros_0f7a4 : ByteArray := prog_13_method_48_code
def yJ6_numberOfTrailingZeros_0f7a4 : MethodName := ⟨RJ6, "numberOfTrailingZeros", "(I)I"⟩
def RJ13 : String := "java/lang/Long"
abbrev cJ13_bitCount_95d88 : ByteArray := prog_14_method_50_code
def yJ13_bitCount_95d88 : MethodName := ⟨RJ13, "bitCount", "(J)I"⟩
def RJ9 : String := "java/lang/Math"
abbrev cJ9_max_7cf53 : ByteArray := prog_15_method_65_code
def yJ9_max_7cf53 : MethodName := ⟨RJ9, "max", "(II)I"⟩
abbrev cJ9_min_7cf53 : ByteArray := prog_15_method_69_code
def yJ9_min_7cf53 : MethodName := ⟨RJ9, "min", "(II)I"⟩
def RJ10 : String := "java/lang/System"
def RL : String := "FacesOfLinesLaw"
abbrev cL_law : ByteArray := code
def yL_law : MethodName := ⟨RL, "law", "([I)Z"⟩
abbrev vwCl : List vw_C := [(RX0, TX0, 7), (RX1, TX1, 5), (RX2, TX2, 5), (RX3, TX3, 5), (RX4, TX4, 11), (RX5, TX5, 3), (RX6, TX6, 8), (RX7, TX7, 3), (RX8, TX8, 9), (RX9, TX9, 16), (RX10, TX10, 48)]
