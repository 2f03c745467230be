/-! the law's script -/
theorem Ev_slen {mt : Mth} {d pc : Nat} {lc : List (Nat × VV)} {st : List VV} {σ : Sg} {post : PO} {L : Nat} {xs : Nat → Int} (hdg : decode mt.2.1 pc = .ok (.arraylength, 1)) (hq : mt.2.2.2.2 = some (L, xs)) (k : Ev mt d (pc + 1) lc (((0, (L : Int)) : VV) :: st) σ post) : Ev mt d pc lc (((2, 192) : VV) :: st) σ post := by
  intro p l e R s m args below meth c cells slots Q X A H0 H locs ls hC hR hW hS hl hlo hso
  obtain ⟨hx, hb, hml, hown, hts, hd1, hd2, hd3, hd4, hd5⟩ := id hC
  rw [hq] at hd5
  obtain ⟨hX, hbl, hbA, hxs, hL⟩ := hd5
  have hLo : ok32 (L : Int) := ⟨by omega, hL⟩
  have K := k p l e R s m args below meth c cells slots Q X A H0 H locs ls hC hR hW hS hl hlo (by
    intro w hw
    rcases List.mem_cons.mp hw with rfl | hw
    · exact hLo
    · exact hso w (by simp [hw]))
  exact va_slen hx hb hX hbl hbA hS hdg K
theorem Ev_sld {mt : Mth} {d pc : Nat} {lc : List (Nat × VV)} {st : List VV} {σ : Sg} {post : PO} {L : Nat} {xs : Nat → Int} {i : Int} (hdg : decode mt.2.1 pc = .ok (.iaload, 1)) (hq : mt.2.2.2.2 = some (L, xs)) (h0 : 0 ≤ i ∧ i < L) (k : Ev mt d (pc + 1) lc (((0, xs i.toNat) : VV) :: st) σ post) : Ev mt d pc lc (((0, i) : VV) :: ((2, 192) : VV) :: st) σ post := by
  intro p l e R s m args below meth c cells slots Q X A H0 H locs ls hC hR hW hS hl hlo hso
  obtain ⟨hx, hb, hml, hown, hts, hd1, hd2, hd3, hd4, hd5⟩ := id hC
  rw [hq] at hd5
  obtain ⟨hX, hbl, hbA, hxs, hL⟩ := hd5
  have hi : ok32 i := hso (0, i) (by simp)
  have K := k p l e R s m args below meth c cells slots Q X A H0 H locs ls hC hR hW hS hl hlo (by
    intro w hw
    rcases List.mem_cons.mp hw with rfl | hw
    · exact hxs _
    · exact hso w (by simp [hw]))
  refine va_sld hx hb hX hbl hbA hS (in32 hi h0.1 h0.2) hdg ?_
  rw [tn32 hi]
  exact K
theorem q_390 : (Jvm.Cond.methodLink "FacesOfLinesLaw" (13 : Nat) ({ cls := "FacesOfLines", name := "line", desc := "(IIII)I" } : Jvm.MethodName)) ∈ tbG := tbG_of (in_t2 (List.mem_of_getElem? (i := 150) (by decide +kernel))) rfl
theorem q_421 : (Jvm.Cond.methodLink "FacesOfLinesLaw" (18 : Nat) ({ cls := "FacesOfLines", name := "drop", desc := "(I)I" } : Jvm.MethodName)) ∈ tbG := tbG_of (in_t2 (List.mem_of_getElem? (i := 181) (by decide +kernel))) rfl
theorem q_422 : (Jvm.Cond.instanceMethod ({ cls := "FacesOfLines", name := "drop", desc := "(I)I" } : Jvm.MethodName)) ∈ tbG := tbG_of (in_t2 (List.mem_of_getElem? (i := 182) (by decide +kernel))) rfl
theorem q_423 : (Jvm.Cond.selects "FacesOfLines" ({ cls := "FacesOfLines", name := "drop", desc := "(I)I" } : Jvm.MethodName) ({ cls := "FacesOfLines", name := "drop", desc := "(I)I" } : Jvm.MethodName)) ∈ tbG := tbG_of (in_t2 (List.mem_of_getElem? (i := 183) (by decide +kernel))) rfl
theorem q_424 : (Jvm.Cond.code ({ cls := "FacesOfLines", name := "drop", desc := "(I)I" } : Jvm.MethodName) prog_1_method_3_code (2 : Nat) (Option.some Jvm.ClassFile.FieldType.int)) ∈ tbG := tbG_of (in_t2 (List.mem_of_getElem? (i := 184) (by decide +kernel))) rfl
theorem q_430 : (Jvm.Cond.methodLink "FacesOfLinesLaw" (23 : Nat) ({ cls := "FacesOfLines", name := "move", desc := "(IIII)I" } : Jvm.MethodName)) ∈ tbG := tbG_of (in_t2 (List.mem_of_getElem? (i := 190) (by decide +kernel))) rfl
theorem q_431 : (Jvm.Cond.instanceMethod ({ cls := "FacesOfLines", name := "move", desc := "(IIII)I" } : Jvm.MethodName)) ∈ tbG := tbG_of (in_t2 (List.mem_of_getElem? (i := 191) (by decide +kernel))) rfl
theorem q_432 : (Jvm.Cond.selects "FacesOfLines" ({ cls := "FacesOfLines", name := "move", desc := "(IIII)I" } : Jvm.MethodName) ({ cls := "FacesOfLines", name := "move", desc := "(IIII)I" } : Jvm.MethodName)) ∈ tbG := tbG_of (in_t2 (List.mem_of_getElem? (i := 192) (by decide +kernel))) rfl
theorem q_433 : (Jvm.Cond.code ({ cls := "FacesOfLines", name := "move", desc := "(IIII)I" } : Jvm.MethodName) prog_1_method_4_code (7 : Nat) (Option.some Jvm.ClassFile.FieldType.int)) ∈ tbG := tbG_of (in_t2 (List.mem_of_getElem? (i := 193) (by decide +kernel))) rfl
theorem q_435 : (Jvm.Cond.methodLink "FacesOfLinesLaw" (27 : Nat) ({ cls := "FacesOfLines", name := "told", desc := "(II)I" } : Jvm.MethodName)) ∈ tbG := tbG_of (in_t2 (List.mem_of_getElem? (i := 195) (by decide +kernel))) rfl
theorem q_436 : (Jvm.Cond.instanceMethod ({ cls := "FacesOfLines", name := "told", desc := "(II)I" } : Jvm.MethodName)) ∈ tbG := tbG_of (in_t2 (List.mem_of_getElem? (i := 196) (by decide +kernel))) rfl
theorem q_437 : (Jvm.Cond.selects "FacesOfLines" ({ cls := "FacesOfLines", name := "told", desc := "(II)I" } : Jvm.MethodName) ({ cls := "FacesOfLines", name := "told", desc := "(II)I" } : Jvm.MethodName)) ∈ tbG := tbG_of (in_t2 (List.mem_of_getElem? (i := 197) (by decide +kernel))) rfl
theorem q_438 : (Jvm.Cond.code ({ cls := "FacesOfLines", name := "told", desc := "(II)I" } : Jvm.MethodName) prog_1_method_5_code (3 : Nat) (Option.some Jvm.ClassFile.FieldType.int)) ∈ tbG := tbG_of (in_t2 (List.mem_of_getElem? (i := 198) (by decide +kernel))) rfl
theorem q_570 : (Jvm.Cond.methodLink "FacesOfLinesLaw" (32 : Nat) ({ cls := "FacesOfLines", name := "taken", desc := "(II)I" } : Jvm.MethodName)) ∈ tbG := tbG_of (in_t3 (List.mem_of_getElem? (i := 90) (by decide +kernel))) rfl
theorem q_571 : (Jvm.Cond.instanceMethod ({ cls := "FacesOfLines", name := "taken", desc := "(II)I" } : Jvm.MethodName)) ∈ tbG := tbG_of (in_t3 (List.mem_of_getElem? (i := 91) (by decide +kernel))) rfl
theorem q_572 : (Jvm.Cond.selects "FacesOfLines" ({ cls := "FacesOfLines", name := "taken", desc := "(II)I" } : Jvm.MethodName) ({ cls := "FacesOfLines", name := "taken", desc := "(II)I" } : Jvm.MethodName)) ∈ tbG := tbG_of (in_t3 (List.mem_of_getElem? (i := 92) (by decide +kernel))) rfl
theorem q_573 : (Jvm.Cond.code ({ cls := "FacesOfLines", name := "taken", desc := "(II)I" } : Jvm.MethodName) prog_1_method_6_code (5 : Nat) (Option.some Jvm.ClassFile.FieldType.int)) ∈ tbG := tbG_of (in_t3 (List.mem_of_getElem? (i := 93) (by decide +kernel))) rfl
theorem q_575 : (Jvm.Cond.methodLink "FacesOfLinesLaw" (36 : Nat) ({ cls := "FacesOfLines", name := "cross", desc := "(III)I" } : Jvm.MethodName)) ∈ tbG := tbG_of (in_t3 (List.mem_of_getElem? (i := 95) (by decide +kernel))) rfl
theorem q_576 : (Jvm.Cond.instanceMethod ({ cls := "FacesOfLines", name := "cross", desc := "(III)I" } : Jvm.MethodName)) ∈ tbG := tbG_of (in_t3 (List.mem_of_getElem? (i := 96) (by decide +kernel))) rfl
theorem q_577 : (Jvm.Cond.selects "FacesOfLines" ({ cls := "FacesOfLines", name := "cross", desc := "(III)I" } : Jvm.MethodName) ({ cls := "FacesOfLines", name := "cross", desc := "(III)I" } : Jvm.MethodName)) ∈ tbG := tbG_of (in_t3 (List.mem_of_getElem? (i := 97) (by decide +kernel))) rfl
theorem q_578 : (Jvm.Cond.code ({ cls := "FacesOfLines", name := "cross", desc := "(III)I" } : Jvm.MethodName) prog_1_method_7_code (4 : Nat) (Option.some Jvm.ClassFile.FieldType.int)) ∈ tbG := tbG_of (in_t3 (List.mem_of_getElem? (i := 98) (by decide +kernel))) rfl
theorem q_584 : (Jvm.Cond.methodLink "FacesOfLinesLaw" (41 : Nat) ({ cls := "FacesOfLines", name := "point", desc := "(II)I" } : Jvm.MethodName)) ∈ tbG := tbG_of (in_t3 (List.mem_of_getElem? (i := 104) (by decide +kernel))) rfl
theorem q_585 : (Jvm.Cond.instanceMethod ({ cls := "FacesOfLines", name := "point", desc := "(II)I" } : Jvm.MethodName)) ∈ tbG := tbG_of (in_t3 (List.mem_of_getElem? (i := 105) (by decide +kernel))) rfl
theorem q_586 : (Jvm.Cond.selects "FacesOfLines" ({ cls := "FacesOfLines", name := "point", desc := "(II)I" } : Jvm.MethodName) ({ cls := "FacesOfLines", name := "point", desc := "(II)I" } : Jvm.MethodName)) ∈ tbG := tbG_of (in_t3 (List.mem_of_getElem? (i := 106) (by decide +kernel))) rfl
theorem q_587 : (Jvm.Cond.code ({ cls := "FacesOfLines", name := "point", desc := "(II)I" } : Jvm.MethodName) prog_1_method_8_code (3 : Nat) (Option.some Jvm.ClassFile.FieldType.int)) ∈ tbG := tbG_of (in_t3 (List.mem_of_getElem? (i := 107) (by decide +kernel))) rfl
theorem q_592 : (Jvm.Cond.methodLink "FacesOfLinesLaw" (45 : Nat) ({ cls := "FacesOfLines", name := "order", desc := "(III)I" } : Jvm.MethodName)) ∈ tbG := tbG_of (in_t3 (List.mem_of_getElem? (i := 112) (by decide +kernel))) rfl
theorem q_593 : (Jvm.Cond.instanceMethod ({ cls := "FacesOfLines", name := "order", desc := "(III)I" } : Jvm.MethodName)) ∈ tbG := tbG_of (in_t3 (List.mem_of_getElem? (i := 113) (by decide +kernel))) rfl
theorem q_594 : (Jvm.Cond.selects "FacesOfLines" ({ cls := "FacesOfLines", name := "order", desc := "(III)I" } : Jvm.MethodName) ({ cls := "FacesOfLines", name := "order", desc := "(III)I" } : Jvm.MethodName)) ∈ tbG := tbG_of (in_t3 (List.mem_of_getElem? (i := 114) (by decide +kernel))) rfl
theorem q_595 : (Jvm.Cond.code ({ cls := "FacesOfLines", name := "order", desc := "(III)I" } : Jvm.MethodName) prog_1_method_9_code (4 : Nat) (Option.some Jvm.ClassFile.FieldType.int)) ∈ tbG := tbG_of (in_t3 (List.mem_of_getElem? (i := 115) (by decide +kernel))) rfl
theorem q_617 : (Jvm.Cond.methodLink "FacesOfLinesLaw" (49 : Nat) ({ cls := "FacesOfLines", name := "slab", desc := "(II)I" } : Jvm.MethodName)) ∈ tbG := tbG_of (in_t3 (List.mem_of_getElem? (i := 137) (by decide +kernel))) rfl
theorem q_618 : (Jvm.Cond.instanceMethod ({ cls := "FacesOfLines", name := "slab", desc := "(II)I" } : Jvm.MethodName)) ∈ tbG := tbG_of (in_t3 (List.mem_of_getElem? (i := 138) (by decide +kernel))) rfl
theorem q_619 : (Jvm.Cond.selects "FacesOfLines" ({ cls := "FacesOfLines", name := "slab", desc := "(II)I" } : Jvm.MethodName) ({ cls := "FacesOfLines", name := "slab", desc := "(II)I" } : Jvm.MethodName)) ∈ tbG := tbG_of (in_t3 (List.mem_of_getElem? (i := 139) (by decide +kernel))) rfl
theorem q_620 : (Jvm.Cond.code ({ cls := "FacesOfLines", name := "slab", desc := "(II)I" } : Jvm.MethodName) prog_1_method_10_code (3 : Nat) (Option.some Jvm.ClassFile.FieldType.int)) ∈ tbG := tbG_of (in_t3 (List.mem_of_getElem? (i := 140) (by decide +kernel))) rfl
theorem q_709 : (Jvm.Cond.methodLink "FacesOfLinesLaw" (53 : Nat) ({ cls := "FacesOfLines", name := "cell", desc := "(II)I" } : Jvm.MethodName)) ∈ tbG := tbG_of (in_t3 (List.mem_of_getElem? (i := 229) (by decide +kernel))) rfl
theorem q_710 : (Jvm.Cond.instanceMethod ({ cls := "FacesOfLines", name := "cell", desc := "(II)I" } : Jvm.MethodName)) ∈ tbG := tbG_of (in_t3 (List.mem_of_getElem? (i := 230) (by decide +kernel))) rfl
theorem q_711 : (Jvm.Cond.selects "FacesOfLines" ({ cls := "FacesOfLines", name := "cell", desc := "(II)I" } : Jvm.MethodName) ({ cls := "FacesOfLines", name := "cell", desc := "(II)I" } : Jvm.MethodName)) ∈ tbG := tbG_of (in_t3 (List.mem_of_getElem? (i := 231) (by decide +kernel))) rfl
theorem q_712 : (Jvm.Cond.code ({ cls := "FacesOfLines", name := "cell", desc := "(II)I" } : Jvm.MethodName) prog_1_method_11_code (3 : Nat) (Option.some Jvm.ClassFile.FieldType.int)) ∈ tbG := tbG_of (in_t3 (List.mem_of_getElem? (i := 232) (by decide +kernel))) rfl
theorem q_714 : (Jvm.Cond.methodLink "FacesOfLinesLaw" (57 : Nat) ({ cls := "FacesOfLines", name := "face", desc := "(II)I" } : Jvm.MethodName)) ∈ tbG := tbG_of (in_t3 (List.mem_of_getElem? (i := 234) (by decide +kernel))) rfl
theorem q_715 : (Jvm.Cond.instanceMethod ({ cls := "FacesOfLines", name := "face", desc := "(II)I" } : Jvm.MethodName)) ∈ tbG := tbG_of (in_t3 (List.mem_of_getElem? (i := 235) (by decide +kernel))) rfl
theorem q_716 : (Jvm.Cond.selects "FacesOfLines" ({ cls := "FacesOfLines", name := "face", desc := "(II)I" } : Jvm.MethodName) ({ cls := "FacesOfLines", name := "face", desc := "(II)I" } : Jvm.MethodName)) ∈ tbG := tbG_of (in_t3 (List.mem_of_getElem? (i := 236) (by decide +kernel))) rfl
theorem q_717 : (Jvm.Cond.code ({ cls := "FacesOfLines", name := "face", desc := "(II)I" } : Jvm.MethodName) prog_1_method_12_code (3 : Nat) (Option.some Jvm.ClassFile.FieldType.int)) ∈ tbG := tbG_of (in_t3 (List.mem_of_getElem? (i := 237) (by decide +kernel))) rfl
theorem q_724 : (Jvm.Cond.methodLink "FacesOfLinesLaw" (61 : Nat) ({ cls := "FacesOfLines", name := "where", desc := "(III)I" } : Jvm.MethodName)) ∈ tbG := tbG_of (in_t4 (List.mem_of_getElem? (i := 4) (by decide +kernel))) rfl
theorem q_725 : (Jvm.Cond.instanceMethod ({ cls := "FacesOfLines", name := "where", desc := "(III)I" } : Jvm.MethodName)) ∈ tbG := tbG_of (in_t4 (List.mem_of_getElem? (i := 5) (by decide +kernel))) rfl
theorem q_726 : (Jvm.Cond.selects "FacesOfLines" ({ cls := "FacesOfLines", name := "where", desc := "(III)I" } : Jvm.MethodName) ({ cls := "FacesOfLines", name := "where", desc := "(III)I" } : Jvm.MethodName)) ∈ tbG := tbG_of (in_t4 (List.mem_of_getElem? (i := 6) (by decide +kernel))) rfl
theorem q_727 : (Jvm.Cond.code ({ cls := "FacesOfLines", name := "where", desc := "(III)I" } : Jvm.MethodName) prog_1_method_13_code (4 : Nat) (Option.some Jvm.ClassFile.FieldType.int)) ∈ tbG := tbG_of (in_t4 (List.mem_of_getElem? (i := 7) (by decide +kernel))) rfl
theorem q_743 : (Jvm.Cond.methodLink "FacesOfLinesLaw" (65 : Nat) ({ cls := "FacesOfLines", name := "on", desc := "(III)I" } : Jvm.MethodName)) ∈ tbG := tbG_of (in_t4 (List.mem_of_getElem? (i := 23) (by decide +kernel))) rfl
theorem q_744 : (Jvm.Cond.instanceMethod ({ cls := "FacesOfLines", name := "on", desc := "(III)I" } : Jvm.MethodName)) ∈ tbG := tbG_of (in_t4 (List.mem_of_getElem? (i := 24) (by decide +kernel))) rfl
theorem q_745 : (Jvm.Cond.selects "FacesOfLines" ({ cls := "FacesOfLines", name := "on", desc := "(III)I" } : Jvm.MethodName) ({ cls := "FacesOfLines", name := "on", desc := "(III)I" } : Jvm.MethodName)) ∈ tbG := tbG_of (in_t4 (List.mem_of_getElem? (i := 25) (by decide +kernel))) rfl
theorem q_746 : (Jvm.Cond.code ({ cls := "FacesOfLines", name := "on", desc := "(III)I" } : Jvm.MethodName) prog_1_method_14_code (4 : Nat) (Option.some Jvm.ClassFile.FieldType.int)) ∈ tbG := tbG_of (in_t4 (List.mem_of_getElem? (i := 26) (by decide +kernel))) rfl
theorem q_747 : (Jvm.Cond.methodLink "FacesOfLinesLaw" (69 : Nat) ({ cls := "FacesOfLines", name := "hops", desc := "(II)I" } : Jvm.MethodName)) ∈ tbG := tbG_of (in_t4 (List.mem_of_getElem? (i := 27) (by decide +kernel))) rfl
theorem q_748 : (Jvm.Cond.instanceMethod ({ cls := "FacesOfLines", name := "hops", desc := "(II)I" } : Jvm.MethodName)) ∈ tbG := tbG_of (in_t4 (List.mem_of_getElem? (i := 28) (by decide +kernel))) rfl
theorem q_749 : (Jvm.Cond.selects "FacesOfLines" ({ cls := "FacesOfLines", name := "hops", desc := "(II)I" } : Jvm.MethodName) ({ cls := "FacesOfLines", name := "hops", desc := "(II)I" } : Jvm.MethodName)) ∈ tbG := tbG_of (in_t4 (List.mem_of_getElem? (i := 29) (by decide +kernel))) rfl
theorem q_750 : (Jvm.Cond.code ({ cls := "FacesOfLines", name := "hops", desc := "(II)I" } : Jvm.MethodName) prog_1_method_15_code (3 : Nat) (Option.some Jvm.ClassFile.FieldType.int)) ∈ tbG := tbG_of (in_t4 (List.mem_of_getElem? (i := 30) (by decide +kernel))) rfl
theorem q_755 : (Jvm.Cond.methodLink "FacesOfLinesLaw" (73 : Nat) ({ cls := "FacesOfLines", name := "count", desc := "(I)I" } : Jvm.MethodName)) ∈ tbG := tbG_of (in_t4 (List.mem_of_getElem? (i := 35) (by decide +kernel))) rfl
theorem q_756 : (Jvm.Cond.instanceMethod ({ cls := "FacesOfLines", name := "count", desc := "(I)I" } : Jvm.MethodName)) ∈ tbG := tbG_of (in_t4 (List.mem_of_getElem? (i := 36) (by decide +kernel))) rfl
theorem q_757 : (Jvm.Cond.selects "FacesOfLines" ({ cls := "FacesOfLines", name := "count", desc := "(I)I" } : Jvm.MethodName) ({ cls := "FacesOfLines", name := "count", desc := "(I)I" } : Jvm.MethodName)) ∈ tbG := tbG_of (in_t4 (List.mem_of_getElem? (i := 37) (by decide +kernel))) rfl
theorem q_758 : (Jvm.Cond.code ({ cls := "FacesOfLines", name := "count", desc := "(I)I" } : Jvm.MethodName) prog_1_method_16_code (2 : Nat) (Option.some Jvm.ClassFile.FieldType.int)) ∈ tbG := tbG_of (in_t4 (List.mem_of_getElem? (i := 38) (by decide +kernel))) rfl
theorem q_759 : (Jvm.Cond.methodLink "FacesOfLinesLaw" (77 : Nat) ({ cls := "FacesOfLines", name := "without", desc := "(I)I" } : Jvm.MethodName)) ∈ tbG := tbG_of (in_t4 (List.mem_of_getElem? (i := 39) (by decide +kernel))) rfl
theorem q_760 : (Jvm.Cond.instanceMethod ({ cls := "FacesOfLines", name := "without", desc := "(I)I" } : Jvm.MethodName)) ∈ tbG := tbG_of (in_t4 (List.mem_of_getElem? (i := 40) (by decide +kernel))) rfl
theorem q_761 : (Jvm.Cond.selects "FacesOfLines" ({ cls := "FacesOfLines", name := "without", desc := "(I)I" } : Jvm.MethodName) ({ cls := "FacesOfLines", name := "without", desc := "(I)I" } : Jvm.MethodName)) ∈ tbG := tbG_of (in_t4 (List.mem_of_getElem? (i := 41) (by decide +kernel))) rfl
theorem q_762 : (Jvm.Cond.code ({ cls := "FacesOfLines", name := "without", desc := "(I)I" } : Jvm.MethodName) prog_1_method_17_code (2 : Nat) (Option.some Jvm.ClassFile.FieldType.int)) ∈ tbG := tbG_of (in_t4 (List.mem_of_getElem? (i := 42) (by decide +kernel))) rfl
theorem q_775 : (Jvm.Cond.methodLink "FacesOfLinesLaw" (81 : Nat) ({ cls := "FacesOfLines", name := "most", desc := "(I)I" } : Jvm.MethodName)) ∈ tbG := tbG_of (in_t4 (List.mem_of_getElem? (i := 55) (by decide +kernel))) rfl
theorem q_776 : (Jvm.Cond.instanceMethod ({ cls := "FacesOfLines", name := "most", desc := "(I)I" } : Jvm.MethodName)) ∈ tbG := tbG_of (in_t4 (List.mem_of_getElem? (i := 56) (by decide +kernel))) rfl
theorem q_777 : (Jvm.Cond.selects "FacesOfLines" ({ cls := "FacesOfLines", name := "most", desc := "(I)I" } : Jvm.MethodName) ({ cls := "FacesOfLines", name := "most", desc := "(I)I" } : Jvm.MethodName)) ∈ tbG := tbG_of (in_t4 (List.mem_of_getElem? (i := 57) (by decide +kernel))) rfl
theorem q_778 : (Jvm.Cond.code ({ cls := "FacesOfLines", name := "most", desc := "(I)I" } : Jvm.MethodName) prog_1_method_18_code (6 : Nat) (Option.some Jvm.ClassFile.FieldType.int)) ∈ tbG := tbG_of (in_t4 (List.mem_of_getElem? (i := 58) (by decide +kernel))) rfl
theorem q_779 : (Jvm.Cond.methodLink "FacesOfLinesLaw" (85 : Nat) ({ cls := "FacesOfLines", name := "drawn", desc := "(II)I" } : Jvm.MethodName)) ∈ tbG := tbG_of (in_t4 (List.mem_of_getElem? (i := 59) (by decide +kernel))) rfl
theorem q_780 : (Jvm.Cond.instanceMethod ({ cls := "FacesOfLines", name := "drawn", desc := "(II)I" } : Jvm.MethodName)) ∈ tbG := tbG_of (in_t4 (List.mem_of_getElem? (i := 60) (by decide +kernel))) rfl
theorem q_781 : (Jvm.Cond.selects "FacesOfLines" ({ cls := "FacesOfLines", name := "drawn", desc := "(II)I" } : Jvm.MethodName) ({ cls := "FacesOfLines", name := "drawn", desc := "(II)I" } : Jvm.MethodName)) ∈ tbG := tbG_of (in_t4 (List.mem_of_getElem? (i := 61) (by decide +kernel))) rfl
theorem q_782 : (Jvm.Cond.code ({ cls := "FacesOfLines", name := "drawn", desc := "(II)I" } : Jvm.MethodName) prog_1_method_19_code (3 : Nat) (Option.some Jvm.ClassFile.FieldType.int)) ∈ tbG := tbG_of (in_t4 (List.mem_of_getElem? (i := 62) (by decide +kernel))) rfl
theorem q_794 : (Jvm.Cond.methodLink "FacesOfLinesLaw" (89 : Nat) ({ cls := "FacesOfLines", name := "chance", desc := "(IIII)I" } : Jvm.MethodName)) ∈ tbG := tbG_of (in_t4 (List.mem_of_getElem? (i := 74) (by decide +kernel))) rfl
theorem q_795 : (Jvm.Cond.instanceMethod ({ cls := "FacesOfLines", name := "chance", desc := "(IIII)I" } : Jvm.MethodName)) ∈ tbG := tbG_of (in_t4 (List.mem_of_getElem? (i := 75) (by decide +kernel))) rfl
theorem q_796 : (Jvm.Cond.selects "FacesOfLines" ({ cls := "FacesOfLines", name := "chance", desc := "(IIII)I" } : Jvm.MethodName) ({ cls := "FacesOfLines", name := "chance", desc := "(IIII)I" } : Jvm.MethodName)) ∈ tbG := tbG_of (in_t4 (List.mem_of_getElem? (i := 76) (by decide +kernel))) rfl
theorem q_797 : (Jvm.Cond.code ({ cls := "FacesOfLines", name := "chance", desc := "(IIII)I" } : Jvm.MethodName) prog_1_method_20_code (7 : Nat) (Option.some Jvm.ClassFile.FieldType.int)) ∈ tbG := tbG_of (in_t4 (List.mem_of_getElem? (i := 77) (by decide +kernel))) rfl
theorem q_799 : (Jvm.Cond.methodLink "FacesOfLinesLaw" (93 : Nat) ({ cls := "FacesOfLines", name := "tells", desc := "(III)I" } : Jvm.MethodName)) ∈ tbG := tbG_of (in_t4 (List.mem_of_getElem? (i := 79) (by decide +kernel))) rfl
theorem q_800 : (Jvm.Cond.instanceMethod ({ cls := "FacesOfLines", name := "tells", desc := "(III)I" } : Jvm.MethodName)) ∈ tbG := tbG_of (in_t4 (List.mem_of_getElem? (i := 80) (by decide +kernel))) rfl
theorem q_801 : (Jvm.Cond.selects "FacesOfLines" ({ cls := "FacesOfLines", name := "tells", desc := "(III)I" } : Jvm.MethodName) ({ cls := "FacesOfLines", name := "tells", desc := "(III)I" } : Jvm.MethodName)) ∈ tbG := tbG_of (in_t4 (List.mem_of_getElem? (i := 81) (by decide +kernel))) rfl
theorem q_802 : (Jvm.Cond.code ({ cls := "FacesOfLines", name := "tells", desc := "(III)I" } : Jvm.MethodName) prog_1_method_21_code (4 : Nat) (Option.some Jvm.ClassFile.FieldType.int)) ∈ tbG := tbG_of (in_t4 (List.mem_of_getElem? (i := 82) (by decide +kernel))) rfl
theorem q_827 : (Jvm.Cond.methodLink "FacesOfLinesLaw" (97 : Nat) ({ cls := "FacesOfLines", name := "film", desc := "(II)I" } : Jvm.MethodName)) ∈ tbG := tbG_of (in_t4 (List.mem_of_getElem? (i := 107) (by decide +kernel))) rfl
theorem q_828 : (Jvm.Cond.instanceMethod ({ cls := "FacesOfLines", name := "film", desc := "(II)I" } : Jvm.MethodName)) ∈ tbG := tbG_of (in_t4 (List.mem_of_getElem? (i := 108) (by decide +kernel))) rfl
theorem q_829 : (Jvm.Cond.selects "FacesOfLines" ({ cls := "FacesOfLines", name := "film", desc := "(II)I" } : Jvm.MethodName) ({ cls := "FacesOfLines", name := "film", desc := "(II)I" } : Jvm.MethodName)) ∈ tbG := tbG_of (in_t4 (List.mem_of_getElem? (i := 109) (by decide +kernel))) rfl
theorem q_830 : (Jvm.Cond.code ({ cls := "FacesOfLines", name := "film", desc := "(II)I" } : Jvm.MethodName) prog_1_method_22_code (4 : Nat) (Option.some Jvm.ClassFile.FieldType.int)) ∈ tbG := tbG_of (in_t4 (List.mem_of_getElem? (i := 110) (by decide +kernel))) rfl
theorem q_839 : (Jvm.Cond.methodLink "FacesOfLinesLaw" (101 : Nat) ({ cls := "FacesOfLines", name := "image", desc := "()I" } : Jvm.MethodName)) ∈ tbG := tbG_of (in_t4 (List.mem_of_getElem? (i := 119) (by decide +kernel))) rfl
theorem q_840 : (Jvm.Cond.instanceMethod ({ cls := "FacesOfLines", name := "image", desc := "()I" } : Jvm.MethodName)) ∈ tbG := tbG_of (in_t4 (List.mem_of_getElem? (i := 120) (by decide +kernel))) rfl
theorem q_841 : (Jvm.Cond.selects "FacesOfLines" ({ cls := "FacesOfLines", name := "image", desc := "()I" } : Jvm.MethodName) ({ cls := "FacesOfLines", name := "image", desc := "()I" } : Jvm.MethodName)) ∈ tbG := tbG_of (in_t4 (List.mem_of_getElem? (i := 121) (by decide +kernel))) rfl
theorem q_842 : (Jvm.Cond.code ({ cls := "FacesOfLines", name := "image", desc := "()I" } : Jvm.MethodName) prog_1_method_23_code (1 : Nat) (Option.some Jvm.ClassFile.FieldType.int)) ∈ tbG := tbG_of (in_t4 (List.mem_of_getElem? (i := 122) (by decide +kernel))) rfl
theorem q_843 : (Jvm.Cond.methodLink "FacesOfLinesLaw" (106 : Nat) ({ cls := "FacesOfLines", name := "back", desc := "()I" } : Jvm.MethodName)) ∈ tbG := tbG_of (in_t4 (List.mem_of_getElem? (i := 123) (by decide +kernel))) rfl
theorem q_844 : (Jvm.Cond.instanceMethod ({ cls := "FacesOfLines", name := "back", desc := "()I" } : Jvm.MethodName)) ∈ tbG := tbG_of (in_t4 (List.mem_of_getElem? (i := 124) (by decide +kernel))) rfl
theorem q_845 : (Jvm.Cond.selects "FacesOfLines" ({ cls := "FacesOfLines", name := "back", desc := "()I" } : Jvm.MethodName) ({ cls := "FacesOfLines", name := "back", desc := "()I" } : Jvm.MethodName)) ∈ tbG := tbG_of (in_t4 (List.mem_of_getElem? (i := 125) (by decide +kernel))) rfl
theorem q_846 : (Jvm.Cond.code ({ cls := "FacesOfLines", name := "back", desc := "()I" } : Jvm.MethodName) prog_1_method_24_code (1 : Nat) (Option.some Jvm.ClassFile.FieldType.int)) ∈ tbG := tbG_of (in_t4 (List.mem_of_getElem? (i := 126) (by decide +kernel))) rfl
theorem q_847 : (Jvm.Cond.methodLink "FacesOfLinesLaw" (110 : Nat) ({ cls := "FacesOfLines", name := "sheet", desc := "(III)I" } : Jvm.MethodName)) ∈ tbG := tbG_of (in_t4 (List.mem_of_getElem? (i := 127) (by decide +kernel))) rfl
theorem q_848 : (Jvm.Cond.instanceMethod ({ cls := "FacesOfLines", name := "sheet", desc := "(III)I" } : Jvm.MethodName)) ∈ tbG := tbG_of (in_t4 (List.mem_of_getElem? (i := 128) (by decide +kernel))) rfl
theorem q_849 : (Jvm.Cond.selects "FacesOfLines" ({ cls := "FacesOfLines", name := "sheet", desc := "(III)I" } : Jvm.MethodName) ({ cls := "FacesOfLines", name := "sheet", desc := "(III)I" } : Jvm.MethodName)) ∈ tbG := tbG_of (in_t4 (List.mem_of_getElem? (i := 129) (by decide +kernel))) rfl
theorem q_850 : (Jvm.Cond.code ({ cls := "FacesOfLines", name := "sheet", desc := "(III)I" } : Jvm.MethodName) prog_1_method_25_code (4 : Nat) (Option.some Jvm.ClassFile.FieldType.int)) ∈ tbG := tbG_of (in_t4 (List.mem_of_getElem? (i := 130) (by decide +kernel))) rfl
theorem q_855 : (Jvm.Cond.methodLink "FacesOfLinesLaw" (114 : Nat) ({ cls := "FacesOfLines", name := "put", desc := "(III)I" } : Jvm.MethodName)) ∈ tbG := tbG_of (in_t4 (List.mem_of_getElem? (i := 135) (by decide +kernel))) rfl
theorem q_856 : (Jvm.Cond.instanceMethod ({ cls := "FacesOfLines", name := "put", desc := "(III)I" } : Jvm.MethodName)) ∈ tbG := tbG_of (in_t4 (List.mem_of_getElem? (i := 136) (by decide +kernel))) rfl
theorem q_857 : (Jvm.Cond.selects "FacesOfLines" ({ cls := "FacesOfLines", name := "put", desc := "(III)I" } : Jvm.MethodName) ({ cls := "FacesOfLines", name := "put", desc := "(III)I" } : Jvm.MethodName)) ∈ tbG := tbG_of (in_t4 (List.mem_of_getElem? (i := 137) (by decide +kernel))) rfl
theorem q_858 : (Jvm.Cond.code ({ cls := "FacesOfLines", name := "put", desc := "(III)I" } : Jvm.MethodName) prog_1_method_26_code (4 : Nat) (Option.some Jvm.ClassFile.FieldType.int)) ∈ tbG := tbG_of (in_t4 (List.mem_of_getElem? (i := 138) (by decide +kernel))) rfl
theorem q_859 : (Jvm.Cond.methodLink "FacesOfLinesLaw" (118 : Nat) ({ cls := "FacesOfLines", name := "copy", desc := "(IIIII)I" } : Jvm.MethodName)) ∈ tbG := tbG_of (in_t4 (List.mem_of_getElem? (i := 139) (by decide +kernel))) rfl
theorem q_860 : (Jvm.Cond.instanceMethod ({ cls := "FacesOfLines", name := "copy", desc := "(IIIII)I" } : Jvm.MethodName)) ∈ tbG := tbG_of (in_t4 (List.mem_of_getElem? (i := 140) (by decide +kernel))) rfl
theorem q_861 : (Jvm.Cond.selects "FacesOfLines" ({ cls := "FacesOfLines", name := "copy", desc := "(IIIII)I" } : Jvm.MethodName) ({ cls := "FacesOfLines", name := "copy", desc := "(IIIII)I" } : Jvm.MethodName)) ∈ tbG := tbG_of (in_t4 (List.mem_of_getElem? (i := 141) (by decide +kernel))) rfl
theorem q_862 : (Jvm.Cond.code ({ cls := "FacesOfLines", name := "copy", desc := "(IIIII)I" } : Jvm.MethodName) prog_1_method_27_code (6 : Nat) (Option.some Jvm.ClassFile.FieldType.int)) ∈ tbG := tbG_of (in_t4 (List.mem_of_getElem? (i := 142) (by decide +kernel))) rfl
theorem q_870 : (Jvm.Cond.methodLink "FacesOfLinesLaw" (123 : Nat) ({ cls := "FacesOfLines", name := "load", desc := "(IIII)I" } : Jvm.MethodName)) ∈ tbG := tbG_of (in_t4 (List.mem_of_getElem? (i := 150) (by decide +kernel))) rfl
theorem q_871 : (Jvm.Cond.instanceMethod ({ cls := "FacesOfLines", name := "load", desc := "(IIII)I" } : Jvm.MethodName)) ∈ tbG := tbG_of (in_t4 (List.mem_of_getElem? (i := 151) (by decide +kernel))) rfl
theorem q_872 : (Jvm.Cond.selects "FacesOfLines" ({ cls := "FacesOfLines", name := "load", desc := "(IIII)I" } : Jvm.MethodName) ({ cls := "FacesOfLines", name := "load", desc := "(IIII)I" } : Jvm.MethodName)) ∈ tbG := tbG_of (in_t4 (List.mem_of_getElem? (i := 152) (by decide +kernel))) rfl
theorem q_873 : (Jvm.Cond.code ({ cls := "FacesOfLines", name := "load", desc := "(IIII)I" } : Jvm.MethodName) prog_1_method_28_code (9 : Nat) (Option.some Jvm.ClassFile.FieldType.int)) ∈ tbG := tbG_of (in_t4 (List.mem_of_getElem? (i := 153) (by decide +kernel))) rfl
theorem q_1032 : (Jvm.Cond.methodLink "FacesOfLinesLaw" (17 : Nat) ({ cls := "FacesOfLinesModel", name := "line", desc := "(IIII)I" } : Jvm.MethodName)) ∈ tbG := tbG_of (in_t5 (List.mem_of_getElem? (i := 72) (by decide +kernel))) rfl
theorem q_1046 : (Jvm.Cond.methodLink "FacesOfLinesLaw" (22 : Nat) ({ cls := "FacesOfLinesModel", name := "drop", desc := "(I)I" } : Jvm.MethodName)) ∈ tbG := tbG_of (in_t5 (List.mem_of_getElem? (i := 86) (by decide +kernel))) rfl
theorem q_1047 : (Jvm.Cond.instanceMethod ({ cls := "FacesOfLinesModel", name := "drop", desc := "(I)I" } : Jvm.MethodName)) ∈ tbG := tbG_of (in_t5 (List.mem_of_getElem? (i := 87) (by decide +kernel))) rfl
theorem q_1048 : (Jvm.Cond.selects "FacesOfLinesModel" ({ cls := "FacesOfLinesModel", name := "drop", desc := "(I)I" } : Jvm.MethodName) ({ cls := "FacesOfLinesModel", name := "drop", desc := "(I)I" } : Jvm.MethodName)) ∈ tbG := tbG_of (in_t5 (List.mem_of_getElem? (i := 88) (by decide +kernel))) rfl
theorem q_1049 : (Jvm.Cond.code ({ cls := "FacesOfLinesModel", name := "drop", desc := "(I)I" } : Jvm.MethodName) prog_12_method_11_code (2 : Nat) (Option.some Jvm.ClassFile.FieldType.int)) ∈ tbG := tbG_of (in_t5 (List.mem_of_getElem? (i := 89) (by decide +kernel))) rfl
theorem q_1058 : (Jvm.Cond.methodLink "FacesOfLinesLaw" (26 : Nat) ({ cls := "FacesOfLinesModel", name := "move", desc := "(IIII)I" } : Jvm.MethodName)) ∈ tbG := tbG_of (in_t5 (List.mem_of_getElem? (i := 98) (by decide +kernel))) rfl
theorem q_1059 : (Jvm.Cond.instanceMethod ({ cls := "FacesOfLinesModel", name := "move", desc := "(IIII)I" } : Jvm.MethodName)) ∈ tbG := tbG_of (in_t5 (List.mem_of_getElem? (i := 99) (by decide +kernel))) rfl
theorem q_1060 : (Jvm.Cond.selects "FacesOfLinesModel" ({ cls := "FacesOfLinesModel", name := "move", desc := "(IIII)I" } : Jvm.MethodName) ({ cls := "FacesOfLinesModel", name := "move", desc := "(IIII)I" } : Jvm.MethodName)) ∈ tbG := tbG_of (in_t5 (List.mem_of_getElem? (i := 100) (by decide +kernel))) rfl
theorem q_1061 : (Jvm.Cond.code ({ cls := "FacesOfLinesModel", name := "move", desc := "(IIII)I" } : Jvm.MethodName) prog_12_method_12_code (7 : Nat) (Option.some Jvm.ClassFile.FieldType.int)) ∈ tbG := tbG_of (in_t5 (List.mem_of_getElem? (i := 101) (by decide +kernel))) rfl
theorem q_1062 : (Jvm.Cond.methodLink "FacesOfLinesLaw" (40 : Nat) ({ cls := "FacesOfLinesModel", name := "cross", desc := "(III)I" } : Jvm.MethodName)) ∈ tbG := tbG_of (in_t5 (List.mem_of_getElem? (i := 102) (by decide +kernel))) rfl
theorem q_1063 : (Jvm.Cond.instanceMethod ({ cls := "FacesOfLinesModel", name := "cross", desc := "(III)I" } : Jvm.MethodName)) ∈ tbG := tbG_of (in_t5 (List.mem_of_getElem? (i := 103) (by decide +kernel))) rfl
theorem q_1064 : (Jvm.Cond.selects "FacesOfLinesModel" ({ cls := "FacesOfLinesModel", name := "cross", desc := "(III)I" } : Jvm.MethodName) ({ cls := "FacesOfLinesModel", name := "cross", desc := "(III)I" } : Jvm.MethodName)) ∈ tbG := tbG_of (in_t5 (List.mem_of_getElem? (i := 104) (by decide +kernel))) rfl
theorem q_1065 : (Jvm.Cond.code ({ cls := "FacesOfLinesModel", name := "cross", desc := "(III)I" } : Jvm.MethodName) prog_12_method_19_code (4 : Nat) (Option.some Jvm.ClassFile.FieldType.int)) ∈ tbG := tbG_of (in_t5 (List.mem_of_getElem? (i := 105) (by decide +kernel))) rfl
theorem q_1090 : (Jvm.Cond.methodLink "FacesOfLinesLaw" (44 : Nat) ({ cls := "FacesOfLinesModel", name := "point", desc := "(II)I" } : Jvm.MethodName)) ∈ tbG := tbG_of (in_t5 (List.mem_of_getElem? (i := 130) (by decide +kernel))) rfl
theorem q_1091 : (Jvm.Cond.instanceMethod ({ cls := "FacesOfLinesModel", name := "point", desc := "(II)I" } : Jvm.MethodName)) ∈ tbG := tbG_of (in_t5 (List.mem_of_getElem? (i := 131) (by decide +kernel))) rfl
theorem q_1092 : (Jvm.Cond.selects "FacesOfLinesModel" ({ cls := "FacesOfLinesModel", name := "point", desc := "(II)I" } : Jvm.MethodName) ({ cls := "FacesOfLinesModel", name := "point", desc := "(II)I" } : Jvm.MethodName)) ∈ tbG := tbG_of (in_t5 (List.mem_of_getElem? (i := 132) (by decide +kernel))) rfl
theorem q_1093 : (Jvm.Cond.code ({ cls := "FacesOfLinesModel", name := "point", desc := "(II)I" } : Jvm.MethodName) prog_12_method_30_code (4 : Nat) (Option.some Jvm.ClassFile.FieldType.int)) ∈ tbG := tbG_of (in_t5 (List.mem_of_getElem? (i := 133) (by decide +kernel))) rfl
theorem q_1135 : (Jvm.Cond.methodLink "FacesOfLinesLaw" (31 : Nat) ({ cls := "FacesOfLinesModel", name := "told", desc := "(II)I" } : Jvm.MethodName)) ∈ tbG := tbG_of (in_t5 (List.mem_of_getElem? (i := 175) (by decide +kernel))) rfl
theorem q_1136 : (Jvm.Cond.instanceMethod ({ cls := "FacesOfLinesModel", name := "told", desc := "(II)I" } : Jvm.MethodName)) ∈ tbG := tbG_of (in_t5 (List.mem_of_getElem? (i := 176) (by decide +kernel))) rfl
theorem q_1137 : (Jvm.Cond.selects "FacesOfLinesModel" ({ cls := "FacesOfLinesModel", name := "told", desc := "(II)I" } : Jvm.MethodName) ({ cls := "FacesOfLinesModel", name := "told", desc := "(II)I" } : Jvm.MethodName)) ∈ tbG := tbG_of (in_t5 (List.mem_of_getElem? (i := 177) (by decide +kernel))) rfl
theorem q_1138 : (Jvm.Cond.code ({ cls := "FacesOfLinesModel", name := "told", desc := "(II)I" } : Jvm.MethodName) prog_12_method_34_code (4 : Nat) (Option.some Jvm.ClassFile.FieldType.int)) ∈ tbG := tbG_of (in_t5 (List.mem_of_getElem? (i := 178) (by decide +kernel))) rfl
theorem q_1159 : (Jvm.Cond.methodLink "FacesOfLinesLaw" (35 : Nat) ({ cls := "FacesOfLinesModel", name := "taken", desc := "(II)I" } : Jvm.MethodName)) ∈ tbG := tbG_of (in_t5 (List.mem_of_getElem? (i := 199) (by decide +kernel))) rfl
theorem q_1160 : (Jvm.Cond.instanceMethod ({ cls := "FacesOfLinesModel", name := "taken", desc := "(II)I" } : Jvm.MethodName)) ∈ tbG := tbG_of (in_t5 (List.mem_of_getElem? (i := 200) (by decide +kernel))) rfl
theorem q_1161 : (Jvm.Cond.selects "FacesOfLinesModel" ({ cls := "FacesOfLinesModel", name := "taken", desc := "(II)I" } : Jvm.MethodName) ({ cls := "FacesOfLinesModel", name := "taken", desc := "(II)I" } : Jvm.MethodName)) ∈ tbG := tbG_of (in_t5 (List.mem_of_getElem? (i := 201) (by decide +kernel))) rfl
theorem q_1162 : (Jvm.Cond.code ({ cls := "FacesOfLinesModel", name := "taken", desc := "(II)I" } : Jvm.MethodName) prog_12_method_35_code (4 : Nat) (Option.some Jvm.ClassFile.FieldType.int)) ∈ tbG := tbG_of (in_t5 (List.mem_of_getElem? (i := 202) (by decide +kernel))) rfl
theorem q_1163 : (Jvm.Cond.methodLink "FacesOfLinesLaw" (48 : Nat) ({ cls := "FacesOfLinesModel", name := "order", desc := "(III)I" } : Jvm.MethodName)) ∈ tbG := tbG_of (in_t5 (List.mem_of_getElem? (i := 203) (by decide +kernel))) rfl
theorem q_1164 : (Jvm.Cond.instanceMethod ({ cls := "FacesOfLinesModel", name := "order", desc := "(III)I" } : Jvm.MethodName)) ∈ tbG := tbG_of (in_t5 (List.mem_of_getElem? (i := 204) (by decide +kernel))) rfl
theorem q_1165 : (Jvm.Cond.selects "FacesOfLinesModel" ({ cls := "FacesOfLinesModel", name := "order", desc := "(III)I" } : Jvm.MethodName) ({ cls := "FacesOfLinesModel", name := "order", desc := "(III)I" } : Jvm.MethodName)) ∈ tbG := tbG_of (in_t5 (List.mem_of_getElem? (i := 205) (by decide +kernel))) rfl
theorem q_1166 : (Jvm.Cond.code ({ cls := "FacesOfLinesModel", name := "order", desc := "(III)I" } : Jvm.MethodName) prog_12_method_41_code (4 : Nat) (Option.some Jvm.ClassFile.FieldType.int)) ∈ tbG := tbG_of (in_t5 (List.mem_of_getElem? (i := 206) (by decide +kernel))) rfl
theorem q_1187 : (Jvm.Cond.methodLink "FacesOfLinesLaw" (52 : Nat) ({ cls := "FacesOfLinesModel", name := "slab", desc := "(II)I" } : Jvm.MethodName)) ∈ tbG := tbG_of (in_t5 (List.mem_of_getElem? (i := 227) (by decide +kernel))) rfl
theorem q_1188 : (Jvm.Cond.instanceMethod ({ cls := "FacesOfLinesModel", name := "slab", desc := "(II)I" } : Jvm.MethodName)) ∈ tbG := tbG_of (in_t5 (List.mem_of_getElem? (i := 228) (by decide +kernel))) rfl
theorem q_1189 : (Jvm.Cond.selects "FacesOfLinesModel" ({ cls := "FacesOfLinesModel", name := "slab", desc := "(II)I" } : Jvm.MethodName) ({ cls := "FacesOfLinesModel", name := "slab", desc := "(II)I" } : Jvm.MethodName)) ∈ tbG := tbG_of (in_t5 (List.mem_of_getElem? (i := 229) (by decide +kernel))) rfl
theorem q_1190 : (Jvm.Cond.code ({ cls := "FacesOfLinesModel", name := "slab", desc := "(II)I" } : Jvm.MethodName) prog_12_method_54_code (3 : Nat) (Option.some Jvm.ClassFile.FieldType.int)) ∈ tbG := tbG_of (in_t5 (List.mem_of_getElem? (i := 230) (by decide +kernel))) rfl
theorem q_1240 : (Jvm.Cond.methodLink "FacesOfLinesLaw" (56 : Nat) ({ cls := "FacesOfLinesModel", name := "cell", desc := "(II)I" } : Jvm.MethodName)) ∈ tbG := tbG_of (in_t6 (List.mem_of_getElem? (i := 40) (by decide +kernel))) rfl
theorem q_1241 : (Jvm.Cond.instanceMethod ({ cls := "FacesOfLinesModel", name := "cell", desc := "(II)I" } : Jvm.MethodName)) ∈ tbG := tbG_of (in_t6 (List.mem_of_getElem? (i := 41) (by decide +kernel))) rfl
theorem q_1242 : (Jvm.Cond.selects "FacesOfLinesModel" ({ cls := "FacesOfLinesModel", name := "cell", desc := "(II)I" } : Jvm.MethodName) ({ cls := "FacesOfLinesModel", name := "cell", desc := "(II)I" } : Jvm.MethodName)) ∈ tbG := tbG_of (in_t6 (List.mem_of_getElem? (i := 42) (by decide +kernel))) rfl
theorem q_1243 : (Jvm.Cond.code ({ cls := "FacesOfLinesModel", name := "cell", desc := "(II)I" } : Jvm.MethodName) prog_12_method_55_code (3 : Nat) (Option.some Jvm.ClassFile.FieldType.int)) ∈ tbG := tbG_of (in_t6 (List.mem_of_getElem? (i := 43) (by decide +kernel))) rfl
theorem q_1244 : (Jvm.Cond.methodLink "FacesOfLinesLaw" (60 : Nat) ({ cls := "FacesOfLinesModel", name := "face", desc := "(II)I" } : Jvm.MethodName)) ∈ tbG := tbG_of (in_t6 (List.mem_of_getElem? (i := 44) (by decide +kernel))) rfl
theorem q_1245 : (Jvm.Cond.instanceMethod ({ cls := "FacesOfLinesModel", name := "face", desc := "(II)I" } : Jvm.MethodName)) ∈ tbG := tbG_of (in_t6 (List.mem_of_getElem? (i := 45) (by decide +kernel))) rfl
theorem q_1246 : (Jvm.Cond.selects "FacesOfLinesModel" ({ cls := "FacesOfLinesModel", name := "face", desc := "(II)I" } : Jvm.MethodName) ({ cls := "FacesOfLinesModel", name := "face", desc := "(II)I" } : Jvm.MethodName)) ∈ tbG := tbG_of (in_t6 (List.mem_of_getElem? (i := 46) (by decide +kernel))) rfl
theorem q_1247 : (Jvm.Cond.code ({ cls := "FacesOfLinesModel", name := "face", desc := "(II)I" } : Jvm.MethodName) prog_12_method_61_code (5 : Nat) (Option.some Jvm.ClassFile.FieldType.int)) ∈ tbG := tbG_of (in_t6 (List.mem_of_getElem? (i := 47) (by decide +kernel))) rfl
theorem q_1272 : (Jvm.Cond.methodLink "FacesOfLinesLaw" (64 : Nat) ({ cls := "FacesOfLinesModel", name := "where", desc := "(III)I" } : Jvm.MethodName)) ∈ tbG := tbG_of (in_t6 (List.mem_of_getElem? (i := 72) (by decide +kernel))) rfl
theorem q_1273 : (Jvm.Cond.instanceMethod ({ cls := "FacesOfLinesModel", name := "where", desc := "(III)I" } : Jvm.MethodName)) ∈ tbG := tbG_of (in_t6 (List.mem_of_getElem? (i := 73) (by decide +kernel))) rfl
theorem q_1274 : (Jvm.Cond.selects "FacesOfLinesModel" ({ cls := "FacesOfLinesModel", name := "where", desc := "(III)I" } : Jvm.MethodName) ({ cls := "FacesOfLinesModel", name := "where", desc := "(III)I" } : Jvm.MethodName)) ∈ tbG := tbG_of (in_t6 (List.mem_of_getElem? (i := 74) (by decide +kernel))) rfl
theorem q_1275 : (Jvm.Cond.code ({ cls := "FacesOfLinesModel", name := "where", desc := "(III)I" } : Jvm.MethodName) prog_12_method_63_code (6 : Nat) (Option.some Jvm.ClassFile.FieldType.int)) ∈ tbG := tbG_of (in_t6 (List.mem_of_getElem? (i := 75) (by decide +kernel))) rfl
theorem q_1279 : (Jvm.Cond.methodLink "FacesOfLinesLaw" (68 : Nat) ({ cls := "FacesOfLinesModel", name := "on", desc := "(III)I" } : Jvm.MethodName)) ∈ tbG := tbG_of (in_t6 (List.mem_of_getElem? (i := 79) (by decide +kernel))) rfl
theorem q_1280 : (Jvm.Cond.instanceMethod ({ cls := "FacesOfLinesModel", name := "on", desc := "(III)I" } : Jvm.MethodName)) ∈ tbG := tbG_of (in_t6 (List.mem_of_getElem? (i := 80) (by decide +kernel))) rfl
theorem q_1281 : (Jvm.Cond.selects "FacesOfLinesModel" ({ cls := "FacesOfLinesModel", name := "on", desc := "(III)I" } : Jvm.MethodName) ({ cls := "FacesOfLinesModel", name := "on", desc := "(III)I" } : Jvm.MethodName)) ∈ tbG := tbG_of (in_t6 (List.mem_of_getElem? (i := 81) (by decide +kernel))) rfl
theorem q_1282 : (Jvm.Cond.code ({ cls := "FacesOfLinesModel", name := "on", desc := "(III)I" } : Jvm.MethodName) prog_12_method_64_code (4 : Nat) (Option.some Jvm.ClassFile.FieldType.int)) ∈ tbG := tbG_of (in_t6 (List.mem_of_getElem? (i := 82) (by decide +kernel))) rfl
theorem q_1283 : (Jvm.Cond.methodLink "FacesOfLinesLaw" (72 : Nat) ({ cls := "FacesOfLinesModel", name := "hops", desc := "(II)I" } : Jvm.MethodName)) ∈ tbG := tbG_of (in_t6 (List.mem_of_getElem? (i := 83) (by decide +kernel))) rfl
theorem q_1284 : (Jvm.Cond.instanceMethod ({ cls := "FacesOfLinesModel", name := "hops", desc := "(II)I" } : Jvm.MethodName)) ∈ tbG := tbG_of (in_t6 (List.mem_of_getElem? (i := 84) (by decide +kernel))) rfl
theorem q_1285 : (Jvm.Cond.selects "FacesOfLinesModel" ({ cls := "FacesOfLinesModel", name := "hops", desc := "(II)I" } : Jvm.MethodName) ({ cls := "FacesOfLinesModel", name := "hops", desc := "(II)I" } : Jvm.MethodName)) ∈ tbG := tbG_of (in_t6 (List.mem_of_getElem? (i := 85) (by decide +kernel))) rfl
theorem q_1286 : (Jvm.Cond.code ({ cls := "FacesOfLinesModel", name := "hops", desc := "(II)I" } : Jvm.MethodName) prog_12_method_65_code (6 : Nat) (Option.some Jvm.ClassFile.FieldType.int)) ∈ tbG := tbG_of (in_t6 (List.mem_of_getElem? (i := 86) (by decide +kernel))) rfl
theorem q_1287 : (Jvm.Cond.methodLink "FacesOfLinesLaw" (76 : Nat) ({ cls := "FacesOfLinesModel", name := "count", desc := "(I)I" } : Jvm.MethodName)) ∈ tbG := tbG_of (in_t6 (List.mem_of_getElem? (i := 87) (by decide +kernel))) rfl
theorem q_1288 : (Jvm.Cond.instanceMethod ({ cls := "FacesOfLinesModel", name := "count", desc := "(I)I" } : Jvm.MethodName)) ∈ tbG := tbG_of (in_t6 (List.mem_of_getElem? (i := 88) (by decide +kernel))) rfl
theorem q_1289 : (Jvm.Cond.selects "FacesOfLinesModel" ({ cls := "FacesOfLinesModel", name := "count", desc := "(I)I" } : Jvm.MethodName) ({ cls := "FacesOfLinesModel", name := "count", desc := "(I)I" } : Jvm.MethodName)) ∈ tbG := tbG_of (in_t6 (List.mem_of_getElem? (i := 89) (by decide +kernel))) rfl
theorem q_1290 : (Jvm.Cond.code ({ cls := "FacesOfLinesModel", name := "count", desc := "(I)I" } : Jvm.MethodName) prog_12_method_69_code (2 : Nat) (Option.some Jvm.ClassFile.FieldType.int)) ∈ tbG := tbG_of (in_t6 (List.mem_of_getElem? (i := 90) (by decide +kernel))) rfl
theorem q_1299 : (Jvm.Cond.methodLink "FacesOfLinesLaw" (80 : Nat) ({ cls := "FacesOfLinesModel", name := "without", desc := "(I)I" } : Jvm.MethodName)) ∈ tbG := tbG_of (in_t6 (List.mem_of_getElem? (i := 99) (by decide +kernel))) rfl
theorem q_1300 : (Jvm.Cond.instanceMethod ({ cls := "FacesOfLinesModel", name := "without", desc := "(I)I" } : Jvm.MethodName)) ∈ tbG := tbG_of (in_t6 (List.mem_of_getElem? (i := 100) (by decide +kernel))) rfl
theorem q_1301 : (Jvm.Cond.selects "FacesOfLinesModel" ({ cls := "FacesOfLinesModel", name := "without", desc := "(I)I" } : Jvm.MethodName) ({ cls := "FacesOfLinesModel", name := "without", desc := "(I)I" } : Jvm.MethodName)) ∈ tbG := tbG_of (in_t6 (List.mem_of_getElem? (i := 101) (by decide +kernel))) rfl
theorem q_1302 : (Jvm.Cond.code ({ cls := "FacesOfLinesModel", name := "without", desc := "(I)I" } : Jvm.MethodName) prog_12_method_74_code (2 : Nat) (Option.some Jvm.ClassFile.FieldType.int)) ∈ tbG := tbG_of (in_t6 (List.mem_of_getElem? (i := 102) (by decide +kernel))) rfl
theorem q_1324 : (Jvm.Cond.methodLink "FacesOfLinesLaw" (84 : Nat) ({ cls := "FacesOfLinesModel", name := "most", desc := "(I)I" } : Jvm.MethodName)) ∈ tbG := tbG_of (in_t6 (List.mem_of_getElem? (i := 124) (by decide +kernel))) rfl
theorem q_1325 : (Jvm.Cond.instanceMethod ({ cls := "FacesOfLinesModel", name := "most", desc := "(I)I" } : Jvm.MethodName)) ∈ tbG := tbG_of (in_t6 (List.mem_of_getElem? (i := 125) (by decide +kernel))) rfl
theorem q_1326 : (Jvm.Cond.selects "FacesOfLinesModel" ({ cls := "FacesOfLinesModel", name := "most", desc := "(I)I" } : Jvm.MethodName) ({ cls := "FacesOfLinesModel", name := "most", desc := "(I)I" } : Jvm.MethodName)) ∈ tbG := tbG_of (in_t6 (List.mem_of_getElem? (i := 126) (by decide +kernel))) rfl
theorem q_1327 : (Jvm.Cond.code ({ cls := "FacesOfLinesModel", name := "most", desc := "(I)I" } : Jvm.MethodName) prog_12_method_75_code (6 : Nat) (Option.some Jvm.ClassFile.FieldType.int)) ∈ tbG := tbG_of (in_t6 (List.mem_of_getElem? (i := 127) (by decide +kernel))) rfl
theorem q_1328 : (Jvm.Cond.methodLink "FacesOfLinesLaw" (88 : Nat) ({ cls := "FacesOfLinesModel", name := "drawn", desc := "(II)I" } : Jvm.MethodName)) ∈ tbG := tbG_of (in_t6 (List.mem_of_getElem? (i := 128) (by decide +kernel))) rfl
theorem q_1329 : (Jvm.Cond.instanceMethod ({ cls := "FacesOfLinesModel", name := "drawn", desc := "(II)I" } : Jvm.MethodName)) ∈ tbG := tbG_of (in_t6 (List.mem_of_getElem? (i := 129) (by decide +kernel))) rfl
theorem q_1330 : (Jvm.Cond.selects "FacesOfLinesModel" ({ cls := "FacesOfLinesModel", name := "drawn", desc := "(II)I" } : Jvm.MethodName) ({ cls := "FacesOfLinesModel", name := "drawn", desc := "(II)I" } : Jvm.MethodName)) ∈ tbG := tbG_of (in_t6 (List.mem_of_getElem? (i := 130) (by decide +kernel))) rfl
theorem q_1331 : (Jvm.Cond.code ({ cls := "FacesOfLinesModel", name := "drawn", desc := "(II)I" } : Jvm.MethodName) prog_12_method_78_code (3 : Nat) (Option.some Jvm.ClassFile.FieldType.int)) ∈ tbG := tbG_of (in_t6 (List.mem_of_getElem? (i := 131) (by decide +kernel))) rfl
theorem q_1342 : (Jvm.Cond.methodLink "FacesOfLinesLaw" (92 : Nat) ({ cls := "FacesOfLinesModel", name := "chance", desc := "(IIII)I" } : Jvm.MethodName)) ∈ tbG := tbG_of (in_t6 (List.mem_of_getElem? (i := 142) (by decide +kernel))) rfl
theorem q_1343 : (Jvm.Cond.instanceMethod ({ cls := "FacesOfLinesModel", name := "chance", desc := "(IIII)I" } : Jvm.MethodName)) ∈ tbG := tbG_of (in_t6 (List.mem_of_getElem? (i := 143) (by decide +kernel))) rfl
theorem q_1344 : (Jvm.Cond.selects "FacesOfLinesModel" ({ cls := "FacesOfLinesModel", name := "chance", desc := "(IIII)I" } : Jvm.MethodName) ({ cls := "FacesOfLinesModel", name := "chance", desc := "(IIII)I" } : Jvm.MethodName)) ∈ tbG := tbG_of (in_t6 (List.mem_of_getElem? (i := 144) (by decide +kernel))) rfl
theorem q_1345 : (Jvm.Cond.code ({ cls := "FacesOfLinesModel", name := "chance", desc := "(IIII)I" } : Jvm.MethodName) prog_12_method_79_code (7 : Nat) (Option.some Jvm.ClassFile.FieldType.int)) ∈ tbG := tbG_of (in_t6 (List.mem_of_getElem? (i := 145) (by decide +kernel))) rfl
theorem q_1346 : (Jvm.Cond.methodLink "FacesOfLinesLaw" (96 : Nat) ({ cls := "FacesOfLinesModel", name := "tells", desc := "(III)I" } : Jvm.MethodName)) ∈ tbG := tbG_of (in_t6 (List.mem_of_getElem? (i := 146) (by decide +kernel))) rfl
theorem q_1347 : (Jvm.Cond.instanceMethod ({ cls := "FacesOfLinesModel", name := "tells", desc := "(III)I" } : Jvm.MethodName)) ∈ tbG := tbG_of (in_t6 (List.mem_of_getElem? (i := 147) (by decide +kernel))) rfl
theorem q_1348 : (Jvm.Cond.selects "FacesOfLinesModel" ({ cls := "FacesOfLinesModel", name := "tells", desc := "(III)I" } : Jvm.MethodName) ({ cls := "FacesOfLinesModel", name := "tells", desc := "(III)I" } : Jvm.MethodName)) ∈ tbG := tbG_of (in_t6 (List.mem_of_getElem? (i := 148) (by decide +kernel))) rfl
theorem q_1349 : (Jvm.Cond.code ({ cls := "FacesOfLinesModel", name := "tells", desc := "(III)I" } : Jvm.MethodName) prog_12_method_81_code (8 : Nat) (Option.some Jvm.ClassFile.FieldType.int)) ∈ tbG := tbG_of (in_t6 (List.mem_of_getElem? (i := 149) (by decide +kernel))) rfl
theorem q_1357 : (Jvm.Cond.methodLink "FacesOfLinesLaw" (100 : Nat) ({ cls := "FacesOfLinesModel", name := "film", desc := "(II)I" } : Jvm.MethodName)) ∈ tbG := tbG_of (in_t6 (List.mem_of_getElem? (i := 157) (by decide +kernel))) rfl
theorem q_1358 : (Jvm.Cond.instanceMethod ({ cls := "FacesOfLinesModel", name := "film", desc := "(II)I" } : Jvm.MethodName)) ∈ tbG := tbG_of (in_t6 (List.mem_of_getElem? (i := 158) (by decide +kernel))) rfl
theorem q_1359 : (Jvm.Cond.selects "FacesOfLinesModel" ({ cls := "FacesOfLinesModel", name := "film", desc := "(II)I" } : Jvm.MethodName) ({ cls := "FacesOfLinesModel", name := "film", desc := "(II)I" } : Jvm.MethodName)) ∈ tbG := tbG_of (in_t6 (List.mem_of_getElem? (i := 159) (by decide +kernel))) rfl
theorem q_1360 : (Jvm.Cond.code ({ cls := "FacesOfLinesModel", name := "film", desc := "(II)I" } : Jvm.MethodName) prog_12_method_82_code (4 : Nat) (Option.some Jvm.ClassFile.FieldType.int)) ∈ tbG := tbG_of (in_t6 (List.mem_of_getElem? (i := 160) (by decide +kernel))) rfl
theorem q_1361 : (Jvm.Cond.methodLink "FacesOfLinesLaw" (105 : Nat) ({ cls := "FacesOfLinesModel", name := "image", desc := "()I" } : Jvm.MethodName)) ∈ tbG := tbG_of (in_t6 (List.mem_of_getElem? (i := 161) (by decide +kernel))) rfl
theorem q_1362 : (Jvm.Cond.instanceMethod ({ cls := "FacesOfLinesModel", name := "image", desc := "()I" } : Jvm.MethodName)) ∈ tbG := tbG_of (in_t6 (List.mem_of_getElem? (i := 162) (by decide +kernel))) rfl
theorem q_1363 : (Jvm.Cond.selects "FacesOfLinesModel" ({ cls := "FacesOfLinesModel", name := "image", desc := "()I" } : Jvm.MethodName) ({ cls := "FacesOfLinesModel", name := "image", desc := "()I" } : Jvm.MethodName)) ∈ tbG := tbG_of (in_t6 (List.mem_of_getElem? (i := 163) (by decide +kernel))) rfl
theorem q_1364 : (Jvm.Cond.code ({ cls := "FacesOfLinesModel", name := "image", desc := "()I" } : Jvm.MethodName) prog_12_method_83_code (1 : Nat) (Option.some Jvm.ClassFile.FieldType.int)) ∈ tbG := tbG_of (in_t6 (List.mem_of_getElem? (i := 164) (by decide +kernel))) rfl
theorem q_1365 : (Jvm.Cond.methodLink "FacesOfLinesLaw" (109 : Nat) ({ cls := "FacesOfLinesModel", name := "back", desc := "()I" } : Jvm.MethodName)) ∈ tbG := tbG_of (in_t6 (List.mem_of_getElem? (i := 165) (by decide +kernel))) rfl
theorem q_1366 : (Jvm.Cond.instanceMethod ({ cls := "FacesOfLinesModel", name := "back", desc := "()I" } : Jvm.MethodName)) ∈ tbG := tbG_of (in_t6 (List.mem_of_getElem? (i := 166) (by decide +kernel))) rfl
theorem q_1367 : (Jvm.Cond.selects "FacesOfLinesModel" ({ cls := "FacesOfLinesModel", name := "back", desc := "()I" } : Jvm.MethodName) ({ cls := "FacesOfLinesModel", name := "back", desc := "()I" } : Jvm.MethodName)) ∈ tbG := tbG_of (in_t6 (List.mem_of_getElem? (i := 167) (by decide +kernel))) rfl
theorem q_1368 : (Jvm.Cond.code ({ cls := "FacesOfLinesModel", name := "back", desc := "()I" } : Jvm.MethodName) prog_12_method_84_code (1 : Nat) (Option.some Jvm.ClassFile.FieldType.int)) ∈ tbG := tbG_of (in_t6 (List.mem_of_getElem? (i := 168) (by decide +kernel))) rfl
theorem q_1369 : (Jvm.Cond.methodLink "FacesOfLinesLaw" (113 : Nat) ({ cls := "FacesOfLinesModel", name := "sheet", desc := "(III)I" } : Jvm.MethodName)) ∈ tbG := tbG_of (in_t6 (List.mem_of_getElem? (i := 169) (by decide +kernel))) rfl
theorem q_1370 : (Jvm.Cond.instanceMethod ({ cls := "FacesOfLinesModel", name := "sheet", desc := "(III)I" } : Jvm.MethodName)) ∈ tbG := tbG_of (in_t6 (List.mem_of_getElem? (i := 170) (by decide +kernel))) rfl
theorem q_1371 : (Jvm.Cond.selects "FacesOfLinesModel" ({ cls := "FacesOfLinesModel", name := "sheet", desc := "(III)I" } : Jvm.MethodName) ({ cls := "FacesOfLinesModel", name := "sheet", desc := "(III)I" } : Jvm.MethodName)) ∈ tbG := tbG_of (in_t6 (List.mem_of_getElem? (i := 171) (by decide +kernel))) rfl
theorem q_1372 : (Jvm.Cond.code ({ cls := "FacesOfLinesModel", name := "sheet", desc := "(III)I" } : Jvm.MethodName) prog_12_method_86_code (5 : Nat) (Option.some Jvm.ClassFile.FieldType.int)) ∈ tbG := tbG_of (in_t6 (List.mem_of_getElem? (i := 172) (by decide +kernel))) rfl
theorem q_1373 : (Jvm.Cond.methodLink "FacesOfLinesLaw" (117 : Nat) ({ cls := "FacesOfLinesModel", name := "put", desc := "(III)I" } : Jvm.MethodName)) ∈ tbG := tbG_of (in_t6 (List.mem_of_getElem? (i := 173) (by decide +kernel))) rfl
theorem q_1374 : (Jvm.Cond.instanceMethod ({ cls := "FacesOfLinesModel", name := "put", desc := "(III)I" } : Jvm.MethodName)) ∈ tbG := tbG_of (in_t6 (List.mem_of_getElem? (i := 174) (by decide +kernel))) rfl
theorem q_1375 : (Jvm.Cond.selects "FacesOfLinesModel" ({ cls := "FacesOfLinesModel", name := "put", desc := "(III)I" } : Jvm.MethodName) ({ cls := "FacesOfLinesModel", name := "put", desc := "(III)I" } : Jvm.MethodName)) ∈ tbG := tbG_of (in_t6 (List.mem_of_getElem? (i := 175) (by decide +kernel))) rfl
theorem q_1376 : (Jvm.Cond.code ({ cls := "FacesOfLinesModel", name := "put", desc := "(III)I" } : Jvm.MethodName) prog_12_method_87_code (4 : Nat) (Option.some Jvm.ClassFile.FieldType.int)) ∈ tbG := tbG_of (in_t6 (List.mem_of_getElem? (i := 176) (by decide +kernel))) rfl
theorem q_1377 : (Jvm.Cond.methodLink "FacesOfLinesLaw" (122 : Nat) ({ cls := "FacesOfLinesModel", name := "copy", desc := "(IIIII)I" } : Jvm.MethodName)) ∈ tbG := tbG_of (in_t6 (List.mem_of_getElem? (i := 177) (by decide +kernel))) rfl
theorem q_1378 : (Jvm.Cond.instanceMethod ({ cls := "FacesOfLinesModel", name := "copy", desc := "(IIIII)I" } : Jvm.MethodName)) ∈ tbG := tbG_of (in_t6 (List.mem_of_getElem? (i := 178) (by decide +kernel))) rfl
theorem q_1379 : (Jvm.Cond.selects "FacesOfLinesModel" ({ cls := "FacesOfLinesModel", name := "copy", desc := "(IIIII)I" } : Jvm.MethodName) ({ cls := "FacesOfLinesModel", name := "copy", desc := "(IIIII)I" } : Jvm.MethodName)) ∈ tbG := tbG_of (in_t6 (List.mem_of_getElem? (i := 179) (by decide +kernel))) rfl
theorem q_1380 : (Jvm.Cond.code ({ cls := "FacesOfLinesModel", name := "copy", desc := "(IIIII)I" } : Jvm.MethodName) prog_12_method_88_code (6 : Nat) (Option.some Jvm.ClassFile.FieldType.int)) ∈ tbG := tbG_of (in_t6 (List.mem_of_getElem? (i := 180) (by decide +kernel))) rfl
theorem q_1381 : (Jvm.Cond.methodLink "FacesOfLinesLaw" (126 : Nat) ({ cls := "FacesOfLinesModel", name := "load", desc := "(IIII)I" } : Jvm.MethodName)) ∈ tbG := tbG_of (in_t6 (List.mem_of_getElem? (i := 181) (by decide +kernel))) rfl
theorem q_1382 : (Jvm.Cond.instanceMethod ({ cls := "FacesOfLinesModel", name := "load", desc := "(IIII)I" } : Jvm.MethodName)) ∈ tbG := tbG_of (in_t6 (List.mem_of_getElem? (i := 182) (by decide +kernel))) rfl
theorem q_1383 : (Jvm.Cond.selects "FacesOfLinesModel" ({ cls := "FacesOfLinesModel", name := "load", desc := "(IIII)I" } : Jvm.MethodName) ({ cls := "FacesOfLinesModel", name := "load", desc := "(IIII)I" } : Jvm.MethodName)) ∈ tbG := tbG_of (in_t6 (List.mem_of_getElem? (i := 183) (by decide +kernel))) rfl
theorem q_1384 : (Jvm.Cond.code ({ cls := "FacesOfLinesModel", name := "load", desc := "(IIII)I" } : Jvm.MethodName) prog_12_method_89_code (8 : Nat) (Option.some Jvm.ClassFile.FieldType.int)) ∈ tbG := tbG_of (in_t6 (List.mem_of_getElem? (i := 184) (by decide +kernel))) rfl
theorem M_X9_drop : MV mX9_drop 1 := ⟨q_424, q_1, ⟨by decide +kernel, by decide +kernel⟩, by decide +kernel, q_422, q_423, by decide⟩
theorem M_X10_drop : MV mX10_drop 1 := ⟨q_1049, q_11, ⟨by decide +kernel, by decide +kernel⟩, by decide +kernel, q_1047, q_1048, by decide⟩
theorem M_X9_move : MV mX9_move 4 := ⟨q_433, q_1, ⟨by decide +kernel, by decide +kernel⟩, by decide +kernel, q_431, q_432, by decide⟩
theorem M_X10_move : MV mX10_move 4 := ⟨q_1061, q_11, ⟨by decide +kernel, by decide +kernel⟩, by decide +kernel, q_1059, q_1060, by decide⟩
theorem M_X9_told : MV mX9_told 2 := ⟨q_438, q_1, ⟨by decide +kernel, by decide +kernel⟩, by decide +kernel, q_436, q_437, by decide⟩
theorem M_X10_told : MV mX10_told 2 := ⟨q_1138, q_11, ⟨by decide +kernel, by decide +kernel⟩, by decide +kernel, q_1136, q_1137, by decide⟩
theorem M_X9_taken : MV mX9_taken 2 := ⟨q_573, q_1, ⟨by decide +kernel, by decide +kernel⟩, by decide +kernel, q_571, q_572, by decide⟩
theorem M_X10_taken : MV mX10_taken 2 := ⟨q_1162, q_11, ⟨by decide +kernel, by decide +kernel⟩, by decide +kernel, q_1160, q_1161, by decide⟩
theorem M_X9_cross : MV mX9_cross 3 := ⟨q_578, q_1, ⟨by decide +kernel, by decide +kernel⟩, by decide +kernel, q_576, q_577, by decide⟩
theorem M_X10_cross : MV mX10_cross 3 := ⟨q_1065, q_11, ⟨by decide +kernel, by decide +kernel⟩, by decide +kernel, q_1063, q_1064, by decide⟩
theorem M_X9_point : MV mX9_point 2 := ⟨q_587, q_1, ⟨by decide +kernel, by decide +kernel⟩, by decide +kernel, q_585, q_586, by decide⟩
theorem M_X10_point : MV mX10_point 2 := ⟨q_1093, q_11, ⟨by decide +kernel, by decide +kernel⟩, by decide +kernel, q_1091, q_1092, by decide⟩
theorem M_X9_order : MV mX9_order 3 := ⟨q_595, q_1, ⟨by decide +kernel, by decide +kernel⟩, by decide +kernel, q_593, q_594, by decide⟩
theorem M_X10_order : MV mX10_order 3 := ⟨q_1166, q_11, ⟨by decide +kernel, by decide +kernel⟩, by decide +kernel, q_1164, q_1165, by decide⟩
theorem M_X9_slab : MV mX9_slab 2 := ⟨q_620, q_1, ⟨by decide +kernel, by decide +kernel⟩, by decide +kernel, q_618, q_619, by decide⟩
theorem M_X10_slab : MV mX10_slab 2 := ⟨q_1190, q_11, ⟨by decide +kernel, by decide +kernel⟩, by decide +kernel, q_1188, q_1189, by decide⟩
theorem M_X9_cell : MV mX9_cell 2 := ⟨q_712, q_1, ⟨by decide +kernel, by decide +kernel⟩, by decide +kernel, q_710, q_711, by decide⟩
theorem M_X10_cell : MV mX10_cell 2 := ⟨q_1243, q_11, ⟨by decide +kernel, by decide +kernel⟩, by decide +kernel, q_1241, q_1242, by decide⟩
theorem M_X9_face : MV mX9_face 2 := ⟨q_717, q_1, ⟨by decide +kernel, by decide +kernel⟩, by decide +kernel, q_715, q_716, by decide⟩
theorem M_X10_face : MV mX10_face 2 := ⟨q_1247, q_11, ⟨by decide +kernel, by decide +kernel⟩, by decide +kernel, q_1245, q_1246, by decide⟩
theorem M_X9_where : MV mX9_where 3 := ⟨q_727, q_1, ⟨by decide +kernel, by decide +kernel⟩, by decide +kernel, q_725, q_726, by decide⟩
theorem M_X10_where : MV mX10_where 3 := ⟨q_1275, q_11, ⟨by decide +kernel, by decide +kernel⟩, by decide +kernel, q_1273, q_1274, by decide⟩
theorem M_X9_on : MV mX9_on 3 := ⟨q_746, q_1, ⟨by decide +kernel, by decide +kernel⟩, by decide +kernel, q_744, q_745, by decide⟩
theorem M_X10_on : MV mX10_on 3 := ⟨q_1282, q_11, ⟨by decide +kernel, by decide +kernel⟩, by decide +kernel, q_1280, q_1281, by decide⟩
theorem M_X9_hops : MV mX9_hops 2 := ⟨q_750, q_1, ⟨by decide +kernel, by decide +kernel⟩, by decide +kernel, q_748, q_749, by decide⟩
theorem M_X10_hops : MV mX10_hops 2 := ⟨q_1286, q_11, ⟨by decide +kernel, by decide +kernel⟩, by decide +kernel, q_1284, q_1285, by decide⟩
theorem M_X9_count : MV mX9_count 1 := ⟨q_758, q_1, ⟨by decide +kernel, by decide +kernel⟩, by decide +kernel, q_756, q_757, by decide⟩
theorem M_X10_count : MV mX10_count 1 := ⟨q_1290, q_11, ⟨by decide +kernel, by decide +kernel⟩, by decide +kernel, q_1288, q_1289, by decide⟩
theorem M_X9_without : MV mX9_without 1 := ⟨q_762, q_1, ⟨by decide +kernel, by decide +kernel⟩, by decide +kernel, q_760, q_761, by decide⟩
theorem M_X10_without : MV mX10_without 1 := ⟨q_1302, q_11, ⟨by decide +kernel, by decide +kernel⟩, by decide +kernel, q_1300, q_1301, by decide⟩
theorem M_X9_most : MV mX9_most 1 := ⟨q_778, q_1, ⟨by decide +kernel, by decide +kernel⟩, by decide +kernel, q_776, q_777, by decide⟩
theorem M_X10_most : MV mX10_most 1 := ⟨q_1327, q_11, ⟨by decide +kernel, by decide +kernel⟩, by decide +kernel, q_1325, q_1326, by decide⟩
theorem M_X9_drawn : MV mX9_drawn 2 := ⟨q_782, q_1, ⟨by decide +kernel, by decide +kernel⟩, by decide +kernel, q_780, q_781, by decide⟩
theorem M_X10_drawn : MV mX10_drawn 2 := ⟨q_1331, q_11, ⟨by decide +kernel, by decide +kernel⟩, by decide +kernel, q_1329, q_1330, by decide⟩
theorem M_X9_chance : MV mX9_chance 4 := ⟨q_797, q_1, ⟨by decide +kernel, by decide +kernel⟩, by decide +kernel, q_795, q_796, by decide⟩
theorem M_X10_chance : MV mX10_chance 4 := ⟨q_1345, q_11, ⟨by decide +kernel, by decide +kernel⟩, by decide +kernel, q_1343, q_1344, by decide⟩
theorem M_X9_tells : MV mX9_tells 3 := ⟨q_802, q_1, ⟨by decide +kernel, by decide +kernel⟩, by decide +kernel, q_800, q_801, by decide⟩
theorem M_X10_tells : MV mX10_tells 3 := ⟨q_1349, q_11, ⟨by decide +kernel, by decide +kernel⟩, by decide +kernel, q_1347, q_1348, by decide⟩
theorem M_X9_film : MV mX9_film 2 := ⟨q_830, q_1, ⟨by decide +kernel, by decide +kernel⟩, by decide +kernel, q_828, q_829, by decide⟩
theorem M_X10_film : MV mX10_film 2 := ⟨q_1360, q_11, ⟨by decide +kernel, by decide +kernel⟩, by decide +kernel, q_1358, q_1359, by decide⟩
theorem M_X9_image : MV mX9_image 0 := ⟨q_842, q_1, ⟨by decide +kernel, by decide +kernel⟩, by decide +kernel, q_840, q_841, by decide⟩
theorem M_X10_image : MV mX10_image 0 := ⟨q_1364, q_11, ⟨by decide +kernel, by decide +kernel⟩, by decide +kernel, q_1362, q_1363, by decide⟩
theorem M_X9_back : MV mX9_back 0 := ⟨q_846, q_1, ⟨by decide +kernel, by decide +kernel⟩, by decide +kernel, q_844, q_845, by decide⟩
theorem M_X10_back : MV mX10_back 0 := ⟨q_1368, q_11, ⟨by decide +kernel, by decide +kernel⟩, by decide +kernel, q_1366, q_1367, by decide⟩
theorem M_X9_sheet : MV mX9_sheet 3 := ⟨q_850, q_1, ⟨by decide +kernel, by decide +kernel⟩, by decide +kernel, q_848, q_849, by decide⟩
theorem M_X10_sheet : MV mX10_sheet 3 := ⟨q_1372, q_11, ⟨by decide +kernel, by decide +kernel⟩, by decide +kernel, q_1370, q_1371, by decide⟩
theorem M_X9_put : MV mX9_put 3 := ⟨q_858, q_1, ⟨by decide +kernel, by decide +kernel⟩, by decide +kernel, q_856, q_857, by decide⟩
theorem M_X10_put : MV mX10_put 3 := ⟨q_1376, q_11, ⟨by decide +kernel, by decide +kernel⟩, by decide +kernel, q_1374, q_1375, by decide⟩
theorem M_X9_copy : MV mX9_copy 5 := ⟨q_862, q_1, ⟨by decide +kernel, by decide +kernel⟩, by decide +kernel, q_860, q_861, by decide⟩
theorem M_X10_copy : MV mX10_copy 5 := ⟨q_1380, q_11, ⟨by decide +kernel, by decide +kernel⟩, by decide +kernel, q_1378, q_1379, by decide⟩
theorem M_X9_load : MV mX9_load 4 := ⟨q_873, q_1, ⟨by decide +kernel, by decide +kernel⟩, by decide +kernel, q_871, q_872, by decide⟩
theorem M_X10_load : MV mX10_load 4 := ⟨q_1384, q_11, ⟨by decide +kernel, by decide +kernel⟩, by decide +kernel, q_1382, q_1383, by decide⟩
def mL (L : Nat) (xs : Nat → Int) : Mth := (yL_law, cL_law, 4, some .boolean, some (L, xs))
def w_L_law (L : Nat) (xs : Nat → Int) (s : Sg) (post : Int → Sg → Prop) : Prop :=
  lp_1s (fun (again_3 : Int → Sg → Prop) (v3_1 : Int) (s_2 : Sg) => (w32 ((L : Int) - 6) < v3_1 → post 1 s_2) ∧ (¬ w32 ((L : Int) - 6) < v3_1 → (0 ≤ v3_1 ∧ v3_1 < (L : Int)) ∧ (jn (fun (K_6 : Sg → Prop) => (iand (xs v3_1.toNat) 31 = 0 → (0 ≤ w32 (v3_1 + 1) ∧ w32 (v3_1 + 1) < (L : Int)) ∧ ((0 ≤ w32 (v3_1 + 2) ∧ w32 (v3_1 + 2) < (L : Int)) ∧ ((0 ≤ w32 (v3_1 + 3) ∧ w32 (v3_1 + 3) < (L : Int)) ∧ ((0 ≤ w32 (v3_1 + 4) ∧ w32 (v3_1 + 4) < (L : Int)) ∧ (w_X9_line s_2 (xs (w32 (v3_1 + 1)).toNat) (xs (w32 (v3_1 + 2)).toNat) (xs (w32 (v3_1 + 3)).toNat) (xs (w32 (v3_1 + 4)).toNat) (fun r_12 s_13 => (0 ≤ w32 (v3_1 + 1) ∧ w32 (v3_1 + 1) < (L : Int)) ∧ ((0 ≤ w32 (v3_1 + 2) ∧ w32 (v3_1 + 2) < (L : Int)) ∧ ((0 ≤ w32 (v3_1 + 3) ∧ w32 (v3_1 + 3) < (L : Int)) ∧ ((0 ≤ w32 (v3_1 + 4) ∧ w32 (v3_1 + 4) < (L : Int)) ∧ (w_X10_line s_13 (xs (w32 (v3_1 + 1)).toNat) (xs (w32 (v3_1 + 2)).toNat) (xs (w32 (v3_1 + 3)).toNat) (xs (w32 (v3_1 + 4)).toNat) (fun r_18 s_19 => (r_12 = r_18 → K_6 s_19) ∧ (¬ r_12 = r_18 → post 0 s_19)))))))))))) ∧ (iand (xs v3_1.toNat) 31 = 1 → (0 ≤ w32 (v3_1 + 1) ∧ w32 (v3_1 + 1) < (L : Int)) ∧ (w_X9_drop s_2 (xs (w32 (v3_1 + 1)).toNat) (fun r_21 s_22 => (0 ≤ w32 (v3_1 + 1) ∧ w32 (v3_1 + 1) < (L : Int)) ∧ (w_X10_drop s_22 (xs (w32 (v3_1 + 1)).toNat) (fun r_24 s_25 => (r_21 = r_24 → K_6 s_25) ∧ (¬ r_21 = r_24 → post 0 s_25)))))) ∧ (iand (xs v3_1.toNat) 31 = 2 → (0 ≤ w32 (v3_1 + 1) ∧ w32 (v3_1 + 1) < (L : Int)) ∧ ((0 ≤ w32 (v3_1 + 2) ∧ w32 (v3_1 + 2) < (L : Int)) ∧ ((0 ≤ w32 (v3_1 + 3) ∧ w32 (v3_1 + 3) < (L : Int)) ∧ ((0 ≤ w32 (v3_1 + 4) ∧ w32 (v3_1 + 4) < (L : Int)) ∧ (w_X9_move s_2 (xs (w32 (v3_1 + 1)).toNat) (xs (w32 (v3_1 + 2)).toNat) (xs (w32 (v3_1 + 3)).toNat) (xs (w32 (v3_1 + 4)).toNat) (fun r_30 s_31 => (0 ≤ w32 (v3_1 + 1) ∧ w32 (v3_1 + 1) < (L : Int)) ∧ ((0 ≤ w32 (v3_1 + 2) ∧ w32 (v3_1 + 2) < (L : Int)) ∧ ((0 ≤ w32 (v3_1 + 3) ∧ w32 (v3_1 + 3) < (L : Int)) ∧ ((0 ≤ w32 (v3_1 + 4) ∧ w32 (v3_1 + 4) < (L : Int)) ∧ (w_X10_move s_31 (xs (w32 (v3_1 + 1)).toNat) (xs (w32 (v3_1 + 2)).toNat) (xs (w32 (v3_1 + 3)).toNat) (xs (w32 (v3_1 + 4)).toNat) (fun r_36 s_37 => (r_30 = r_36 → K_6 s_37) ∧ (¬ r_30 = r_36 → post 0 s_37)))))))))))) ∧ (iand (xs v3_1.toNat) 31 = 3 → (0 ≤ w32 (v3_1 + 1) ∧ w32 (v3_1 + 1) < (L : Int)) ∧ ((0 ≤ w32 (v3_1 + 2) ∧ w32 (v3_1 + 2) < (L : Int)) ∧ (w_X9_told s_2 (xs (w32 (v3_1 + 1)).toNat) (xs (w32 (v3_1 + 2)).toNat) (fun r_40 s_41 => (0 ≤ w32 (v3_1 + 1) ∧ w32 (v3_1 + 1) < (L : Int)) ∧ ((0 ≤ w32 (v3_1 + 2) ∧ w32 (v3_1 + 2) < (L : Int)) ∧ (w_X10_told s_41 (xs (w32 (v3_1 + 1)).toNat) (xs (w32 (v3_1 + 2)).toNat) (fun r_44 s_45 => (r_40 = r_44 → K_6 s_45) ∧ (¬ r_40 = r_44 → post 0 s_45)))))))) ∧ (iand (xs v3_1.toNat) 31 = 4 → (0 ≤ w32 (v3_1 + 1) ∧ w32 (v3_1 + 1) < (L : Int)) ∧ ((0 ≤ w32 (v3_1 + 2) ∧ w32 (v3_1 + 2) < (L : Int)) ∧ (w_X9_taken s_2 (xs (w32 (v3_1 + 1)).toNat) (xs (w32 (v3_1 + 2)).toNat) (fun r_48 => (0 ≤ w32 (v3_1 + 1) ∧ w32 (v3_1 + 1) < (L : Int)) ∧ ((0 ≤ w32 (v3_1 + 2) ∧ w32 (v3_1 + 2) < (L : Int)) ∧ (w_X10_taken s_2 (xs (w32 (v3_1 + 1)).toNat) (xs (w32 (v3_1 + 2)).toNat) (fun r_51 => (r_48 = r_51 → K_6 s_2) ∧ (¬ r_48 = r_51 → post 0 s_2)))))))) ∧ (iand (xs v3_1.toNat) 31 = 5 → (0 ≤ w32 (v3_1 + 1) ∧ w32 (v3_1 + 1) < (L : Int)) ∧ ((0 ≤ w32 (v3_1 + 2) ∧ w32 (v3_1 + 2) < (L : Int)) ∧ ((0 ≤ w32 (v3_1 + 3) ∧ w32 (v3_1 + 3) < (L : Int)) ∧ (w_X9_cross s_2 (xs (w32 (v3_1 + 1)).toNat) (xs (w32 (v3_1 + 2)).toNat) (xs (w32 (v3_1 + 3)).toNat) (fun r_55 s_56 => (0 ≤ w32 (v3_1 + 1) ∧ w32 (v3_1 + 1) < (L : Int)) ∧ ((0 ≤ w32 (v3_1 + 2) ∧ w32 (v3_1 + 2) < (L : Int)) ∧ ((0 ≤ w32 (v3_1 + 3) ∧ w32 (v3_1 + 3) < (L : Int)) ∧ (w_X10_cross s_56 (xs (w32 (v3_1 + 1)).toNat) (xs (w32 (v3_1 + 2)).toNat) (xs (w32 (v3_1 + 3)).toNat) (fun r_60 s_61 => (r_55 = r_60 → K_6 s_61) ∧ (¬ r_55 = r_60 → post 0 s_61)))))))))) ∧ (iand (xs v3_1.toNat) 31 = 6 → (0 ≤ w32 (v3_1 + 1) ∧ w32 (v3_1 + 1) < (L : Int)) ∧ ((0 ≤ w32 (v3_1 + 2) ∧ w32 (v3_1 + 2) < (L : Int)) ∧ (w_X9_point s_2 (xs (w32 (v3_1 + 1)).toNat) (xs (w32 (v3_1 + 2)).toNat) (fun r_64 s_65 => (0 ≤ w32 (v3_1 + 1) ∧ w32 (v3_1 + 1) < (L : Int)) ∧ ((0 ≤ w32 (v3_1 + 2) ∧ w32 (v3_1 + 2) < (L : Int)) ∧ (w_X10_point s_65 (xs (w32 (v3_1 + 1)).toNat) (xs (w32 (v3_1 + 2)).toNat) (fun r_68 s_69 => (r_64 = r_68 → K_6 s_69) ∧ (¬ r_64 = r_68 → post 0 s_69)))))))) ∧ (iand (xs v3_1.toNat) 31 = 7 → (0 ≤ w32 (v3_1 + 1) ∧ w32 (v3_1 + 1) < (L : Int)) ∧ ((0 ≤ w32 (v3_1 + 2) ∧ w32 (v3_1 + 2) < (L : Int)) ∧ ((0 ≤ w32 (v3_1 + 3) ∧ w32 (v3_1 + 3) < (L : Int)) ∧ (w_X9_order s_2 (xs (w32 (v3_1 + 1)).toNat) (xs (w32 (v3_1 + 2)).toNat) (xs (w32 (v3_1 + 3)).toNat) (fun r_73 s_74 => (0 ≤ w32 (v3_1 + 1) ∧ w32 (v3_1 + 1) < (L : Int)) ∧ ((0 ≤ w32 (v3_1 + 2) ∧ w32 (v3_1 + 2) < (L : Int)) ∧ ((0 ≤ w32 (v3_1 + 3) ∧ w32 (v3_1 + 3) < (L : Int)) ∧ (w_X10_order s_74 (xs (w32 (v3_1 + 1)).toNat) (xs (w32 (v3_1 + 2)).toNat) (xs (w32 (v3_1 + 3)).toNat) (fun r_78 s_79 => (r_73 = r_78 → K_6 s_79) ∧ (¬ r_73 = r_78 → post 0 s_79)))))))))) ∧ (iand (xs v3_1.toNat) 31 = 8 → (0 ≤ w32 (v3_1 + 1) ∧ w32 (v3_1 + 1) < (L : Int)) ∧ ((0 ≤ w32 (v3_1 + 2) ∧ w32 (v3_1 + 2) < (L : Int)) ∧ (w_X9_slab s_2 (xs (w32 (v3_1 + 1)).toNat) (xs (w32 (v3_1 + 2)).toNat) (fun r_82 s_83 => (0 ≤ w32 (v3_1 + 1) ∧ w32 (v3_1 + 1) < (L : Int)) ∧ ((0 ≤ w32 (v3_1 + 2) ∧ w32 (v3_1 + 2) < (L : Int)) ∧ (w_X10_slab s_83 (xs (w32 (v3_1 + 1)).toNat) (xs (w32 (v3_1 + 2)).toNat) (fun r_86 s_87 => (r_82 = r_86 → K_6 s_87) ∧ (¬ r_82 = r_86 → post 0 s_87)))))))) ∧ (iand (xs v3_1.toNat) 31 = 9 → (0 ≤ w32 (v3_1 + 1) ∧ w32 (v3_1 + 1) < (L : Int)) ∧ ((0 ≤ w32 (v3_1 + 2) ∧ w32 (v3_1 + 2) < (L : Int)) ∧ (w_X9_cell s_2 (xs (w32 (v3_1 + 1)).toNat) (xs (w32 (v3_1 + 2)).toNat) (fun r_90 s_91 => (0 ≤ w32 (v3_1 + 1) ∧ w32 (v3_1 + 1) < (L : Int)) ∧ ((0 ≤ w32 (v3_1 + 2) ∧ w32 (v3_1 + 2) < (L : Int)) ∧ (w_X10_cell s_91 (xs (w32 (v3_1 + 1)).toNat) (xs (w32 (v3_1 + 2)).toNat) (fun r_94 s_95 => (r_90 = r_94 → K_6 s_95) ∧ (¬ r_90 = r_94 → post 0 s_95)))))))) ∧ (iand (xs v3_1.toNat) 31 = 10 → (0 ≤ w32 (v3_1 + 1) ∧ w32 (v3_1 + 1) < (L : Int)) ∧ ((0 ≤ w32 (v3_1 + 2) ∧ w32 (v3_1 + 2) < (L : Int)) ∧ (w_X9_face s_2 (xs (w32 (v3_1 + 1)).toNat) (xs (w32 (v3_1 + 2)).toNat) (fun r_98 s_99 => (0 ≤ w32 (v3_1 + 1) ∧ w32 (v3_1 + 1) < (L : Int)) ∧ ((0 ≤ w32 (v3_1 + 2) ∧ w32 (v3_1 + 2) < (L : Int)) ∧ (w_X10_face s_99 (xs (w32 (v3_1 + 1)).toNat) (xs (w32 (v3_1 + 2)).toNat) (fun r_102 s_103 => (r_98 = r_102 → K_6 s_103) ∧ (¬ r_98 = r_102 → post 0 s_103)))))))) ∧ (iand (xs v3_1.toNat) 31 = 11 → (0 ≤ w32 (v3_1 + 1) ∧ w32 (v3_1 + 1) < (L : Int)) ∧ ((0 ≤ w32 (v3_1 + 2) ∧ w32 (v3_1 + 2) < (L : Int)) ∧ ((0 ≤ w32 (v3_1 + 3) ∧ w32 (v3_1 + 3) < (L : Int)) ∧ (w_X9_where s_2 (xs (w32 (v3_1 + 1)).toNat) (xs (w32 (v3_1 + 2)).toNat) (xs (w32 (v3_1 + 3)).toNat) (fun r_107 s_108 => (0 ≤ w32 (v3_1 + 1) ∧ w32 (v3_1 + 1) < (L : Int)) ∧ ((0 ≤ w32 (v3_1 + 2) ∧ w32 (v3_1 + 2) < (L : Int)) ∧ ((0 ≤ w32 (v3_1 + 3) ∧ w32 (v3_1 + 3) < (L : Int)) ∧ (w_X10_where s_108 (xs (w32 (v3_1 + 1)).toNat) (xs (w32 (v3_1 + 2)).toNat) (xs (w32 (v3_1 + 3)).toNat) (fun r_112 s_113 => (r_107 = r_112 → K_6 s_113) ∧ (¬ r_107 = r_112 → post 0 s_113)))))))))) ∧ (iand (xs v3_1.toNat) 31 = 12 → (0 ≤ w32 (v3_1 + 1) ∧ w32 (v3_1 + 1) < (L : Int)) ∧ ((0 ≤ w32 (v3_1 + 2) ∧ w32 (v3_1 + 2) < (L : Int)) ∧ ((0 ≤ w32 (v3_1 + 3) ∧ w32 (v3_1 + 3) < (L : Int)) ∧ (w_X9_on s_2 (xs (w32 (v3_1 + 1)).toNat) (xs (w32 (v3_1 + 2)).toNat) (xs (w32 (v3_1 + 3)).toNat) (fun r_117 => (0 ≤ w32 (v3_1 + 1) ∧ w32 (v3_1 + 1) < (L : Int)) ∧ ((0 ≤ w32 (v3_1 + 2) ∧ w32 (v3_1 + 2) < (L : Int)) ∧ ((0 ≤ w32 (v3_1 + 3) ∧ w32 (v3_1 + 3) < (L : Int)) ∧ (w_X10_on s_2 (xs (w32 (v3_1 + 1)).toNat) (xs (w32 (v3_1 + 2)).toNat) (xs (w32 (v3_1 + 3)).toNat) (fun r_121 => (r_117 = r_121 → K_6 s_2) ∧ (¬ r_117 = r_121 → post 0 s_2)))))))))) ∧ (iand (xs v3_1.toNat) 31 = 13 → (0 ≤ w32 (v3_1 + 1) ∧ w32 (v3_1 + 1) < (L : Int)) ∧ ((0 ≤ w32 (v3_1 + 2) ∧ w32 (v3_1 + 2) < (L : Int)) ∧ (w_X9_hops s_2 (xs (w32 (v3_1 + 1)).toNat) (xs (w32 (v3_1 + 2)).toNat) (fun r_124 s_125 => (0 ≤ w32 (v3_1 + 1) ∧ w32 (v3_1 + 1) < (L : Int)) ∧ ((0 ≤ w32 (v3_1 + 2) ∧ w32 (v3_1 + 2) < (L : Int)) ∧ (w_X10_hops s_125 (xs (w32 (v3_1 + 1)).toNat) (xs (w32 (v3_1 + 2)).toNat) (fun r_128 s_129 => (r_124 = r_128 → K_6 s_129) ∧ (¬ r_124 = r_128 → post 0 s_129)))))))) ∧ (iand (xs v3_1.toNat) 31 = 14 → (0 ≤ w32 (v3_1 + 1) ∧ w32 (v3_1 + 1) < (L : Int)) ∧ (w_X9_count s_2 (xs (w32 (v3_1 + 1)).toNat) (fun r_131 s_132 => (0 ≤ w32 (v3_1 + 1) ∧ w32 (v3_1 + 1) < (L : Int)) ∧ (w_X10_count s_132 (xs (w32 (v3_1 + 1)).toNat) (fun r_134 s_135 => (r_131 = r_134 → K_6 s_135) ∧ (¬ r_131 = r_134 → post 0 s_135)))))) ∧ (iand (xs v3_1.toNat) 31 = 15 → (0 ≤ w32 (v3_1 + 1) ∧ w32 (v3_1 + 1) < (L : Int)) ∧ (w_X9_without s_2 (xs (w32 (v3_1 + 1)).toNat) (fun r_137 s_138 => (0 ≤ w32 (v3_1 + 1) ∧ w32 (v3_1 + 1) < (L : Int)) ∧ (w_X10_without s_138 (xs (w32 (v3_1 + 1)).toNat) (fun r_140 s_141 => (r_137 = r_140 → K_6 s_141) ∧ (¬ r_137 = r_140 → post 0 s_141)))))) ∧ (iand (xs v3_1.toNat) 31 = 16 → (0 ≤ w32 (v3_1 + 1) ∧ w32 (v3_1 + 1) < (L : Int)) ∧ (w_X9_most s_2 (xs (w32 (v3_1 + 1)).toNat) (fun r_143 s_144 => (0 ≤ w32 (v3_1 + 1) ∧ w32 (v3_1 + 1) < (L : Int)) ∧ (w_X10_most s_144 (xs (w32 (v3_1 + 1)).toNat) (fun r_146 s_147 => (r_143 = r_146 → K_6 s_147) ∧ (¬ r_143 = r_146 → post 0 s_147)))))) ∧ (iand (xs v3_1.toNat) 31 = 17 → (0 ≤ w32 (v3_1 + 1) ∧ w32 (v3_1 + 1) < (L : Int)) ∧ ((0 ≤ w32 (v3_1 + 2) ∧ w32 (v3_1 + 2) < (L : Int)) ∧ (w_X9_drawn s_2 (xs (w32 (v3_1 + 1)).toNat) (xs (w32 (v3_1 + 2)).toNat) (fun r_150 s_151 => (0 ≤ w32 (v3_1 + 1) ∧ w32 (v3_1 + 1) < (L : Int)) ∧ ((0 ≤ w32 (v3_1 + 2) ∧ w32 (v3_1 + 2) < (L : Int)) ∧ (w_X10_drawn s_151 (xs (w32 (v3_1 + 1)).toNat) (xs (w32 (v3_1 + 2)).toNat) (fun r_154 s_155 => (r_150 = r_154 → K_6 s_155) ∧ (¬ r_150 = r_154 → post 0 s_155)))))))) ∧ (iand (xs v3_1.toNat) 31 = 18 → (0 ≤ w32 (v3_1 + 1) ∧ w32 (v3_1 + 1) < (L : Int)) ∧ ((0 ≤ w32 (v3_1 + 2) ∧ w32 (v3_1 + 2) < (L : Int)) ∧ ((0 ≤ w32 (v3_1 + 3) ∧ w32 (v3_1 + 3) < (L : Int)) ∧ ((0 ≤ w32 (v3_1 + 4) ∧ w32 (v3_1 + 4) < (L : Int)) ∧ (w_X9_chance s_2 (xs (w32 (v3_1 + 1)).toNat) (xs (w32 (v3_1 + 2)).toNat) (xs (w32 (v3_1 + 3)).toNat) (xs (w32 (v3_1 + 4)).toNat) (fun r_160 s_161 => (0 ≤ w32 (v3_1 + 1) ∧ w32 (v3_1 + 1) < (L : Int)) ∧ ((0 ≤ w32 (v3_1 + 2) ∧ w32 (v3_1 + 2) < (L : Int)) ∧ ((0 ≤ w32 (v3_1 + 3) ∧ w32 (v3_1 + 3) < (L : Int)) ∧ ((0 ≤ w32 (v3_1 + 4) ∧ w32 (v3_1 + 4) < (L : Int)) ∧ (w_X10_chance s_161 (xs (w32 (v3_1 + 1)).toNat) (xs (w32 (v3_1 + 2)).toNat) (xs (w32 (v3_1 + 3)).toNat) (xs (w32 (v3_1 + 4)).toNat) (fun r_166 s_167 => (r_160 = r_166 → K_6 s_167) ∧ (¬ r_160 = r_166 → post 0 s_167)))))))))))) ∧ (iand (xs v3_1.toNat) 31 = 19 → (0 ≤ w32 (v3_1 + 1) ∧ w32 (v3_1 + 1) < (L : Int)) ∧ ((0 ≤ w32 (v3_1 + 2) ∧ w32 (v3_1 + 2) < (L : Int)) ∧ ((0 ≤ w32 (v3_1 + 3) ∧ w32 (v3_1 + 3) < (L : Int)) ∧ (w_X9_tells s_2 (xs (w32 (v3_1 + 1)).toNat) (xs (w32 (v3_1 + 2)).toNat) (xs (w32 (v3_1 + 3)).toNat) (fun r_171 s_172 => (0 ≤ w32 (v3_1 + 1) ∧ w32 (v3_1 + 1) < (L : Int)) ∧ ((0 ≤ w32 (v3_1 + 2) ∧ w32 (v3_1 + 2) < (L : Int)) ∧ ((0 ≤ w32 (v3_1 + 3) ∧ w32 (v3_1 + 3) < (L : Int)) ∧ (w_X10_tells s_172 (xs (w32 (v3_1 + 1)).toNat) (xs (w32 (v3_1 + 2)).toNat) (xs (w32 (v3_1 + 3)).toNat) (fun r_176 s_177 => (r_171 = r_176 → K_6 s_177) ∧ (¬ r_171 = r_176 → post 0 s_177)))))))))) ∧ (iand (xs v3_1.toNat) 31 = 20 → (0 ≤ w32 (v3_1 + 1) ∧ w32 (v3_1 + 1) < (L : Int)) ∧ ((0 ≤ w32 (v3_1 + 2) ∧ w32 (v3_1 + 2) < (L : Int)) ∧ (w_X9_film s_2 (xs (w32 (v3_1 + 1)).toNat) (xs (w32 (v3_1 + 2)).toNat) (fun r_180 s_181 => (0 ≤ w32 (v3_1 + 1) ∧ w32 (v3_1 + 1) < (L : Int)) ∧ ((0 ≤ w32 (v3_1 + 2) ∧ w32 (v3_1 + 2) < (L : Int)) ∧ (w_X10_film s_181 (xs (w32 (v3_1 + 1)).toNat) (xs (w32 (v3_1 + 2)).toNat) (fun r_184 s_185 => (r_180 = r_184 → K_6 s_185) ∧ (¬ r_180 = r_184 → post 0 s_185)))))))) ∧ (iand (xs v3_1.toNat) 31 = 21 → w_X9_image s_2 (fun r_186 s_187 => w_X10_image s_187 (fun r_188 s_189 => (r_186 = r_188 → K_6 s_189) ∧ (¬ r_186 = r_188 → post 0 s_189)))) ∧ (iand (xs v3_1.toNat) 31 = 22 → w_X9_back s_2 (fun r_190 s_191 => w_X10_back s_191 (fun r_192 s_193 => (r_190 = r_192 → K_6 s_193) ∧ (¬ r_190 = r_192 → post 0 s_193)))) ∧ (iand (xs v3_1.toNat) 31 = 23 → (0 ≤ w32 (v3_1 + 1) ∧ w32 (v3_1 + 1) < (L : Int)) ∧ ((0 ≤ w32 (v3_1 + 2) ∧ w32 (v3_1 + 2) < (L : Int)) ∧ ((0 ≤ w32 (v3_1 + 3) ∧ w32 (v3_1 + 3) < (L : Int)) ∧ (w_X9_sheet s_2 (xs (w32 (v3_1 + 1)).toNat) (xs (w32 (v3_1 + 2)).toNat) (xs (w32 (v3_1 + 3)).toNat) (fun r_197 s_198 => (0 ≤ w32 (v3_1 + 1) ∧ w32 (v3_1 + 1) < (L : Int)) ∧ ((0 ≤ w32 (v3_1 + 2) ∧ w32 (v3_1 + 2) < (L : Int)) ∧ ((0 ≤ w32 (v3_1 + 3) ∧ w32 (v3_1 + 3) < (L : Int)) ∧ (w_X10_sheet s_198 (xs (w32 (v3_1 + 1)).toNat) (xs (w32 (v3_1 + 2)).toNat) (xs (w32 (v3_1 + 3)).toNat) (fun r_202 s_203 => (r_197 = r_202 → K_6 s_203) ∧ (¬ r_197 = r_202 → post 0 s_203)))))))))) ∧ (iand (xs v3_1.toNat) 31 = 24 → (0 ≤ w32 (v3_1 + 1) ∧ w32 (v3_1 + 1) < (L : Int)) ∧ ((0 ≤ w32 (v3_1 + 2) ∧ w32 (v3_1 + 2) < (L : Int)) ∧ ((0 ≤ w32 (v3_1 + 3) ∧ w32 (v3_1 + 3) < (L : Int)) ∧ (w_X9_put s_2 (xs (w32 (v3_1 + 1)).toNat) (xs (w32 (v3_1 + 2)).toNat) (xs (w32 (v3_1 + 3)).toNat) (fun r_207 s_208 => (0 ≤ w32 (v3_1 + 1) ∧ w32 (v3_1 + 1) < (L : Int)) ∧ ((0 ≤ w32 (v3_1 + 2) ∧ w32 (v3_1 + 2) < (L : Int)) ∧ ((0 ≤ w32 (v3_1 + 3) ∧ w32 (v3_1 + 3) < (L : Int)) ∧ (w_X10_put s_208 (xs (w32 (v3_1 + 1)).toNat) (xs (w32 (v3_1 + 2)).toNat) (xs (w32 (v3_1 + 3)).toNat) (fun r_212 s_213 => (r_207 = r_212 → K_6 s_213) ∧ (¬ r_207 = r_212 → post 0 s_213)))))))))) ∧ (iand (xs v3_1.toNat) 31 = 25 → (0 ≤ w32 (v3_1 + 1) ∧ w32 (v3_1 + 1) < (L : Int)) ∧ ((0 ≤ w32 (v3_1 + 2) ∧ w32 (v3_1 + 2) < (L : Int)) ∧ ((0 ≤ w32 (v3_1 + 3) ∧ w32 (v3_1 + 3) < (L : Int)) ∧ ((0 ≤ w32 (v3_1 + 4) ∧ w32 (v3_1 + 4) < (L : Int)) ∧ ((0 ≤ w32 (v3_1 + 5) ∧ w32 (v3_1 + 5) < (L : Int)) ∧ (w_X9_copy s_2 (xs (w32 (v3_1 + 1)).toNat) (xs (w32 (v3_1 + 2)).toNat) (xs (w32 (v3_1 + 3)).toNat) (xs (w32 (v3_1 + 4)).toNat) (xs (w32 (v3_1 + 5)).toNat) (fun r_219 s_220 => (0 ≤ w32 (v3_1 + 1) ∧ w32 (v3_1 + 1) < (L : Int)) ∧ ((0 ≤ w32 (v3_1 + 2) ∧ w32 (v3_1 + 2) < (L : Int)) ∧ ((0 ≤ w32 (v3_1 + 3) ∧ w32 (v3_1 + 3) < (L : Int)) ∧ ((0 ≤ w32 (v3_1 + 4) ∧ w32 (v3_1 + 4) < (L : Int)) ∧ ((0 ≤ w32 (v3_1 + 5) ∧ w32 (v3_1 + 5) < (L : Int)) ∧ (w_X10_copy s_220 (xs (w32 (v3_1 + 1)).toNat) (xs (w32 (v3_1 + 2)).toNat) (xs (w32 (v3_1 + 3)).toNat) (xs (w32 (v3_1 + 4)).toNat) (xs (w32 (v3_1 + 5)).toNat) (fun r_226 s_227 => (r_219 = r_226 → K_6 s_227) ∧ (¬ r_219 = r_226 → post 0 s_227)))))))))))))) ∧ (iand (xs v3_1.toNat) 31 = 26 → (0 ≤ w32 (v3_1 + 1) ∧ w32 (v3_1 + 1) < (L : Int)) ∧ ((0 ≤ w32 (v3_1 + 2) ∧ w32 (v3_1 + 2) < (L : Int)) ∧ ((0 ≤ w32 (v3_1 + 3) ∧ w32 (v3_1 + 3) < (L : Int)) ∧ ((0 ≤ w32 (v3_1 + 4) ∧ w32 (v3_1 + 4) < (L : Int)) ∧ (w_X9_load s_2 (xs (w32 (v3_1 + 1)).toNat) (xs (w32 (v3_1 + 2)).toNat) (xs (w32 (v3_1 + 3)).toNat) (xs (w32 (v3_1 + 4)).toNat) (fun r_232 s_233 => (0 ≤ w32 (v3_1 + 1) ∧ w32 (v3_1 + 1) < (L : Int)) ∧ ((0 ≤ w32 (v3_1 + 2) ∧ w32 (v3_1 + 2) < (L : Int)) ∧ ((0 ≤ w32 (v3_1 + 3) ∧ w32 (v3_1 + 3) < (L : Int)) ∧ ((0 ≤ w32 (v3_1 + 4) ∧ w32 (v3_1 + 4) < (L : Int)) ∧ (w_X10_load s_233 (xs (w32 (v3_1 + 1)).toNat) (xs (w32 (v3_1 + 2)).toNat) (xs (w32 (v3_1 + 3)).toNat) (xs (w32 (v3_1 + 4)).toNat) (fun r_238 s_239 => (r_232 = r_238 → K_6 s_239) ∧ (¬ r_232 = r_238 → post 0 s_239)))))))))))) ∧ ((iand (xs v3_1.toNat) 31 < 0 ∨ 26 < iand (xs v3_1.toNat) 31) → K_6 s_2)) (fun (s_5 : Sg) => ∀ v3_7, v3_7 = w32 (v3_1 + 6) → (again_3 v3_7 s_5))))) 0 s
theorem k_L_law {L : Nat} {xs : Nat → Int} {s : Sg} {post : Int → Sg → Prop} (h : w_L_law L xs s post) : Ev (mL L xs) 1000 16 [(2, (2, 68)), (1, (2, 0)), (0, (2, 192))] [] s (poIs 0 post) := by
  unfold w_L_law at h
  refine Ev_iconst (v := 0) dL_law_16 rfl ⟨by decide, by decide⟩ ?_
  refine Ev_istore_n dL_law_17 (show (3 : Nat) < 4 by decide) rfl ?_
  refine Ev_sub [3, 2, 1, 0] rfl ?_
  refine li_1s (P := fun (v3_1 : Int) (s_2 : Sg) => Ev (mL L xs) 1000 18 [(0, (2, 192)), (1, (2, 0)), (2, (2, 68)), (3, (0, v3_1))] [] s_2 (poIs 0 post)) ?_ h
  intro again_3 v3_1 s_2 hagain_3 h
  refine Ev_iload_n dL_law_18 3 rfl ?_
  refine Ev_aload_n dL_law_19 0 rfl ?_
  refine Ev_slen dL_law_20 rfl ?_
  refine Ev_bipush (v := 6) dL_law_21 (by decide +kernel) ?_
  refine Ev_isub dL_law_23 ?_
  refine Ev_icmp_gt (tgt := 1153) dL_law_24 (by decide) (fun hc => ?_) (fun hc => ?_)
  · replace h := h.1 hc
    refine Ev_iconst (v := 1) dL_law_1153 rfl ⟨by decide, by decide⟩ ?_
    exact Ev_ret dL_law_1154 (Or.inr rfl) (poIs_mk h)
  · replace h := h.2 hc
    refine Ev_aload_n dL_law_27 0 rfl ?_
    refine Ev_iload_n dL_law_28 3 rfl ?_
    obtain ⟨hb_4, h⟩ := h
    refine Ev_sld dL_law_29 rfl hb_4 ?_
    refine Ev_bipush (v := 31) dL_law_30 (by decide +kernel) ?_
    refine Ev_iand dL_law_32 ?_
    refine jc_0s (P := fun (s_5 : Sg) => Ev (mL L xs) 1000 1147 [(0, (2, 192)), (1, (2, 0)), (2, (2, 68)), (3, (0, v3_1))] [] s_5 (poIs 0 post)) h ?_ ?_
    · intro s_5 h
      obtain ⟨v3_7, ev3_7⟩ : ∃ z : Int, z = w32 (v3_1 + 6) := ⟨_, rfl⟩
      replace h := h v3_7 ev3_7
      refine Ev_iinc (v := v3_7) dL_law_1147 3 rfl ev3_7.symm (show (3 : Nat) < 4 by decide) rfl ?_
      refine Ev_goto (tgt := 18) dL_law_1150 (by decide) ?_
      refine Ev_sub [1, 2, 3, 0] rfl ?_
      exact hagain_3 _ _ h
    · intro K_6 hK_6 h
      rcases (show iand (xs v3_1.toNat) 31 = 0 ∨ iand (xs v3_1.toNat) 31 = 1 ∨ iand (xs v3_1.toNat) 31 = 2 ∨ iand (xs v3_1.toNat) 31 = 3 ∨ iand (xs v3_1.toNat) 31 = 4 ∨ iand (xs v3_1.toNat) 31 = 5 ∨ iand (xs v3_1.toNat) 31 = 6 ∨ iand (xs v3_1.toNat) 31 = 7 ∨ iand (xs v3_1.toNat) 31 = 8 ∨ iand (xs v3_1.toNat) 31 = 9 ∨ iand (xs v3_1.toNat) 31 = 10 ∨ iand (xs v3_1.toNat) 31 = 11 ∨ iand (xs v3_1.toNat) 31 = 12 ∨ iand (xs v3_1.toNat) 31 = 13 ∨ iand (xs v3_1.toNat) 31 = 14 ∨ iand (xs v3_1.toNat) 31 = 15 ∨ iand (xs v3_1.toNat) 31 = 16 ∨ iand (xs v3_1.toNat) 31 = 17 ∨ iand (xs v3_1.toNat) 31 = 18 ∨ iand (xs v3_1.toNat) 31 = 19 ∨ iand (xs v3_1.toNat) 31 = 20 ∨ iand (xs v3_1.toNat) 31 = 21 ∨ iand (xs v3_1.toNat) 31 = 22 ∨ iand (xs v3_1.toNat) 31 = 23 ∨ iand (xs v3_1.toNat) 31 = 24 ∨ iand (xs v3_1.toNat) 31 = 25 ∨ iand (xs v3_1.toNat) 31 = 26 ∨ (iand (xs v3_1.toNat) 31 < 0 ∨ 26 < iand (xs v3_1.toNat) 31) by omega) with hc | hc | hc | hc | hc | hc | hc | hc | hc | hc | hc | hc | hc | hc | hc | hc | hc | hc | hc | hc | hc | hc | hc | hc | hc | hc | hc | hc
      · replace h := h.1 hc
        refine Ev_tabIn (tgt := 156) (off := 123) dL_law_33 (by omega) (by omega) (by rw [hc]; rfl) (by decide) ?_
        refine Ev_aload_n dL_law_156 1 rfl ?_
        refine Ev_aload_n dL_law_157 0 rfl ?_
        refine Ev_iload_n dL_law_158 3 rfl ?_
        refine Ev_iconst (v := 1) dL_law_159 rfl ⟨by decide, by decide⟩ ?_
        refine Ev_iadd dL_law_160 ?_
        obtain ⟨hb_8, h⟩ := h
        refine Ev_sld dL_law_161 rfl hb_8 ?_
        refine Ev_aload_n dL_law_162 0 rfl ?_
        refine Ev_iload_n dL_law_163 3 rfl ?_
        refine Ev_iconst (v := 2) dL_law_164 rfl ⟨by decide, by decide⟩ ?_
        refine Ev_iadd dL_law_165 ?_
        obtain ⟨hb_9, h⟩ := h
        refine Ev_sld dL_law_166 rfl hb_9 ?_
        refine Ev_aload_n dL_law_167 0 rfl ?_
        refine Ev_iload_n dL_law_168 3 rfl ?_
        refine Ev_iconst (v := 3) dL_law_169 rfl ⟨by decide, by decide⟩ ?_
        refine Ev_iadd dL_law_170 ?_
        obtain ⟨hb_10, h⟩ := h
        refine Ev_sld dL_law_171 rfl hb_10 ?_
        refine Ev_aload_n dL_law_172 0 rfl ?_
        refine Ev_iload_n dL_law_173 3 rfl ?_
        refine Ev_iconst (v := 4) dL_law_174 rfl ⟨by decide, by decide⟩ ?_
        refine Ev_iadd dL_law_175 ?_
        obtain ⟨hb_11, h⟩ := h
        refine Ev_sld dL_law_176 rfl hb_11 ?_
        refine Ev_invV (d' := 3) [(0, xs (w32 (v3_1 + 1)).toNat), (0, xs (w32 (v3_1 + 2)).toNat), (0, xs (w32 (v3_1 + 3)).toNat), (0, xs (w32 (v3_1 + 4)).toNat)] 0 dL_law_177 M_X9_line q_390 (by decide) rfl rfl sh_0 rfl (Nat.le_of_ble_eq_true rfl) (k_X9_line h) ?_
        rintro _ s_13 ⟨r_12, rfl, h⟩
        refine Ev_aload_n dL_law_180 2 rfl ?_
        refine Ev_aload_n dL_law_181 0 rfl ?_
        refine Ev_iload_n dL_law_182 3 rfl ?_
        refine Ev_iconst (v := 1) dL_law_183 rfl ⟨by decide, by decide⟩ ?_
        refine Ev_iadd dL_law_184 ?_
        obtain ⟨hb_14, h⟩ := h
        refine Ev_sld dL_law_185 rfl hb_14 ?_
        refine Ev_aload_n dL_law_186 0 rfl ?_
        refine Ev_iload_n dL_law_187 3 rfl ?_
        refine Ev_iconst (v := 2) dL_law_188 rfl ⟨by decide, by decide⟩ ?_
        refine Ev_iadd dL_law_189 ?_
        obtain ⟨hb_15, h⟩ := h
        refine Ev_sld dL_law_190 rfl hb_15 ?_
        refine Ev_aload_n dL_law_191 0 rfl ?_
        refine Ev_iload_n dL_law_192 3 rfl ?_
        refine Ev_iconst (v := 3) dL_law_193 rfl ⟨by decide, by decide⟩ ?_
        refine Ev_iadd dL_law_194 ?_
        obtain ⟨hb_16, h⟩ := h
        refine Ev_sld dL_law_195 rfl hb_16 ?_
        refine Ev_aload_n dL_law_196 0 rfl ?_
        refine Ev_iload_n dL_law_197 3 rfl ?_
        refine Ev_iconst (v := 4) dL_law_198 rfl ⟨by decide, by decide⟩ ?_
        refine Ev_iadd dL_law_199 ?_
        obtain ⟨hb_17, h⟩ := h
        refine Ev_sld dL_law_200 rfl hb_17 ?_
        refine Ev_invV (d' := 2) [(0, xs (w32 (v3_1 + 1)).toNat), (0, xs (w32 (v3_1 + 2)).toNat), (0, xs (w32 (v3_1 + 3)).toNat), (0, xs (w32 (v3_1 + 4)).toNat)] 68 dL_law_201 M_X10_line q_1032 (by decide) rfl rfl sh_68 rfl (Nat.le_of_ble_eq_true rfl) (k_X10_line h) ?_
        rintro _ s_19 ⟨r_18, rfl, h⟩
        refine Ev_icmp_eq (tgt := 1147) dL_law_204 (by decide) (fun hc => ?_) (fun hc => ?_)
        · replace h := h.1 hc
          exact hK_6 _ h
        · replace h := h.2 hc
          refine Ev_iconst (v := 0) dL_law_207 rfl ⟨by decide, by decide⟩ ?_
          exact Ev_ret dL_law_208 (Or.inl rfl) (poIs_mk h)
      · replace h := h.2.1 hc
        refine Ev_tabIn (tgt := 209) (off := 176) dL_law_33 (by omega) (by omega) (by rw [hc]; rfl) (by decide) ?_
        refine Ev_aload_n dL_law_209 1 rfl ?_
        refine Ev_aload_n dL_law_210 0 rfl ?_
        refine Ev_iload_n dL_law_211 3 rfl ?_
        refine Ev_iconst (v := 1) dL_law_212 rfl ⟨by decide, by decide⟩ ?_
        refine Ev_iadd dL_law_213 ?_
        obtain ⟨hb_20, h⟩ := h
        refine Ev_sld dL_law_214 rfl hb_20 ?_
        refine Ev_invV (d' := 2) [(0, xs (w32 (v3_1 + 1)).toNat)] 0 dL_law_215 M_X9_drop q_421 (by decide) rfl rfl sh_0 rfl (Nat.le_of_ble_eq_true rfl) (k_X9_drop h) ?_
        rintro _ s_22 ⟨r_21, rfl, h⟩
        refine Ev_aload_n dL_law_218 2 rfl ?_
        refine Ev_aload_n dL_law_219 0 rfl ?_
        refine Ev_iload_n dL_law_220 3 rfl ?_
        refine Ev_iconst (v := 1) dL_law_221 rfl ⟨by decide, by decide⟩ ?_
        refine Ev_iadd dL_law_222 ?_
        obtain ⟨hb_23, h⟩ := h
        refine Ev_sld dL_law_223 rfl hb_23 ?_
        refine Ev_invV (d' := 2) [(0, xs (w32 (v3_1 + 1)).toNat)] 68 dL_law_224 M_X10_drop q_1046 (by decide) rfl rfl sh_68 rfl (Nat.le_of_ble_eq_true rfl) (k_X10_drop h) ?_
        rintro _ s_25 ⟨r_24, rfl, h⟩
        refine Ev_icmp_eq (tgt := 1147) dL_law_227 (by decide) (fun hc => ?_) (fun hc => ?_)
        · replace h := h.1 hc
          exact hK_6 _ h
        · replace h := h.2 hc
          refine Ev_iconst (v := 0) dL_law_230 rfl ⟨by decide, by decide⟩ ?_
          exact Ev_ret dL_law_231 (Or.inl rfl) (poIs_mk h)
      · replace h := h.2.2.1 hc
        refine Ev_tabIn (tgt := 232) (off := 199) dL_law_33 (by omega) (by omega) (by rw [hc]; rfl) (by decide) ?_
        refine Ev_aload_n dL_law_232 1 rfl ?_
        refine Ev_aload_n dL_law_233 0 rfl ?_
        refine Ev_iload_n dL_law_234 3 rfl ?_
        refine Ev_iconst (v := 1) dL_law_235 rfl ⟨by decide, by decide⟩ ?_
        refine Ev_iadd dL_law_236 ?_
        obtain ⟨hb_26, h⟩ := h
        refine Ev_sld dL_law_237 rfl hb_26 ?_
        refine Ev_aload_n dL_law_238 0 rfl ?_
        refine Ev_iload_n dL_law_239 3 rfl ?_
        refine Ev_iconst (v := 2) dL_law_240 rfl ⟨by decide, by decide⟩ ?_
        refine Ev_iadd dL_law_241 ?_
        obtain ⟨hb_27, h⟩ := h
        refine Ev_sld dL_law_242 rfl hb_27 ?_
        refine Ev_aload_n dL_law_243 0 rfl ?_
        refine Ev_iload_n dL_law_244 3 rfl ?_
        refine Ev_iconst (v := 3) dL_law_245 rfl ⟨by decide, by decide⟩ ?_
        refine Ev_iadd dL_law_246 ?_
        obtain ⟨hb_28, h⟩ := h
        refine Ev_sld dL_law_247 rfl hb_28 ?_
        refine Ev_aload_n dL_law_248 0 rfl ?_
        refine Ev_iload_n dL_law_249 3 rfl ?_
        refine Ev_iconst (v := 4) dL_law_250 rfl ⟨by decide, by decide⟩ ?_
        refine Ev_iadd dL_law_251 ?_
        obtain ⟨hb_29, h⟩ := h
        refine Ev_sld dL_law_252 rfl hb_29 ?_
        refine Ev_invV (d' := 2) [(0, xs (w32 (v3_1 + 1)).toNat), (0, xs (w32 (v3_1 + 2)).toNat), (0, xs (w32 (v3_1 + 3)).toNat), (0, xs (w32 (v3_1 + 4)).toNat)] 0 dL_law_253 M_X9_move q_430 (by decide) rfl rfl sh_0 rfl (Nat.le_of_ble_eq_true rfl) (k_X9_move h) ?_
        rintro _ s_31 ⟨r_30, rfl, h⟩
        refine Ev_aload_n dL_law_256 2 rfl ?_
        refine Ev_aload_n dL_law_257 0 rfl ?_
        refine Ev_iload_n dL_law_258 3 rfl ?_
        refine Ev_iconst (v := 1) dL_law_259 rfl ⟨by decide, by decide⟩ ?_
        refine Ev_iadd dL_law_260 ?_
        obtain ⟨hb_32, h⟩ := h
        refine Ev_sld dL_law_261 rfl hb_32 ?_
        refine Ev_aload_n dL_law_262 0 rfl ?_
        refine Ev_iload_n dL_law_263 3 rfl ?_
        refine Ev_iconst (v := 2) dL_law_264 rfl ⟨by decide, by decide⟩ ?_
        refine Ev_iadd dL_law_265 ?_
        obtain ⟨hb_33, h⟩ := h
        refine Ev_sld dL_law_266 rfl hb_33 ?_
        refine Ev_aload_n dL_law_267 0 rfl ?_
        refine Ev_iload_n dL_law_268 3 rfl ?_
        refine Ev_iconst (v := 3) dL_law_269 rfl ⟨by decide, by decide⟩ ?_
        refine Ev_iadd dL_law_270 ?_
        obtain ⟨hb_34, h⟩ := h
        refine Ev_sld dL_law_271 rfl hb_34 ?_
        refine Ev_aload_n dL_law_272 0 rfl ?_
        refine Ev_iload_n dL_law_273 3 rfl ?_
        refine Ev_iconst (v := 4) dL_law_274 rfl ⟨by decide, by decide⟩ ?_
        refine Ev_iadd dL_law_275 ?_
        obtain ⟨hb_35, h⟩ := h
        refine Ev_sld dL_law_276 rfl hb_35 ?_
        refine Ev_invV (d' := 2) [(0, xs (w32 (v3_1 + 1)).toNat), (0, xs (w32 (v3_1 + 2)).toNat), (0, xs (w32 (v3_1 + 3)).toNat), (0, xs (w32 (v3_1 + 4)).toNat)] 68 dL_law_277 M_X10_move q_1058 (by decide) rfl rfl sh_68 rfl (Nat.le_of_ble_eq_true rfl) (k_X10_move h) ?_
        rintro _ s_37 ⟨r_36, rfl, h⟩
        refine Ev_icmp_eq (tgt := 1147) dL_law_280 (by decide) (fun hc => ?_) (fun hc => ?_)
        · replace h := h.1 hc
          exact hK_6 _ h
        · replace h := h.2 hc
          refine Ev_iconst (v := 0) dL_law_283 rfl ⟨by decide, by decide⟩ ?_
          exact Ev_ret dL_law_284 (Or.inl rfl) (poIs_mk h)
      · replace h := h.2.2.2.1 hc
        refine Ev_tabIn (tgt := 285) (off := 252) dL_law_33 (by omega) (by omega) (by rw [hc]; rfl) (by decide) ?_
        refine Ev_aload_n dL_law_285 1 rfl ?_
        refine Ev_aload_n dL_law_286 0 rfl ?_
        refine Ev_iload_n dL_law_287 3 rfl ?_
        refine Ev_iconst (v := 1) dL_law_288 rfl ⟨by decide, by decide⟩ ?_
        refine Ev_iadd dL_law_289 ?_
        obtain ⟨hb_38, h⟩ := h
        refine Ev_sld dL_law_290 rfl hb_38 ?_
        refine Ev_aload_n dL_law_291 0 rfl ?_
        refine Ev_iload_n dL_law_292 3 rfl ?_
        refine Ev_iconst (v := 2) dL_law_293 rfl ⟨by decide, by decide⟩ ?_
        refine Ev_iadd dL_law_294 ?_
        obtain ⟨hb_39, h⟩ := h
        refine Ev_sld dL_law_295 rfl hb_39 ?_
        refine Ev_invV (d' := 6) [(0, xs (w32 (v3_1 + 1)).toNat), (0, xs (w32 (v3_1 + 2)).toNat)] 0 dL_law_296 M_X9_told q_435 (by decide) rfl rfl sh_0 rfl (Nat.le_of_ble_eq_true rfl) (k_X9_told h) ?_
        rintro _ s_41 ⟨r_40, rfl, h⟩
        refine Ev_aload_n dL_law_299 2 rfl ?_
        refine Ev_aload_n dL_law_300 0 rfl ?_
        refine Ev_iload_n dL_law_301 3 rfl ?_
        refine Ev_iconst (v := 1) dL_law_302 rfl ⟨by decide, by decide⟩ ?_
        refine Ev_iadd dL_law_303 ?_
        obtain ⟨hb_42, h⟩ := h
        refine Ev_sld dL_law_304 rfl hb_42 ?_
        refine Ev_aload_n dL_law_305 0 rfl ?_
        refine Ev_iload_n dL_law_306 3 rfl ?_
        refine Ev_iconst (v := 2) dL_law_307 rfl ⟨by decide, by decide⟩ ?_
        refine Ev_iadd dL_law_308 ?_
        obtain ⟨hb_43, h⟩ := h
        refine Ev_sld dL_law_309 rfl hb_43 ?_
        refine Ev_invV (d' := 104) [(0, xs (w32 (v3_1 + 1)).toNat), (0, xs (w32 (v3_1 + 2)).toNat)] 68 dL_law_310 M_X10_told q_1135 (by decide) rfl rfl sh_68 rfl (Nat.le_of_ble_eq_true rfl) (k_X10_told h) ?_
        rintro _ s_45 ⟨r_44, rfl, h⟩
        refine Ev_icmp_eq (tgt := 1147) dL_law_313 (by decide) (fun hc => ?_) (fun hc => ?_)
        · replace h := h.1 hc
          exact hK_6 _ h
        · replace h := h.2 hc
          refine Ev_iconst (v := 0) dL_law_316 rfl ⟨by decide, by decide⟩ ?_
          exact Ev_ret dL_law_317 (Or.inl rfl) (poIs_mk h)
      · replace h := h.2.2.2.2.1 hc
        refine Ev_tabIn (tgt := 318) (off := 285) dL_law_33 (by omega) (by omega) (by rw [hc]; rfl) (by decide) ?_
        refine Ev_aload_n dL_law_318 1 rfl ?_
        refine Ev_aload_n dL_law_319 0 rfl ?_
        refine Ev_iload_n dL_law_320 3 rfl ?_
        refine Ev_iconst (v := 1) dL_law_321 rfl ⟨by decide, by decide⟩ ?_
        refine Ev_iadd dL_law_322 ?_
        obtain ⟨hb_46, h⟩ := h
        refine Ev_sld dL_law_323 rfl hb_46 ?_
        refine Ev_aload_n dL_law_324 0 rfl ?_
        refine Ev_iload_n dL_law_325 3 rfl ?_
        refine Ev_iconst (v := 2) dL_law_326 rfl ⟨by decide, by decide⟩ ?_
        refine Ev_iadd dL_law_327 ?_
        obtain ⟨hb_47, h⟩ := h
        refine Ev_sld dL_law_328 rfl hb_47 ?_
        refine Ev_invV (d' := 1) [(0, xs (w32 (v3_1 + 1)).toNat), (0, xs (w32 (v3_1 + 2)).toNat)] 0 dL_law_329 M_X9_taken q_570 (by decide) rfl rfl sh_0 rfl (Nat.le_of_ble_eq_true rfl) (k_X9_taken h) ?_
        rintro _ _ ⟨rfl, r_48, rfl, h⟩
        refine Ev_aload_n dL_law_332 2 rfl ?_
        refine Ev_aload_n dL_law_333 0 rfl ?_
        refine Ev_iload_n dL_law_334 3 rfl ?_
        refine Ev_iconst (v := 1) dL_law_335 rfl ⟨by decide, by decide⟩ ?_
        refine Ev_iadd dL_law_336 ?_
        obtain ⟨hb_49, h⟩ := h
        refine Ev_sld dL_law_337 rfl hb_49 ?_
        refine Ev_aload_n dL_law_338 0 rfl ?_
        refine Ev_iload_n dL_law_339 3 rfl ?_
        refine Ev_iconst (v := 2) dL_law_340 rfl ⟨by decide, by decide⟩ ?_
        refine Ev_iadd dL_law_341 ?_
        obtain ⟨hb_50, h⟩ := h
        refine Ev_sld dL_law_342 rfl hb_50 ?_
        refine Ev_invV (d' := 2) [(0, xs (w32 (v3_1 + 1)).toNat), (0, xs (w32 (v3_1 + 2)).toNat)] 68 dL_law_343 M_X10_taken q_1159 (by decide) rfl rfl sh_68 rfl (Nat.le_of_ble_eq_true rfl) (k_X10_taken h) ?_
        rintro _ _ ⟨rfl, r_51, rfl, h⟩
        refine Ev_icmp_eq (tgt := 1147) dL_law_346 (by decide) (fun hc => ?_) (fun hc => ?_)
        · replace h := h.1 hc
          exact hK_6 _ h
        · replace h := h.2 hc
          refine Ev_iconst (v := 0) dL_law_349 rfl ⟨by decide, by decide⟩ ?_
          exact Ev_ret dL_law_350 (Or.inl rfl) (poIs_mk h)
      · replace h := h.2.2.2.2.2.1 hc
        refine Ev_tabIn (tgt := 351) (off := 318) dL_law_33 (by omega) (by omega) (by rw [hc]; rfl) (by decide) ?_
        refine Ev_aload_n dL_law_351 1 rfl ?_
        refine Ev_aload_n dL_law_352 0 rfl ?_
        refine Ev_iload_n dL_law_353 3 rfl ?_
        refine Ev_iconst (v := 1) dL_law_354 rfl ⟨by decide, by decide⟩ ?_
        refine Ev_iadd dL_law_355 ?_
        obtain ⟨hb_52, h⟩ := h
        refine Ev_sld dL_law_356 rfl hb_52 ?_
        refine Ev_aload_n dL_law_357 0 rfl ?_
        refine Ev_iload_n dL_law_358 3 rfl ?_
        refine Ev_iconst (v := 2) dL_law_359 rfl ⟨by decide, by decide⟩ ?_
        refine Ev_iadd dL_law_360 ?_
        obtain ⟨hb_53, h⟩ := h
        refine Ev_sld dL_law_361 rfl hb_53 ?_
        refine Ev_aload_n dL_law_362 0 rfl ?_
        refine Ev_iload_n dL_law_363 3 rfl ?_
        refine Ev_iconst (v := 3) dL_law_364 rfl ⟨by decide, by decide⟩ ?_
        refine Ev_iadd dL_law_365 ?_
        obtain ⟨hb_54, h⟩ := h
        refine Ev_sld dL_law_366 rfl hb_54 ?_
        refine Ev_invV (d' := 3) [(0, xs (w32 (v3_1 + 1)).toNat), (0, xs (w32 (v3_1 + 2)).toNat), (0, xs (w32 (v3_1 + 3)).toNat)] 0 dL_law_367 M_X9_cross q_575 (by decide) rfl rfl sh_0 rfl (Nat.le_of_ble_eq_true rfl) (k_X9_cross h) ?_
        rintro _ s_56 ⟨r_55, rfl, h⟩
        refine Ev_aload_n dL_law_370 2 rfl ?_
        refine Ev_aload_n dL_law_371 0 rfl ?_
        refine Ev_iload_n dL_law_372 3 rfl ?_
        refine Ev_iconst (v := 1) dL_law_373 rfl ⟨by decide, by decide⟩ ?_
        refine Ev_iadd dL_law_374 ?_
        obtain ⟨hb_57, h⟩ := h
        refine Ev_sld dL_law_375 rfl hb_57 ?_
        refine Ev_aload_n dL_law_376 0 rfl ?_
        refine Ev_iload_n dL_law_377 3 rfl ?_
        refine Ev_iconst (v := 2) dL_law_378 rfl ⟨by decide, by decide⟩ ?_
        refine Ev_iadd dL_law_379 ?_
        obtain ⟨hb_58, h⟩ := h
        refine Ev_sld dL_law_380 rfl hb_58 ?_
        refine Ev_aload_n dL_law_381 0 rfl ?_
        refine Ev_iload_n dL_law_382 3 rfl ?_
        refine Ev_iconst (v := 3) dL_law_383 rfl ⟨by decide, by decide⟩ ?_
        refine Ev_iadd dL_law_384 ?_
        obtain ⟨hb_59, h⟩ := h
        refine Ev_sld dL_law_385 rfl hb_59 ?_
        refine Ev_invV (d' := 102) [(0, xs (w32 (v3_1 + 1)).toNat), (0, xs (w32 (v3_1 + 2)).toNat), (0, xs (w32 (v3_1 + 3)).toNat)] 68 dL_law_386 M_X10_cross q_1062 (by decide) rfl rfl sh_68 rfl (Nat.le_of_ble_eq_true rfl) (k_X10_cross h) ?_
        rintro _ s_61 ⟨r_60, rfl, h⟩
        refine Ev_icmp_eq (tgt := 1147) dL_law_389 (by decide) (fun hc => ?_) (fun hc => ?_)
        · replace h := h.1 hc
          exact hK_6 _ h
        · replace h := h.2 hc
          refine Ev_iconst (v := 0) dL_law_392 rfl ⟨by decide, by decide⟩ ?_
          exact Ev_ret dL_law_393 (Or.inl rfl) (poIs_mk h)
      · replace h := h.2.2.2.2.2.2.1 hc
        refine Ev_tabIn (tgt := 394) (off := 361) dL_law_33 (by omega) (by omega) (by rw [hc]; rfl) (by decide) ?_
        refine Ev_aload_n dL_law_394 1 rfl ?_
        refine Ev_aload_n dL_law_395 0 rfl ?_
        refine Ev_iload_n dL_law_396 3 rfl ?_
        refine Ev_iconst (v := 1) dL_law_397 rfl ⟨by decide, by decide⟩ ?_
        refine Ev_iadd dL_law_398 ?_
        obtain ⟨hb_62, h⟩ := h
        refine Ev_sld dL_law_399 rfl hb_62 ?_
        refine Ev_aload_n dL_law_400 0 rfl ?_
        refine Ev_iload_n dL_law_401 3 rfl ?_
        refine Ev_iconst (v := 2) dL_law_402 rfl ⟨by decide, by decide⟩ ?_
        refine Ev_iadd dL_law_403 ?_
        obtain ⟨hb_63, h⟩ := h
        refine Ev_sld dL_law_404 rfl hb_63 ?_
        refine Ev_invV (d' := 6) [(0, xs (w32 (v3_1 + 1)).toNat), (0, xs (w32 (v3_1 + 2)).toNat)] 0 dL_law_405 M_X9_point q_584 (by decide) rfl rfl sh_0 rfl (Nat.le_of_ble_eq_true rfl) (k_X9_point h) ?_
        rintro _ s_65 ⟨r_64, rfl, h⟩
        refine Ev_aload_n dL_law_408 2 rfl ?_
        refine Ev_aload_n dL_law_409 0 rfl ?_
        refine Ev_iload_n dL_law_410 3 rfl ?_
        refine Ev_iconst (v := 1) dL_law_411 rfl ⟨by decide, by decide⟩ ?_
        refine Ev_iadd dL_law_412 ?_
        obtain ⟨hb_66, h⟩ := h
        refine Ev_sld dL_law_413 rfl hb_66 ?_
        refine Ev_aload_n dL_law_414 0 rfl ?_
        refine Ev_iload_n dL_law_415 3 rfl ?_
        refine Ev_iconst (v := 2) dL_law_416 rfl ⟨by decide, by decide⟩ ?_
        refine Ev_iadd dL_law_417 ?_
        obtain ⟨hb_67, h⟩ := h
        refine Ev_sld dL_law_418 rfl hb_67 ?_
        refine Ev_invV (d' := 104) [(0, xs (w32 (v3_1 + 1)).toNat), (0, xs (w32 (v3_1 + 2)).toNat)] 68 dL_law_419 M_X10_point q_1090 (by decide) rfl rfl sh_68 rfl (Nat.le_of_ble_eq_true rfl) (k_X10_point h) ?_
        rintro _ s_69 ⟨r_68, rfl, h⟩
        refine Ev_icmp_eq (tgt := 1147) dL_law_422 (by decide) (fun hc => ?_) (fun hc => ?_)
        · replace h := h.1 hc
          exact hK_6 _ h
        · replace h := h.2 hc
          refine Ev_iconst (v := 0) dL_law_425 rfl ⟨by decide, by decide⟩ ?_
          exact Ev_ret dL_law_426 (Or.inl rfl) (poIs_mk h)
      · replace h := h.2.2.2.2.2.2.2.1 hc
        refine Ev_tabIn (tgt := 427) (off := 394) dL_law_33 (by omega) (by omega) (by rw [hc]; rfl) (by decide) ?_
        refine Ev_aload_n dL_law_427 1 rfl ?_
        refine Ev_aload_n dL_law_428 0 rfl ?_
        refine Ev_iload_n dL_law_429 3 rfl ?_
        refine Ev_iconst (v := 1) dL_law_430 rfl ⟨by decide, by decide⟩ ?_
        refine Ev_iadd dL_law_431 ?_
        obtain ⟨hb_70, h⟩ := h
        refine Ev_sld dL_law_432 rfl hb_70 ?_
        refine Ev_aload_n dL_law_433 0 rfl ?_
        refine Ev_iload_n dL_law_434 3 rfl ?_
        refine Ev_iconst (v := 2) dL_law_435 rfl ⟨by decide, by decide⟩ ?_
        refine Ev_iadd dL_law_436 ?_
        obtain ⟨hb_71, h⟩ := h
        refine Ev_sld dL_law_437 rfl hb_71 ?_
        refine Ev_aload_n dL_law_438 0 rfl ?_
        refine Ev_iload_n dL_law_439 3 rfl ?_
        refine Ev_iconst (v := 3) dL_law_440 rfl ⟨by decide, by decide⟩ ?_
        refine Ev_iadd dL_law_441 ?_
        obtain ⟨hb_72, h⟩ := h
        refine Ev_sld dL_law_442 rfl hb_72 ?_
        refine Ev_invV (d' := 4) [(0, xs (w32 (v3_1 + 1)).toNat), (0, xs (w32 (v3_1 + 2)).toNat), (0, xs (w32 (v3_1 + 3)).toNat)] 0 dL_law_443 M_X9_order q_592 (by decide) rfl rfl sh_0 rfl (Nat.le_of_ble_eq_true rfl) (k_X9_order h) ?_
        rintro _ s_74 ⟨r_73, rfl, h⟩
        refine Ev_aload_n dL_law_446 2 rfl ?_
        refine Ev_aload_n dL_law_447 0 rfl ?_
        refine Ev_iload_n dL_law_448 3 rfl ?_
        refine Ev_iconst (v := 1) dL_law_449 rfl ⟨by decide, by decide⟩ ?_
        refine Ev_iadd dL_law_450 ?_
        obtain ⟨hb_75, h⟩ := h
        refine Ev_sld dL_law_451 rfl hb_75 ?_
        refine Ev_aload_n dL_law_452 0 rfl ?_
        refine Ev_iload_n dL_law_453 3 rfl ?_
        refine Ev_iconst (v := 2) dL_law_454 rfl ⟨by decide, by decide⟩ ?_
        refine Ev_iadd dL_law_455 ?_
        obtain ⟨hb_76, h⟩ := h
        refine Ev_sld dL_law_456 rfl hb_76 ?_
        refine Ev_aload_n dL_law_457 0 rfl ?_
        refine Ev_iload_n dL_law_458 3 rfl ?_
        refine Ev_iconst (v := 3) dL_law_459 rfl ⟨by decide, by decide⟩ ?_
        refine Ev_iadd dL_law_460 ?_
        obtain ⟨hb_77, h⟩ := h
        refine Ev_sld dL_law_461 rfl hb_77 ?_
        refine Ev_invV (d' := 3) [(0, xs (w32 (v3_1 + 1)).toNat), (0, xs (w32 (v3_1 + 2)).toNat), (0, xs (w32 (v3_1 + 3)).toNat)] 68 dL_law_462 M_X10_order q_1163 (by decide) rfl rfl sh_68 rfl (Nat.le_of_ble_eq_true rfl) (k_X10_order h) ?_
        rintro _ s_79 ⟨r_78, rfl, h⟩
        refine Ev_icmp_eq (tgt := 1147) dL_law_465 (by decide) (fun hc => ?_) (fun hc => ?_)
        · replace h := h.1 hc
          exact hK_6 _ h
        · replace h := h.2 hc
          refine Ev_iconst (v := 0) dL_law_468 rfl ⟨by decide, by decide⟩ ?_
          exact Ev_ret dL_law_469 (Or.inl rfl) (poIs_mk h)
      · replace h := h.2.2.2.2.2.2.2.2.1 hc
        refine Ev_tabIn (tgt := 470) (off := 437) dL_law_33 (by omega) (by omega) (by rw [hc]; rfl) (by decide) ?_
        refine Ev_aload_n dL_law_470 1 rfl ?_
        refine Ev_aload_n dL_law_471 0 rfl ?_
        refine Ev_iload_n dL_law_472 3 rfl ?_
        refine Ev_iconst (v := 1) dL_law_473 rfl ⟨by decide, by decide⟩ ?_
        refine Ev_iadd dL_law_474 ?_
        obtain ⟨hb_80, h⟩ := h
        refine Ev_sld dL_law_475 rfl hb_80 ?_
        refine Ev_aload_n dL_law_476 0 rfl ?_
        refine Ev_iload_n dL_law_477 3 rfl ?_
        refine Ev_iconst (v := 2) dL_law_478 rfl ⟨by decide, by decide⟩ ?_
        refine Ev_iadd dL_law_479 ?_
        obtain ⟨hb_81, h⟩ := h
        refine Ev_sld dL_law_480 rfl hb_81 ?_
        refine Ev_invV (d' := 6) [(0, xs (w32 (v3_1 + 1)).toNat), (0, xs (w32 (v3_1 + 2)).toNat)] 0 dL_law_481 M_X9_slab q_617 (by decide) rfl rfl sh_0 rfl (Nat.le_of_ble_eq_true rfl) (k_X9_slab h) ?_
        rintro _ s_83 ⟨r_82, rfl, h⟩
        refine Ev_aload_n dL_law_484 2 rfl ?_
        refine Ev_aload_n dL_law_485 0 rfl ?_
        refine Ev_iload_n dL_law_486 3 rfl ?_
        refine Ev_iconst (v := 1) dL_law_487 rfl ⟨by decide, by decide⟩ ?_
        refine Ev_iadd dL_law_488 ?_
        obtain ⟨hb_84, h⟩ := h
        refine Ev_sld dL_law_489 rfl hb_84 ?_
        refine Ev_aload_n dL_law_490 0 rfl ?_
        refine Ev_iload_n dL_law_491 3 rfl ?_
        refine Ev_iconst (v := 2) dL_law_492 rfl ⟨by decide, by decide⟩ ?_
        refine Ev_iadd dL_law_493 ?_
        obtain ⟨hb_85, h⟩ := h
        refine Ev_sld dL_law_494 rfl hb_85 ?_
        refine Ev_invV (d' := 105) [(0, xs (w32 (v3_1 + 1)).toNat), (0, xs (w32 (v3_1 + 2)).toNat)] 68 dL_law_495 M_X10_slab q_1187 (by decide) rfl rfl sh_68 rfl (Nat.le_of_ble_eq_true rfl) (k_X10_slab h) ?_
        rintro _ s_87 ⟨r_86, rfl, h⟩
        refine Ev_icmp_eq (tgt := 1147) dL_law_498 (by decide) (fun hc => ?_) (fun hc => ?_)
        · replace h := h.1 hc
          exact hK_6 _ h
        · replace h := h.2 hc
          refine Ev_iconst (v := 0) dL_law_501 rfl ⟨by decide, by decide⟩ ?_
          exact Ev_ret dL_law_502 (Or.inl rfl) (poIs_mk h)
      · replace h := h.2.2.2.2.2.2.2.2.2.1 hc
        refine Ev_tabIn (tgt := 503) (off := 470) dL_law_33 (by omega) (by omega) (by rw [hc]; rfl) (by decide) ?_
        refine Ev_aload_n dL_law_503 1 rfl ?_
        refine Ev_aload_n dL_law_504 0 rfl ?_
        refine Ev_iload_n dL_law_505 3 rfl ?_
        refine Ev_iconst (v := 1) dL_law_506 rfl ⟨by decide, by decide⟩ ?_
        refine Ev_iadd dL_law_507 ?_
        obtain ⟨hb_88, h⟩ := h
        refine Ev_sld dL_law_508 rfl hb_88 ?_
        refine Ev_aload_n dL_law_509 0 rfl ?_
        refine Ev_iload_n dL_law_510 3 rfl ?_
        refine Ev_iconst (v := 2) dL_law_511 rfl ⟨by decide, by decide⟩ ?_
        refine Ev_iadd dL_law_512 ?_
        obtain ⟨hb_89, h⟩ := h
        refine Ev_sld dL_law_513 rfl hb_89 ?_
        refine Ev_invV (d' := 6) [(0, xs (w32 (v3_1 + 1)).toNat), (0, xs (w32 (v3_1 + 2)).toNat)] 0 dL_law_514 M_X9_cell q_709 (by decide) rfl rfl sh_0 rfl (Nat.le_of_ble_eq_true rfl) (k_X9_cell h) ?_
        rintro _ s_91 ⟨r_90, rfl, h⟩
        refine Ev_aload_n dL_law_517 2 rfl ?_
        refine Ev_aload_n dL_law_518 0 rfl ?_
        refine Ev_iload_n dL_law_519 3 rfl ?_
        refine Ev_iconst (v := 1) dL_law_520 rfl ⟨by decide, by decide⟩ ?_
        refine Ev_iadd dL_law_521 ?_
        obtain ⟨hb_92, h⟩ := h
        refine Ev_sld dL_law_522 rfl hb_92 ?_
        refine Ev_aload_n dL_law_523 0 rfl ?_
        refine Ev_iload_n dL_law_524 3 rfl ?_
        refine Ev_iconst (v := 2) dL_law_525 rfl ⟨by decide, by decide⟩ ?_
        refine Ev_iadd dL_law_526 ?_
        obtain ⟨hb_93, h⟩ := h
        refine Ev_sld dL_law_527 rfl hb_93 ?_
        refine Ev_invV (d' := 105) [(0, xs (w32 (v3_1 + 1)).toNat), (0, xs (w32 (v3_1 + 2)).toNat)] 68 dL_law_528 M_X10_cell q_1240 (by decide) rfl rfl sh_68 rfl (Nat.le_of_ble_eq_true rfl) (k_X10_cell h) ?_
        rintro _ s_95 ⟨r_94, rfl, h⟩
        refine Ev_icmp_eq (tgt := 1147) dL_law_531 (by decide) (fun hc => ?_) (fun hc => ?_)
        · replace h := h.1 hc
          exact hK_6 _ h
        · replace h := h.2 hc
          refine Ev_iconst (v := 0) dL_law_534 rfl ⟨by decide, by decide⟩ ?_
          exact Ev_ret dL_law_535 (Or.inl rfl) (poIs_mk h)
      · replace h := h.2.2.2.2.2.2.2.2.2.2.1 hc
        refine Ev_tabIn (tgt := 536) (off := 503) dL_law_33 (by omega) (by omega) (by rw [hc]; rfl) (by decide) ?_
        refine Ev_aload_n dL_law_536 1 rfl ?_
        refine Ev_aload_n dL_law_537 0 rfl ?_
        refine Ev_iload_n dL_law_538 3 rfl ?_
        refine Ev_iconst (v := 1) dL_law_539 rfl ⟨by decide, by decide⟩ ?_
        refine Ev_iadd dL_law_540 ?_
        obtain ⟨hb_96, h⟩ := h
        refine Ev_sld dL_law_541 rfl hb_96 ?_
        refine Ev_aload_n dL_law_542 0 rfl ?_
        refine Ev_iload_n dL_law_543 3 rfl ?_
        refine Ev_iconst (v := 2) dL_law_544 rfl ⟨by decide, by decide⟩ ?_
        refine Ev_iadd dL_law_545 ?_
        obtain ⟨hb_97, h⟩ := h
        refine Ev_sld dL_law_546 rfl hb_97 ?_
        refine Ev_invV (d' := 6) [(0, xs (w32 (v3_1 + 1)).toNat), (0, xs (w32 (v3_1 + 2)).toNat)] 0 dL_law_547 M_X9_face q_714 (by decide) rfl rfl sh_0 rfl (Nat.le_of_ble_eq_true rfl) (k_X9_face h) ?_
        rintro _ s_99 ⟨r_98, rfl, h⟩
        refine Ev_aload_n dL_law_550 2 rfl ?_
        refine Ev_aload_n dL_law_551 0 rfl ?_
        refine Ev_iload_n dL_law_552 3 rfl ?_
        refine Ev_iconst (v := 1) dL_law_553 rfl ⟨by decide, by decide⟩ ?_
        refine Ev_iadd dL_law_554 ?_
        obtain ⟨hb_100, h⟩ := h
        refine Ev_sld dL_law_555 rfl hb_100 ?_
        refine Ev_aload_n dL_law_556 0 rfl ?_
        refine Ev_iload_n dL_law_557 3 rfl ?_
        refine Ev_iconst (v := 2) dL_law_558 rfl ⟨by decide, by decide⟩ ?_
        refine Ev_iadd dL_law_559 ?_
        obtain ⟨hb_101, h⟩ := h
        refine Ev_sld dL_law_560 rfl hb_101 ?_
        refine Ev_invV (d' := 105) [(0, xs (w32 (v3_1 + 1)).toNat), (0, xs (w32 (v3_1 + 2)).toNat)] 68 dL_law_561 M_X10_face q_1244 (by decide) rfl rfl sh_68 rfl (Nat.le_of_ble_eq_true rfl) (k_X10_face h) ?_
        rintro _ s_103 ⟨r_102, rfl, h⟩
        refine Ev_icmp_eq (tgt := 1147) dL_law_564 (by decide) (fun hc => ?_) (fun hc => ?_)
        · replace h := h.1 hc
          exact hK_6 _ h
        · replace h := h.2 hc
          refine Ev_iconst (v := 0) dL_law_567 rfl ⟨by decide, by decide⟩ ?_
          exact Ev_ret dL_law_568 (Or.inl rfl) (poIs_mk h)
      · replace h := h.2.2.2.2.2.2.2.2.2.2.2.1 hc
        refine Ev_tabIn (tgt := 569) (off := 536) dL_law_33 (by omega) (by omega) (by rw [hc]; rfl) (by decide) ?_
        refine Ev_aload_n dL_law_569 1 rfl ?_
        refine Ev_aload_n dL_law_570 0 rfl ?_
        refine Ev_iload_n dL_law_571 3 rfl ?_
        refine Ev_iconst (v := 1) dL_law_572 rfl ⟨by decide, by decide⟩ ?_
        refine Ev_iadd dL_law_573 ?_
        obtain ⟨hb_104, h⟩ := h
        refine Ev_sld dL_law_574 rfl hb_104 ?_
        refine Ev_aload_n dL_law_575 0 rfl ?_
        refine Ev_iload_n dL_law_576 3 rfl ?_
        refine Ev_iconst (v := 2) dL_law_577 rfl ⟨by decide, by decide⟩ ?_
        refine Ev_iadd dL_law_578 ?_
        obtain ⟨hb_105, h⟩ := h
        refine Ev_sld dL_law_579 rfl hb_105 ?_
        refine Ev_aload_n dL_law_580 0 rfl ?_
        refine Ev_iload_n dL_law_581 3 rfl ?_
        refine Ev_iconst (v := 3) dL_law_582 rfl ⟨by decide, by decide⟩ ?_
        refine Ev_iadd dL_law_583 ?_
        obtain ⟨hb_106, h⟩ := h
        refine Ev_sld dL_law_584 rfl hb_106 ?_
        refine Ev_invV (d' := 6) [(0, xs (w32 (v3_1 + 1)).toNat), (0, xs (w32 (v3_1 + 2)).toNat), (0, xs (w32 (v3_1 + 3)).toNat)] 0 dL_law_585 M_X9_where q_724 (by decide) rfl rfl sh_0 rfl (Nat.le_of_ble_eq_true rfl) (k_X9_where h) ?_
        rintro _ s_108 ⟨r_107, rfl, h⟩
        refine Ev_aload_n dL_law_588 2 rfl ?_
        refine Ev_aload_n dL_law_589 0 rfl ?_
        refine Ev_iload_n dL_law_590 3 rfl ?_
        refine Ev_iconst (v := 1) dL_law_591 rfl ⟨by decide, by decide⟩ ?_
        refine Ev_iadd dL_law_592 ?_
        obtain ⟨hb_109, h⟩ := h
        refine Ev_sld dL_law_593 rfl hb_109 ?_
        refine Ev_aload_n dL_law_594 0 rfl ?_
        refine Ev_iload_n dL_law_595 3 rfl ?_
        refine Ev_iconst (v := 2) dL_law_596 rfl ⟨by decide, by decide⟩ ?_
        refine Ev_iadd dL_law_597 ?_
        obtain ⟨hb_110, h⟩ := h
        refine Ev_sld dL_law_598 rfl hb_110 ?_
        refine Ev_aload_n dL_law_599 0 rfl ?_
        refine Ev_iload_n dL_law_600 3 rfl ?_
        refine Ev_iconst (v := 3) dL_law_601 rfl ⟨by decide, by decide⟩ ?_
        refine Ev_iadd dL_law_602 ?_
        obtain ⟨hb_111, h⟩ := h
        refine Ev_sld dL_law_603 rfl hb_111 ?_
        refine Ev_invV (d' := 105) [(0, xs (w32 (v3_1 + 1)).toNat), (0, xs (w32 (v3_1 + 2)).toNat), (0, xs (w32 (v3_1 + 3)).toNat)] 68 dL_law_604 M_X10_where q_1272 (by decide) rfl rfl sh_68 rfl (Nat.le_of_ble_eq_true rfl) (k_X10_where h) ?_
        rintro _ s_113 ⟨r_112, rfl, h⟩
        refine Ev_icmp_eq (tgt := 1147) dL_law_607 (by decide) (fun hc => ?_) (fun hc => ?_)
        · replace h := h.1 hc
          exact hK_6 _ h
        · replace h := h.2 hc
          refine Ev_iconst (v := 0) dL_law_610 rfl ⟨by decide, by decide⟩ ?_
          exact Ev_ret dL_law_611 (Or.inl rfl) (poIs_mk h)
      · replace h := h.2.2.2.2.2.2.2.2.2.2.2.2.1 hc
        refine Ev_tabIn (tgt := 612) (off := 579) dL_law_33 (by omega) (by omega) (by rw [hc]; rfl) (by decide) ?_
        refine Ev_aload_n dL_law_612 1 rfl ?_
        refine Ev_aload_n dL_law_613 0 rfl ?_
        refine Ev_iload_n dL_law_614 3 rfl ?_
        refine Ev_iconst (v := 1) dL_law_615 rfl ⟨by decide, by decide⟩ ?_
        refine Ev_iadd dL_law_616 ?_
        obtain ⟨hb_114, h⟩ := h
        refine Ev_sld dL_law_617 rfl hb_114 ?_
        refine Ev_aload_n dL_law_618 0 rfl ?_
        refine Ev_iload_n dL_law_619 3 rfl ?_
        refine Ev_iconst (v := 2) dL_law_620 rfl ⟨by decide, by decide⟩ ?_
        refine Ev_iadd dL_law_621 ?_
        obtain ⟨hb_115, h⟩ := h
        refine Ev_sld dL_law_622 rfl hb_115 ?_
        refine Ev_aload_n dL_law_623 0 rfl ?_
        refine Ev_iload_n dL_law_624 3 rfl ?_
        refine Ev_iconst (v := 3) dL_law_625 rfl ⟨by decide, by decide⟩ ?_
        refine Ev_iadd dL_law_626 ?_
        obtain ⟨hb_116, h⟩ := h
        refine Ev_sld dL_law_627 rfl hb_116 ?_
        refine Ev_invV (d' := 3) [(0, xs (w32 (v3_1 + 1)).toNat), (0, xs (w32 (v3_1 + 2)).toNat), (0, xs (w32 (v3_1 + 3)).toNat)] 0 dL_law_628 M_X9_on q_743 (by decide) rfl rfl sh_0 rfl (Nat.le_of_ble_eq_true rfl) (k_X9_on h) ?_
        rintro _ _ ⟨rfl, r_117, rfl, h⟩
        refine Ev_aload_n dL_law_631 2 rfl ?_
        refine Ev_aload_n dL_law_632 0 rfl ?_
        refine Ev_iload_n dL_law_633 3 rfl ?_
        refine Ev_iconst (v := 1) dL_law_634 rfl ⟨by decide, by decide⟩ ?_
        refine Ev_iadd dL_law_635 ?_
        obtain ⟨hb_118, h⟩ := h
        refine Ev_sld dL_law_636 rfl hb_118 ?_
        refine Ev_aload_n dL_law_637 0 rfl ?_
        refine Ev_iload_n dL_law_638 3 rfl ?_
        refine Ev_iconst (v := 2) dL_law_639 rfl ⟨by decide, by decide⟩ ?_
        refine Ev_iadd dL_law_640 ?_
        obtain ⟨hb_119, h⟩ := h
        refine Ev_sld dL_law_641 rfl hb_119 ?_
        refine Ev_aload_n dL_law_642 0 rfl ?_
        refine Ev_iload_n dL_law_643 3 rfl ?_
        refine Ev_iconst (v := 3) dL_law_644 rfl ⟨by decide, by decide⟩ ?_
        refine Ev_iadd dL_law_645 ?_
        obtain ⟨hb_120, h⟩ := h
        refine Ev_sld dL_law_646 rfl hb_120 ?_
        refine Ev_invV (d' := 3) [(0, xs (w32 (v3_1 + 1)).toNat), (0, xs (w32 (v3_1 + 2)).toNat), (0, xs (w32 (v3_1 + 3)).toNat)] 68 dL_law_647 M_X10_on q_1279 (by decide) rfl rfl sh_68 rfl (Nat.le_of_ble_eq_true rfl) (k_X10_on h) ?_
        rintro _ _ ⟨rfl, r_121, rfl, h⟩
        refine Ev_icmp_eq (tgt := 1147) dL_law_650 (by decide) (fun hc => ?_) (fun hc => ?_)
        · replace h := h.1 hc
          exact hK_6 _ h
        · replace h := h.2 hc
          refine Ev_iconst (v := 0) dL_law_653 rfl ⟨by decide, by decide⟩ ?_
          exact Ev_ret dL_law_654 (Or.inl rfl) (poIs_mk h)
      · replace h := h.2.2.2.2.2.2.2.2.2.2.2.2.2.1 hc
        refine Ev_tabIn (tgt := 655) (off := 622) dL_law_33 (by omega) (by omega) (by rw [hc]; rfl) (by decide) ?_
        refine Ev_aload_n dL_law_655 1 rfl ?_
        refine Ev_aload_n dL_law_656 0 rfl ?_
        refine Ev_iload_n dL_law_657 3 rfl ?_
        refine Ev_iconst (v := 1) dL_law_658 rfl ⟨by decide, by decide⟩ ?_
        refine Ev_iadd dL_law_659 ?_
        obtain ⟨hb_122, h⟩ := h
        refine Ev_sld dL_law_660 rfl hb_122 ?_
        refine Ev_aload_n dL_law_661 0 rfl ?_
        refine Ev_iload_n dL_law_662 3 rfl ?_
        refine Ev_iconst (v := 2) dL_law_663 rfl ⟨by decide, by decide⟩ ?_
        refine Ev_iadd dL_law_664 ?_
        obtain ⟨hb_123, h⟩ := h
        refine Ev_sld dL_law_665 rfl hb_123 ?_
        refine Ev_invV (d' := 6) [(0, xs (w32 (v3_1 + 1)).toNat), (0, xs (w32 (v3_1 + 2)).toNat)] 0 dL_law_666 M_X9_hops q_747 (by decide) rfl rfl sh_0 rfl (Nat.le_of_ble_eq_true rfl) (k_X9_hops h) ?_
        rintro _ s_125 ⟨r_124, rfl, h⟩
        refine Ev_aload_n dL_law_669 2 rfl ?_
        refine Ev_aload_n dL_law_670 0 rfl ?_
        refine Ev_iload_n dL_law_671 3 rfl ?_
        refine Ev_iconst (v := 1) dL_law_672 rfl ⟨by decide, by decide⟩ ?_
        refine Ev_iadd dL_law_673 ?_
        obtain ⟨hb_126, h⟩ := h
        refine Ev_sld dL_law_674 rfl hb_126 ?_
        refine Ev_aload_n dL_law_675 0 rfl ?_
        refine Ev_iload_n dL_law_676 3 rfl ?_
        refine Ev_iconst (v := 2) dL_law_677 rfl ⟨by decide, by decide⟩ ?_
        refine Ev_iadd dL_law_678 ?_
        obtain ⟨hb_127, h⟩ := h
        refine Ev_sld dL_law_679 rfl hb_127 ?_
        refine Ev_invV (d' := 105) [(0, xs (w32 (v3_1 + 1)).toNat), (0, xs (w32 (v3_1 + 2)).toNat)] 68 dL_law_680 M_X10_hops q_1283 (by decide) rfl rfl sh_68 rfl (Nat.le_of_ble_eq_true rfl) (k_X10_hops h) ?_
        rintro _ s_129 ⟨r_128, rfl, h⟩
        refine Ev_icmp_eq (tgt := 1147) dL_law_683 (by decide) (fun hc => ?_) (fun hc => ?_)
        · replace h := h.1 hc
          exact hK_6 _ h
        · replace h := h.2 hc
          refine Ev_iconst (v := 0) dL_law_686 rfl ⟨by decide, by decide⟩ ?_
          exact Ev_ret dL_law_687 (Or.inl rfl) (poIs_mk h)
      · replace h := h.2.2.2.2.2.2.2.2.2.2.2.2.2.2.1 hc
        refine Ev_tabIn (tgt := 688) (off := 655) dL_law_33 (by omega) (by omega) (by rw [hc]; rfl) (by decide) ?_
        refine Ev_aload_n dL_law_688 1 rfl ?_
        refine Ev_aload_n dL_law_689 0 rfl ?_
        refine Ev_iload_n dL_law_690 3 rfl ?_
        refine Ev_iconst (v := 1) dL_law_691 rfl ⟨by decide, by decide⟩ ?_
        refine Ev_iadd dL_law_692 ?_
        obtain ⟨hb_130, h⟩ := h
        refine Ev_sld dL_law_693 rfl hb_130 ?_
        refine Ev_invV (d' := 6) [(0, xs (w32 (v3_1 + 1)).toNat)] 0 dL_law_694 M_X9_count q_755 (by decide) rfl rfl sh_0 rfl (Nat.le_of_ble_eq_true rfl) (k_X9_count h) ?_
        rintro _ s_132 ⟨r_131, rfl, h⟩
        refine Ev_aload_n dL_law_697 2 rfl ?_
        refine Ev_aload_n dL_law_698 0 rfl ?_
        refine Ev_iload_n dL_law_699 3 rfl ?_
        refine Ev_iconst (v := 1) dL_law_700 rfl ⟨by decide, by decide⟩ ?_
        refine Ev_iadd dL_law_701 ?_
        obtain ⟨hb_133, h⟩ := h
        refine Ev_sld dL_law_702 rfl hb_133 ?_
        refine Ev_invV (d' := 105) [(0, xs (w32 (v3_1 + 1)).toNat)] 68 dL_law_703 M_X10_count q_1287 (by decide) rfl rfl sh_68 rfl (Nat.le_of_ble_eq_true rfl) (k_X10_count h) ?_
        rintro _ s_135 ⟨r_134, rfl, h⟩
        refine Ev_icmp_eq (tgt := 1147) dL_law_706 (by decide) (fun hc => ?_) (fun hc => ?_)
        · replace h := h.1 hc
          exact hK_6 _ h
        · replace h := h.2 hc
          refine Ev_iconst (v := 0) dL_law_709 rfl ⟨by decide, by decide⟩ ?_
          exact Ev_ret dL_law_710 (Or.inl rfl) (poIs_mk h)
      · replace h := h.2.2.2.2.2.2.2.2.2.2.2.2.2.2.2.1 hc
        refine Ev_tabIn (tgt := 711) (off := 678) dL_law_33 (by omega) (by omega) (by rw [hc]; rfl) (by decide) ?_
        refine Ev_aload_n dL_law_711 1 rfl ?_
        refine Ev_aload_n dL_law_712 0 rfl ?_
        refine Ev_iload_n dL_law_713 3 rfl ?_
        refine Ev_iconst (v := 1) dL_law_714 rfl ⟨by decide, by decide⟩ ?_
        refine Ev_iadd dL_law_715 ?_
        obtain ⟨hb_136, h⟩ := h
        refine Ev_sld dL_law_716 rfl hb_136 ?_
        refine Ev_invV (d' := 6) [(0, xs (w32 (v3_1 + 1)).toNat)] 0 dL_law_717 M_X9_without q_759 (by decide) rfl rfl sh_0 rfl (Nat.le_of_ble_eq_true rfl) (k_X9_without h) ?_
        rintro _ s_138 ⟨r_137, rfl, h⟩
        refine Ev_aload_n dL_law_720 2 rfl ?_
        refine Ev_aload_n dL_law_721 0 rfl ?_
        refine Ev_iload_n dL_law_722 3 rfl ?_
        refine Ev_iconst (v := 1) dL_law_723 rfl ⟨by decide, by decide⟩ ?_
        refine Ev_iadd dL_law_724 ?_
        obtain ⟨hb_139, h⟩ := h
        refine Ev_sld dL_law_725 rfl hb_139 ?_
        refine Ev_invV (d' := 107) [(0, xs (w32 (v3_1 + 1)).toNat)] 68 dL_law_726 M_X10_without q_1299 (by decide) rfl rfl sh_68 rfl (Nat.le_of_ble_eq_true rfl) (k_X10_without h) ?_
        rintro _ s_141 ⟨r_140, rfl, h⟩
        refine Ev_icmp_eq (tgt := 1147) dL_law_729 (by decide) (fun hc => ?_) (fun hc => ?_)
        · replace h := h.1 hc
          exact hK_6 _ h
        · replace h := h.2 hc
          refine Ev_iconst (v := 0) dL_law_732 rfl ⟨by decide, by decide⟩ ?_
          exact Ev_ret dL_law_733 (Or.inl rfl) (poIs_mk h)
      · replace h := h.2.2.2.2.2.2.2.2.2.2.2.2.2.2.2.2.1 hc
        refine Ev_tabIn (tgt := 734) (off := 701) dL_law_33 (by omega) (by omega) (by rw [hc]; rfl) (by decide) ?_
        refine Ev_aload_n dL_law_734 1 rfl ?_
        refine Ev_aload_n dL_law_735 0 rfl ?_
        refine Ev_iload_n dL_law_736 3 rfl ?_
        refine Ev_iconst (v := 1) dL_law_737 rfl ⟨by decide, by decide⟩ ?_
        refine Ev_iadd dL_law_738 ?_
        obtain ⟨hb_142, h⟩ := h
        refine Ev_sld dL_law_739 rfl hb_142 ?_
        refine Ev_invV (d' := 6) [(0, xs (w32 (v3_1 + 1)).toNat)] 0 dL_law_740 M_X9_most q_775 (by decide) rfl rfl sh_0 rfl (Nat.le_of_ble_eq_true rfl) (k_X9_most h) ?_
        rintro _ s_144 ⟨r_143, rfl, h⟩
        refine Ev_aload_n dL_law_743 2 rfl ?_
        refine Ev_aload_n dL_law_744 0 rfl ?_
        refine Ev_iload_n dL_law_745 3 rfl ?_
        refine Ev_iconst (v := 1) dL_law_746 rfl ⟨by decide, by decide⟩ ?_
        refine Ev_iadd dL_law_747 ?_
        obtain ⟨hb_145, h⟩ := h
        refine Ev_sld dL_law_748 rfl hb_145 ?_
        refine Ev_invV (d' := 107) [(0, xs (w32 (v3_1 + 1)).toNat)] 68 dL_law_749 M_X10_most q_1324 (by decide) rfl rfl sh_68 rfl (Nat.le_of_ble_eq_true rfl) (k_X10_most h) ?_
        rintro _ s_147 ⟨r_146, rfl, h⟩
        refine Ev_icmp_eq (tgt := 1147) dL_law_752 (by decide) (fun hc => ?_) (fun hc => ?_)
        · replace h := h.1 hc
          exact hK_6 _ h
        · replace h := h.2 hc
          refine Ev_iconst (v := 0) dL_law_755 rfl ⟨by decide, by decide⟩ ?_
          exact Ev_ret dL_law_756 (Or.inl rfl) (poIs_mk h)
      · replace h := h.2.2.2.2.2.2.2.2.2.2.2.2.2.2.2.2.2.1 hc
        refine Ev_tabIn (tgt := 757) (off := 724) dL_law_33 (by omega) (by omega) (by rw [hc]; rfl) (by decide) ?_
        refine Ev_aload_n dL_law_757 1 rfl ?_
        refine Ev_aload_n dL_law_758 0 rfl ?_
        refine Ev_iload_n dL_law_759 3 rfl ?_
        refine Ev_iconst (v := 1) dL_law_760 rfl ⟨by decide, by decide⟩ ?_
        refine Ev_iadd dL_law_761 ?_
        obtain ⟨hb_148, h⟩ := h
        refine Ev_sld dL_law_762 rfl hb_148 ?_
        refine Ev_aload_n dL_law_763 0 rfl ?_
        refine Ev_iload_n dL_law_764 3 rfl ?_
        refine Ev_iconst (v := 2) dL_law_765 rfl ⟨by decide, by decide⟩ ?_
        refine Ev_iadd dL_law_766 ?_
        obtain ⟨hb_149, h⟩ := h
        refine Ev_sld dL_law_767 rfl hb_149 ?_
        refine Ev_invV (d' := 6) [(0, xs (w32 (v3_1 + 1)).toNat), (0, xs (w32 (v3_1 + 2)).toNat)] 0 dL_law_768 M_X9_drawn q_779 (by decide) rfl rfl sh_0 rfl (Nat.le_of_ble_eq_true rfl) (k_X9_drawn h) ?_
        rintro _ s_151 ⟨r_150, rfl, h⟩
        refine Ev_aload_n dL_law_771 2 rfl ?_
        refine Ev_aload_n dL_law_772 0 rfl ?_
        refine Ev_iload_n dL_law_773 3 rfl ?_
        refine Ev_iconst (v := 1) dL_law_774 rfl ⟨by decide, by decide⟩ ?_
        refine Ev_iadd dL_law_775 ?_
        obtain ⟨hb_152, h⟩ := h
        refine Ev_sld dL_law_776 rfl hb_152 ?_
        refine Ev_aload_n dL_law_777 0 rfl ?_
        refine Ev_iload_n dL_law_778 3 rfl ?_
        refine Ev_iconst (v := 2) dL_law_779 rfl ⟨by decide, by decide⟩ ?_
        refine Ev_iadd dL_law_780 ?_
        obtain ⟨hb_153, h⟩ := h
        refine Ev_sld dL_law_781 rfl hb_153 ?_
        refine Ev_invV (d' := 107) [(0, xs (w32 (v3_1 + 1)).toNat), (0, xs (w32 (v3_1 + 2)).toNat)] 68 dL_law_782 M_X10_drawn q_1328 (by decide) rfl rfl sh_68 rfl (Nat.le_of_ble_eq_true rfl) (k_X10_drawn h) ?_
        rintro _ s_155 ⟨r_154, rfl, h⟩
        refine Ev_icmp_eq (tgt := 1147) dL_law_785 (by decide) (fun hc => ?_) (fun hc => ?_)
        · replace h := h.1 hc
          exact hK_6 _ h
        · replace h := h.2 hc
          refine Ev_iconst (v := 0) dL_law_788 rfl ⟨by decide, by decide⟩ ?_
          exact Ev_ret dL_law_789 (Or.inl rfl) (poIs_mk h)
      · replace h := h.2.2.2.2.2.2.2.2.2.2.2.2.2.2.2.2.2.2.1 hc
        refine Ev_tabIn (tgt := 790) (off := 757) dL_law_33 (by omega) (by omega) (by rw [hc]; rfl) (by decide) ?_
        refine Ev_aload_n dL_law_790 1 rfl ?_
        refine Ev_aload_n dL_law_791 0 rfl ?_
        refine Ev_iload_n dL_law_792 3 rfl ?_
        refine Ev_iconst (v := 1) dL_law_793 rfl ⟨by decide, by decide⟩ ?_
        refine Ev_iadd dL_law_794 ?_
        obtain ⟨hb_156, h⟩ := h
        refine Ev_sld dL_law_795 rfl hb_156 ?_
        refine Ev_aload_n dL_law_796 0 rfl ?_
        refine Ev_iload_n dL_law_797 3 rfl ?_
        refine Ev_iconst (v := 2) dL_law_798 rfl ⟨by decide, by decide⟩ ?_
        refine Ev_iadd dL_law_799 ?_
        obtain ⟨hb_157, h⟩ := h
        refine Ev_sld dL_law_800 rfl hb_157 ?_
        refine Ev_aload_n dL_law_801 0 rfl ?_
        refine Ev_iload_n dL_law_802 3 rfl ?_
        refine Ev_iconst (v := 3) dL_law_803 rfl ⟨by decide, by decide⟩ ?_
        refine Ev_iadd dL_law_804 ?_
        obtain ⟨hb_158, h⟩ := h
        refine Ev_sld dL_law_805 rfl hb_158 ?_
        refine Ev_aload_n dL_law_806 0 rfl ?_
        refine Ev_iload_n dL_law_807 3 rfl ?_
        refine Ev_iconst (v := 4) dL_law_808 rfl ⟨by decide, by decide⟩ ?_
        refine Ev_iadd dL_law_809 ?_
        obtain ⟨hb_159, h⟩ := h
        refine Ev_sld dL_law_810 rfl hb_159 ?_
        refine Ev_invV (d' := 6) [(0, xs (w32 (v3_1 + 1)).toNat), (0, xs (w32 (v3_1 + 2)).toNat), (0, xs (w32 (v3_1 + 3)).toNat), (0, xs (w32 (v3_1 + 4)).toNat)] 0 dL_law_811 M_X9_chance q_794 (by decide) rfl rfl sh_0 rfl (Nat.le_of_ble_eq_true rfl) (k_X9_chance h) ?_
        rintro _ s_161 ⟨r_160, rfl, h⟩
        refine Ev_aload_n dL_law_814 2 rfl ?_
        refine Ev_aload_n dL_law_815 0 rfl ?_
        refine Ev_iload_n dL_law_816 3 rfl ?_
        refine Ev_iconst (v := 1) dL_law_817 rfl ⟨by decide, by decide⟩ ?_
        refine Ev_iadd dL_law_818 ?_
        obtain ⟨hb_162, h⟩ := h
        refine Ev_sld dL_law_819 rfl hb_162 ?_
        refine Ev_aload_n dL_law_820 0 rfl ?_
        refine Ev_iload_n dL_law_821 3 rfl ?_
        refine Ev_iconst (v := 2) dL_law_822 rfl ⟨by decide, by decide⟩ ?_
        refine Ev_iadd dL_law_823 ?_
        obtain ⟨hb_163, h⟩ := h
        refine Ev_sld dL_law_824 rfl hb_163 ?_
        refine Ev_aload_n dL_law_825 0 rfl ?_
        refine Ev_iload_n dL_law_826 3 rfl ?_
        refine Ev_iconst (v := 3) dL_law_827 rfl ⟨by decide, by decide⟩ ?_
        refine Ev_iadd dL_law_828 ?_
        obtain ⟨hb_164, h⟩ := h
        refine Ev_sld dL_law_829 rfl hb_164 ?_
        refine Ev_aload_n dL_law_830 0 rfl ?_
        refine Ev_iload_n dL_law_831 3 rfl ?_
        refine Ev_iconst (v := 4) dL_law_832 rfl ⟨by decide, by decide⟩ ?_
        refine Ev_iadd dL_law_833 ?_
        obtain ⟨hb_165, h⟩ := h
        refine Ev_sld dL_law_834 rfl hb_165 ?_
        refine Ev_invV (d' := 107) [(0, xs (w32 (v3_1 + 1)).toNat), (0, xs (w32 (v3_1 + 2)).toNat), (0, xs (w32 (v3_1 + 3)).toNat), (0, xs (w32 (v3_1 + 4)).toNat)] 68 dL_law_835 M_X10_chance q_1342 (by decide) rfl rfl sh_68 rfl (Nat.le_of_ble_eq_true rfl) (k_X10_chance h) ?_
        rintro _ s_167 ⟨r_166, rfl, h⟩
        refine Ev_icmp_eq (tgt := 1147) dL_law_838 (by decide) (fun hc => ?_) (fun hc => ?_)
        · replace h := h.1 hc
          exact hK_6 _ h
        · replace h := h.2 hc
          refine Ev_iconst (v := 0) dL_law_841 rfl ⟨by decide, by decide⟩ ?_
          exact Ev_ret dL_law_842 (Or.inl rfl) (poIs_mk h)
      · replace h := h.2.2.2.2.2.2.2.2.2.2.2.2.2.2.2.2.2.2.2.1 hc
        refine Ev_tabIn (tgt := 843) (off := 810) dL_law_33 (by omega) (by omega) (by rw [hc]; rfl) (by decide) ?_
        refine Ev_aload_n dL_law_843 1 rfl ?_
        refine Ev_aload_n dL_law_844 0 rfl ?_
        refine Ev_iload_n dL_law_845 3 rfl ?_
        refine Ev_iconst (v := 1) dL_law_846 rfl ⟨by decide, by decide⟩ ?_
        refine Ev_iadd dL_law_847 ?_
        obtain ⟨hb_168, h⟩ := h
        refine Ev_sld dL_law_848 rfl hb_168 ?_
        refine Ev_aload_n dL_law_849 0 rfl ?_
        refine Ev_iload_n dL_law_850 3 rfl ?_
        refine Ev_iconst (v := 2) dL_law_851 rfl ⟨by decide, by decide⟩ ?_
        refine Ev_iadd dL_law_852 ?_
        obtain ⟨hb_169, h⟩ := h
        refine Ev_sld dL_law_853 rfl hb_169 ?_
        refine Ev_aload_n dL_law_854 0 rfl ?_
        refine Ev_iload_n dL_law_855 3 rfl ?_
        refine Ev_iconst (v := 3) dL_law_856 rfl ⟨by decide, by decide⟩ ?_
        refine Ev_iadd dL_law_857 ?_
        obtain ⟨hb_170, h⟩ := h
        refine Ev_sld dL_law_858 rfl hb_170 ?_
        refine Ev_invV (d' := 5) [(0, xs (w32 (v3_1 + 1)).toNat), (0, xs (w32 (v3_1 + 2)).toNat), (0, xs (w32 (v3_1 + 3)).toNat)] 0 dL_law_859 M_X9_tells q_799 (by decide) rfl rfl sh_0 rfl (Nat.le_of_ble_eq_true rfl) (k_X9_tells h) ?_
        rintro _ s_172 ⟨r_171, rfl, h⟩
        refine Ev_aload_n dL_law_862 2 rfl ?_
        refine Ev_aload_n dL_law_863 0 rfl ?_
        refine Ev_iload_n dL_law_864 3 rfl ?_
        refine Ev_iconst (v := 1) dL_law_865 rfl ⟨by decide, by decide⟩ ?_
        refine Ev_iadd dL_law_866 ?_
        obtain ⟨hb_173, h⟩ := h
        refine Ev_sld dL_law_867 rfl hb_173 ?_
        refine Ev_aload_n dL_law_868 0 rfl ?_
        refine Ev_iload_n dL_law_869 3 rfl ?_
        refine Ev_iconst (v := 2) dL_law_870 rfl ⟨by decide, by decide⟩ ?_
        refine Ev_iadd dL_law_871 ?_
        obtain ⟨hb_174, h⟩ := h
        refine Ev_sld dL_law_872 rfl hb_174 ?_
        refine Ev_aload_n dL_law_873 0 rfl ?_
        refine Ev_iload_n dL_law_874 3 rfl ?_
        refine Ev_iconst (v := 3) dL_law_875 rfl ⟨by decide, by decide⟩ ?_
        refine Ev_iadd dL_law_876 ?_
        obtain ⟨hb_175, h⟩ := h
        refine Ev_sld dL_law_877 rfl hb_175 ?_
        refine Ev_invV (d' := 4) [(0, xs (w32 (v3_1 + 1)).toNat), (0, xs (w32 (v3_1 + 2)).toNat), (0, xs (w32 (v3_1 + 3)).toNat)] 68 dL_law_878 M_X10_tells q_1346 (by decide) rfl rfl sh_68 rfl (Nat.le_of_ble_eq_true rfl) (k_X10_tells h) ?_
        rintro _ s_177 ⟨r_176, rfl, h⟩
        refine Ev_icmp_eq (tgt := 1147) dL_law_881 (by decide) (fun hc => ?_) (fun hc => ?_)
        · replace h := h.1 hc
          exact hK_6 _ h
        · replace h := h.2 hc
          refine Ev_iconst (v := 0) dL_law_884 rfl ⟨by decide, by decide⟩ ?_
          exact Ev_ret dL_law_885 (Or.inl rfl) (poIs_mk h)
      · replace h := h.2.2.2.2.2.2.2.2.2.2.2.2.2.2.2.2.2.2.2.2.1 hc
        refine Ev_tabIn (tgt := 886) (off := 853) dL_law_33 (by omega) (by omega) (by rw [hc]; rfl) (by decide) ?_
        refine Ev_aload_n dL_law_886 1 rfl ?_
        refine Ev_aload_n dL_law_887 0 rfl ?_
        refine Ev_iload_n dL_law_888 3 rfl ?_
        refine Ev_iconst (v := 1) dL_law_889 rfl ⟨by decide, by decide⟩ ?_
        refine Ev_iadd dL_law_890 ?_
        obtain ⟨hb_178, h⟩ := h
        refine Ev_sld dL_law_891 rfl hb_178 ?_
        refine Ev_aload_n dL_law_892 0 rfl ?_
        refine Ev_iload_n dL_law_893 3 rfl ?_
        refine Ev_iconst (v := 2) dL_law_894 rfl ⟨by decide, by decide⟩ ?_
        refine Ev_iadd dL_law_895 ?_
        obtain ⟨hb_179, h⟩ := h
        refine Ev_sld dL_law_896 rfl hb_179 ?_
        refine Ev_invV (d' := 4) [(0, xs (w32 (v3_1 + 1)).toNat), (0, xs (w32 (v3_1 + 2)).toNat)] 0 dL_law_897 M_X9_film q_827 (by decide) rfl rfl sh_0 rfl (Nat.le_of_ble_eq_true rfl) (k_X9_film h) ?_
        rintro _ s_181 ⟨r_180, rfl, h⟩
        refine Ev_aload_n dL_law_900 2 rfl ?_
        refine Ev_aload_n dL_law_901 0 rfl ?_
        refine Ev_iload_n dL_law_902 3 rfl ?_
        refine Ev_iconst (v := 1) dL_law_903 rfl ⟨by decide, by decide⟩ ?_
        refine Ev_iadd dL_law_904 ?_
        obtain ⟨hb_182, h⟩ := h
        refine Ev_sld dL_law_905 rfl hb_182 ?_
        refine Ev_aload_n dL_law_906 0 rfl ?_
        refine Ev_iload_n dL_law_907 3 rfl ?_
        refine Ev_iconst (v := 2) dL_law_908 rfl ⟨by decide, by decide⟩ ?_
        refine Ev_iadd dL_law_909 ?_
        obtain ⟨hb_183, h⟩ := h
        refine Ev_sld dL_law_910 rfl hb_183 ?_
        refine Ev_invV (d' := 3) [(0, xs (w32 (v3_1 + 1)).toNat), (0, xs (w32 (v3_1 + 2)).toNat)] 68 dL_law_911 M_X10_film q_1357 (by decide) rfl rfl sh_68 rfl (Nat.le_of_ble_eq_true rfl) (k_X10_film h) ?_
        rintro _ s_185 ⟨r_184, rfl, h⟩
        refine Ev_icmp_eq (tgt := 1147) dL_law_914 (by decide) (fun hc => ?_) (fun hc => ?_)
        · replace h := h.1 hc
          exact hK_6 _ h
        · replace h := h.2 hc
          refine Ev_iconst (v := 0) dL_law_917 rfl ⟨by decide, by decide⟩ ?_
          exact Ev_ret dL_law_918 (Or.inl rfl) (poIs_mk h)
      · replace h := h.2.2.2.2.2.2.2.2.2.2.2.2.2.2.2.2.2.2.2.2.2.1 hc
        refine Ev_tabIn (tgt := 919) (off := 886) dL_law_33 (by omega) (by omega) (by rw [hc]; rfl) (by decide) ?_
        refine Ev_aload_n dL_law_919 1 rfl ?_
        refine Ev_invV (d' := 1) [] 0 dL_law_920 M_X9_image q_839 (by decide) rfl rfl sh_0 rfl (Nat.le_of_ble_eq_true rfl) (k_X9_image h) ?_
        rintro _ s_187 ⟨r_186, rfl, h⟩
        refine Ev_aload_n dL_law_923 2 rfl ?_
        refine Ev_invV (d' := 3) [] 68 dL_law_924 M_X10_image q_1361 (by decide) rfl rfl sh_68 rfl (Nat.le_of_ble_eq_true rfl) (k_X10_image h) ?_
        rintro _ s_189 ⟨r_188, rfl, h⟩
        refine Ev_icmp_eq (tgt := 1147) dL_law_927 (by decide) (fun hc => ?_) (fun hc => ?_)
        · replace h := h.1 hc
          exact hK_6 _ h
        · replace h := h.2 hc
          refine Ev_iconst (v := 0) dL_law_930 rfl ⟨by decide, by decide⟩ ?_
          exact Ev_ret dL_law_931 (Or.inl rfl) (poIs_mk h)
      · replace h := h.2.2.2.2.2.2.2.2.2.2.2.2.2.2.2.2.2.2.2.2.2.2.1 hc
        refine Ev_tabIn (tgt := 932) (off := 899) dL_law_33 (by omega) (by omega) (by rw [hc]; rfl) (by decide) ?_
        refine Ev_aload_n dL_law_932 1 rfl ?_
        refine Ev_invV (d' := 1) [] 0 dL_law_933 M_X9_back q_843 (by decide) rfl rfl sh_0 rfl (Nat.le_of_ble_eq_true rfl) (k_X9_back h) ?_
        rintro _ s_191 ⟨r_190, rfl, h⟩
        refine Ev_aload_n dL_law_936 2 rfl ?_
        refine Ev_invV (d' := 3) [] 68 dL_law_937 M_X10_back q_1365 (by decide) rfl rfl sh_68 rfl (Nat.le_of_ble_eq_true rfl) (k_X10_back h) ?_
        rintro _ s_193 ⟨r_192, rfl, h⟩
        refine Ev_icmp_eq (tgt := 1147) dL_law_940 (by decide) (fun hc => ?_) (fun hc => ?_)
        · replace h := h.1 hc
          exact hK_6 _ h
        · replace h := h.2 hc
          refine Ev_iconst (v := 0) dL_law_943 rfl ⟨by decide, by decide⟩ ?_
          exact Ev_ret dL_law_944 (Or.inl rfl) (poIs_mk h)
      · replace h := h.2.2.2.2.2.2.2.2.2.2.2.2.2.2.2.2.2.2.2.2.2.2.2.1 hc
        refine Ev_tabIn (tgt := 945) (off := 912) dL_law_33 (by omega) (by omega) (by rw [hc]; rfl) (by decide) ?_
        refine Ev_aload_n dL_law_945 1 rfl ?_
        refine Ev_aload_n dL_law_946 0 rfl ?_
        refine Ev_iload_n dL_law_947 3 rfl ?_
        refine Ev_iconst (v := 1) dL_law_948 rfl ⟨by decide, by decide⟩ ?_
        refine Ev_iadd dL_law_949 ?_
        obtain ⟨hb_194, h⟩ := h
        refine Ev_sld dL_law_950 rfl hb_194 ?_
        refine Ev_aload_n dL_law_951 0 rfl ?_
        refine Ev_iload_n dL_law_952 3 rfl ?_
        refine Ev_iconst (v := 2) dL_law_953 rfl ⟨by decide, by decide⟩ ?_
        refine Ev_iadd dL_law_954 ?_
        obtain ⟨hb_195, h⟩ := h
        refine Ev_sld dL_law_955 rfl hb_195 ?_
        refine Ev_aload_n dL_law_956 0 rfl ?_
        refine Ev_iload_n dL_law_957 3 rfl ?_
        refine Ev_iconst (v := 3) dL_law_958 rfl ⟨by decide, by decide⟩ ?_
        refine Ev_iadd dL_law_959 ?_
        obtain ⟨hb_196, h⟩ := h
        refine Ev_sld dL_law_960 rfl hb_196 ?_
        refine Ev_invV (d' := 1) [(0, xs (w32 (v3_1 + 1)).toNat), (0, xs (w32 (v3_1 + 2)).toNat), (0, xs (w32 (v3_1 + 3)).toNat)] 0 dL_law_961 M_X9_sheet q_847 (by decide) rfl rfl sh_0 rfl (Nat.le_of_ble_eq_true rfl) (k_X9_sheet h) ?_
        rintro _ s_198 ⟨r_197, rfl, h⟩
        refine Ev_aload_n dL_law_964 2 rfl ?_
        refine Ev_aload_n dL_law_965 0 rfl ?_
        refine Ev_iload_n dL_law_966 3 rfl ?_
        refine Ev_iconst (v := 1) dL_law_967 rfl ⟨by decide, by decide⟩ ?_
        refine Ev_iadd dL_law_968 ?_
        obtain ⟨hb_199, h⟩ := h
        refine Ev_sld dL_law_969 rfl hb_199 ?_
        refine Ev_aload_n dL_law_970 0 rfl ?_
        refine Ev_iload_n dL_law_971 3 rfl ?_
        refine Ev_iconst (v := 2) dL_law_972 rfl ⟨by decide, by decide⟩ ?_
        refine Ev_iadd dL_law_973 ?_
        obtain ⟨hb_200, h⟩ := h
        refine Ev_sld dL_law_974 rfl hb_200 ?_
        refine Ev_aload_n dL_law_975 0 rfl ?_
        refine Ev_iload_n dL_law_976 3 rfl ?_
        refine Ev_iconst (v := 3) dL_law_977 rfl ⟨by decide, by decide⟩ ?_
        refine Ev_iadd dL_law_978 ?_
        obtain ⟨hb_201, h⟩ := h
        refine Ev_sld dL_law_979 rfl hb_201 ?_
        refine Ev_invV (d' := 2) [(0, xs (w32 (v3_1 + 1)).toNat), (0, xs (w32 (v3_1 + 2)).toNat), (0, xs (w32 (v3_1 + 3)).toNat)] 68 dL_law_980 M_X10_sheet q_1369 (by decide) rfl rfl sh_68 rfl (Nat.le_of_ble_eq_true rfl) (k_X10_sheet h) ?_
        rintro _ s_203 ⟨r_202, rfl, h⟩
        refine Ev_icmp_eq (tgt := 1147) dL_law_983 (by decide) (fun hc => ?_) (fun hc => ?_)
        · replace h := h.1 hc
          exact hK_6 _ h
        · replace h := h.2 hc
          refine Ev_iconst (v := 0) dL_law_986 rfl ⟨by decide, by decide⟩ ?_
          exact Ev_ret dL_law_987 (Or.inl rfl) (poIs_mk h)
      · replace h := h.2.2.2.2.2.2.2.2.2.2.2.2.2.2.2.2.2.2.2.2.2.2.2.2.1 hc
        refine Ev_tabIn (tgt := 988) (off := 955) dL_law_33 (by omega) (by omega) (by rw [hc]; rfl) (by decide) ?_
        refine Ev_aload_n dL_law_988 1 rfl ?_
        refine Ev_aload_n dL_law_989 0 rfl ?_
        refine Ev_iload_n dL_law_990 3 rfl ?_
        refine Ev_iconst (v := 1) dL_law_991 rfl ⟨by decide, by decide⟩ ?_
        refine Ev_iadd dL_law_992 ?_
        obtain ⟨hb_204, h⟩ := h
        refine Ev_sld dL_law_993 rfl hb_204 ?_
        refine Ev_aload_n dL_law_994 0 rfl ?_
        refine Ev_iload_n dL_law_995 3 rfl ?_
        refine Ev_iconst (v := 2) dL_law_996 rfl ⟨by decide, by decide⟩ ?_
        refine Ev_iadd dL_law_997 ?_
        obtain ⟨hb_205, h⟩ := h
        refine Ev_sld dL_law_998 rfl hb_205 ?_
        refine Ev_aload_n dL_law_999 0 rfl ?_
        refine Ev_iload_n dL_law_1000 3 rfl ?_
        refine Ev_iconst (v := 3) dL_law_1001 rfl ⟨by decide, by decide⟩ ?_
        refine Ev_iadd dL_law_1002 ?_
        obtain ⟨hb_206, h⟩ := h
        refine Ev_sld dL_law_1003 rfl hb_206 ?_
        refine Ev_invV (d' := 1) [(0, xs (w32 (v3_1 + 1)).toNat), (0, xs (w32 (v3_1 + 2)).toNat), (0, xs (w32 (v3_1 + 3)).toNat)] 0 dL_law_1004 M_X9_put q_855 (by decide) rfl rfl sh_0 rfl (Nat.le_of_ble_eq_true rfl) (k_X9_put h) ?_
        rintro _ s_208 ⟨r_207, rfl, h⟩
        refine Ev_aload_n dL_law_1007 2 rfl ?_
        refine Ev_aload_n dL_law_1008 0 rfl ?_
        refine Ev_iload_n dL_law_1009 3 rfl ?_
        refine Ev_iconst (v := 1) dL_law_1010 rfl ⟨by decide, by decide⟩ ?_
        refine Ev_iadd dL_law_1011 ?_
        obtain ⟨hb_209, h⟩ := h
        refine Ev_sld dL_law_1012 rfl hb_209 ?_
        refine Ev_aload_n dL_law_1013 0 rfl ?_
        refine Ev_iload_n dL_law_1014 3 rfl ?_
        refine Ev_iconst (v := 2) dL_law_1015 rfl ⟨by decide, by decide⟩ ?_
        refine Ev_iadd dL_law_1016 ?_
        obtain ⟨hb_210, h⟩ := h
        refine Ev_sld dL_law_1017 rfl hb_210 ?_
        refine Ev_aload_n dL_law_1018 0 rfl ?_
        refine Ev_iload_n dL_law_1019 3 rfl ?_
        refine Ev_iconst (v := 3) dL_law_1020 rfl ⟨by decide, by decide⟩ ?_
        refine Ev_iadd dL_law_1021 ?_
        obtain ⟨hb_211, h⟩ := h
        refine Ev_sld dL_law_1022 rfl hb_211 ?_
        refine Ev_invV (d' := 2) [(0, xs (w32 (v3_1 + 1)).toNat), (0, xs (w32 (v3_1 + 2)).toNat), (0, xs (w32 (v3_1 + 3)).toNat)] 68 dL_law_1023 M_X10_put q_1373 (by decide) rfl rfl sh_68 rfl (Nat.le_of_ble_eq_true rfl) (k_X10_put h) ?_
        rintro _ s_213 ⟨r_212, rfl, h⟩
        refine Ev_icmp_eq (tgt := 1147) dL_law_1026 (by decide) (fun hc => ?_) (fun hc => ?_)
        · replace h := h.1 hc
          exact hK_6 _ h
        · replace h := h.2 hc
          refine Ev_iconst (v := 0) dL_law_1029 rfl ⟨by decide, by decide⟩ ?_
          exact Ev_ret dL_law_1030 (Or.inl rfl) (poIs_mk h)
      · replace h := h.2.2.2.2.2.2.2.2.2.2.2.2.2.2.2.2.2.2.2.2.2.2.2.2.2.1 hc
        refine Ev_tabIn (tgt := 1031) (off := 998) dL_law_33 (by omega) (by omega) (by rw [hc]; rfl) (by decide) ?_
        refine Ev_aload_n dL_law_1031 1 rfl ?_
        refine Ev_aload_n dL_law_1032 0 rfl ?_
        refine Ev_iload_n dL_law_1033 3 rfl ?_
        refine Ev_iconst (v := 1) dL_law_1034 rfl ⟨by decide, by decide⟩ ?_
        refine Ev_iadd dL_law_1035 ?_
        obtain ⟨hb_214, h⟩ := h
        refine Ev_sld dL_law_1036 rfl hb_214 ?_
        refine Ev_aload_n dL_law_1037 0 rfl ?_
        refine Ev_iload_n dL_law_1038 3 rfl ?_
        refine Ev_iconst (v := 2) dL_law_1039 rfl ⟨by decide, by decide⟩ ?_
        refine Ev_iadd dL_law_1040 ?_
        obtain ⟨hb_215, h⟩ := h
        refine Ev_sld dL_law_1041 rfl hb_215 ?_
        refine Ev_aload_n dL_law_1042 0 rfl ?_
        refine Ev_iload_n dL_law_1043 3 rfl ?_
        refine Ev_iconst (v := 3) dL_law_1044 rfl ⟨by decide, by decide⟩ ?_
        refine Ev_iadd dL_law_1045 ?_
        obtain ⟨hb_216, h⟩ := h
        refine Ev_sld dL_law_1046 rfl hb_216 ?_
        refine Ev_aload_n dL_law_1047 0 rfl ?_
        refine Ev_iload_n dL_law_1048 3 rfl ?_
        refine Ev_iconst (v := 4) dL_law_1049 rfl ⟨by decide, by decide⟩ ?_
        refine Ev_iadd dL_law_1050 ?_
        obtain ⟨hb_217, h⟩ := h
        refine Ev_sld dL_law_1051 rfl hb_217 ?_
        refine Ev_aload_n dL_law_1052 0 rfl ?_
        refine Ev_iload_n dL_law_1053 3 rfl ?_
        refine Ev_iconst (v := 5) dL_law_1054 rfl ⟨by decide, by decide⟩ ?_
        refine Ev_iadd dL_law_1055 ?_
        obtain ⟨hb_218, h⟩ := h
        refine Ev_sld dL_law_1056 rfl hb_218 ?_
        refine Ev_invV (d' := 2) [(0, xs (w32 (v3_1 + 1)).toNat), (0, xs (w32 (v3_1 + 2)).toNat), (0, xs (w32 (v3_1 + 3)).toNat), (0, xs (w32 (v3_1 + 4)).toNat), (0, xs (w32 (v3_1 + 5)).toNat)] 0 dL_law_1057 M_X9_copy q_859 (by decide) rfl rfl sh_0 rfl (Nat.le_of_ble_eq_true rfl) (k_X9_copy h) ?_
        rintro _ s_220 ⟨r_219, rfl, h⟩
        refine Ev_aload_n dL_law_1060 2 rfl ?_
        refine Ev_aload_n dL_law_1061 0 rfl ?_
        refine Ev_iload_n dL_law_1062 3 rfl ?_
        refine Ev_iconst (v := 1) dL_law_1063 rfl ⟨by decide, by decide⟩ ?_
        refine Ev_iadd dL_law_1064 ?_
        obtain ⟨hb_221, h⟩ := h
        refine Ev_sld dL_law_1065 rfl hb_221 ?_
        refine Ev_aload_n dL_law_1066 0 rfl ?_
        refine Ev_iload_n dL_law_1067 3 rfl ?_
        refine Ev_iconst (v := 2) dL_law_1068 rfl ⟨by decide, by decide⟩ ?_
        refine Ev_iadd dL_law_1069 ?_
        obtain ⟨hb_222, h⟩ := h
        refine Ev_sld dL_law_1070 rfl hb_222 ?_
        refine Ev_aload_n dL_law_1071 0 rfl ?_
        refine Ev_iload_n dL_law_1072 3 rfl ?_
        refine Ev_iconst (v := 3) dL_law_1073 rfl ⟨by decide, by decide⟩ ?_
        refine Ev_iadd dL_law_1074 ?_
        obtain ⟨hb_223, h⟩ := h
        refine Ev_sld dL_law_1075 rfl hb_223 ?_
        refine Ev_aload_n dL_law_1076 0 rfl ?_
        refine Ev_iload_n dL_law_1077 3 rfl ?_
        refine Ev_iconst (v := 4) dL_law_1078 rfl ⟨by decide, by decide⟩ ?_
        refine Ev_iadd dL_law_1079 ?_
        obtain ⟨hb_224, h⟩ := h
        refine Ev_sld dL_law_1080 rfl hb_224 ?_
        refine Ev_aload_n dL_law_1081 0 rfl ?_
        refine Ev_iload_n dL_law_1082 3 rfl ?_
        refine Ev_iconst (v := 5) dL_law_1083 rfl ⟨by decide, by decide⟩ ?_
        refine Ev_iadd dL_law_1084 ?_
        obtain ⟨hb_225, h⟩ := h
        refine Ev_sld dL_law_1085 rfl hb_225 ?_
        refine Ev_invV (d' := 2) [(0, xs (w32 (v3_1 + 1)).toNat), (0, xs (w32 (v3_1 + 2)).toNat), (0, xs (w32 (v3_1 + 3)).toNat), (0, xs (w32 (v3_1 + 4)).toNat), (0, xs (w32 (v3_1 + 5)).toNat)] 68 dL_law_1086 M_X10_copy q_1377 (by decide) rfl rfl sh_68 rfl (Nat.le_of_ble_eq_true rfl) (k_X10_copy h) ?_
        rintro _ s_227 ⟨r_226, rfl, h⟩
        refine Ev_icmp_eq (tgt := 1147) dL_law_1089 (by decide) (fun hc => ?_) (fun hc => ?_)
        · replace h := h.1 hc
          exact hK_6 _ h
        · replace h := h.2 hc
          refine Ev_iconst (v := 0) dL_law_1092 rfl ⟨by decide, by decide⟩ ?_
          exact Ev_ret dL_law_1093 (Or.inl rfl) (poIs_mk h)
      · replace h := h.2.2.2.2.2.2.2.2.2.2.2.2.2.2.2.2.2.2.2.2.2.2.2.2.2.2.1 hc
        refine Ev_tabIn (tgt := 1094) (off := 1061) dL_law_33 (by omega) (by omega) (by rw [hc]; rfl) (by decide) ?_
        refine Ev_aload_n dL_law_1094 1 rfl ?_
        refine Ev_aload_n dL_law_1095 0 rfl ?_
        refine Ev_iload_n dL_law_1096 3 rfl ?_
        refine Ev_iconst (v := 1) dL_law_1097 rfl ⟨by decide, by decide⟩ ?_
        refine Ev_iadd dL_law_1098 ?_
        obtain ⟨hb_228, h⟩ := h
        refine Ev_sld dL_law_1099 rfl hb_228 ?_
        refine Ev_aload_n dL_law_1100 0 rfl ?_
        refine Ev_iload_n dL_law_1101 3 rfl ?_
        refine Ev_iconst (v := 2) dL_law_1102 rfl ⟨by decide, by decide⟩ ?_
        refine Ev_iadd dL_law_1103 ?_
        obtain ⟨hb_229, h⟩ := h
        refine Ev_sld dL_law_1104 rfl hb_229 ?_
        refine Ev_aload_n dL_law_1105 0 rfl ?_
        refine Ev_iload_n dL_law_1106 3 rfl ?_
        refine Ev_iconst (v := 3) dL_law_1107 rfl ⟨by decide, by decide⟩ ?_
        refine Ev_iadd dL_law_1108 ?_
        obtain ⟨hb_230, h⟩ := h
        refine Ev_sld dL_law_1109 rfl hb_230 ?_
        refine Ev_aload_n dL_law_1110 0 rfl ?_
        refine Ev_iload_n dL_law_1111 3 rfl ?_
        refine Ev_iconst (v := 4) dL_law_1112 rfl ⟨by decide, by decide⟩ ?_
        refine Ev_iadd dL_law_1113 ?_
        obtain ⟨hb_231, h⟩ := h
        refine Ev_sld dL_law_1114 rfl hb_231 ?_
        refine Ev_invV (d' := 4) [(0, xs (w32 (v3_1 + 1)).toNat), (0, xs (w32 (v3_1 + 2)).toNat), (0, xs (w32 (v3_1 + 3)).toNat), (0, xs (w32 (v3_1 + 4)).toNat)] 0 dL_law_1115 M_X9_load q_870 (by decide) rfl rfl sh_0 rfl (Nat.le_of_ble_eq_true rfl) (k_X9_load h) ?_
        rintro _ s_233 ⟨r_232, rfl, h⟩
        refine Ev_aload_n dL_law_1118 2 rfl ?_
        refine Ev_aload_n dL_law_1119 0 rfl ?_
        refine Ev_iload_n dL_law_1120 3 rfl ?_
        refine Ev_iconst (v := 1) dL_law_1121 rfl ⟨by decide, by decide⟩ ?_
        refine Ev_iadd dL_law_1122 ?_
        obtain ⟨hb_234, h⟩ := h
        refine Ev_sld dL_law_1123 rfl hb_234 ?_
        refine Ev_aload_n dL_law_1124 0 rfl ?_
        refine Ev_iload_n dL_law_1125 3 rfl ?_
        refine Ev_iconst (v := 2) dL_law_1126 rfl ⟨by decide, by decide⟩ ?_
        refine Ev_iadd dL_law_1127 ?_
        obtain ⟨hb_235, h⟩ := h
        refine Ev_sld dL_law_1128 rfl hb_235 ?_
        refine Ev_aload_n dL_law_1129 0 rfl ?_
        refine Ev_iload_n dL_law_1130 3 rfl ?_
        refine Ev_iconst (v := 3) dL_law_1131 rfl ⟨by decide, by decide⟩ ?_
        refine Ev_iadd dL_law_1132 ?_
        obtain ⟨hb_236, h⟩ := h
        refine Ev_sld dL_law_1133 rfl hb_236 ?_
        refine Ev_aload_n dL_law_1134 0 rfl ?_
        refine Ev_iload_n dL_law_1135 3 rfl ?_
        refine Ev_iconst (v := 4) dL_law_1136 rfl ⟨by decide, by decide⟩ ?_
        refine Ev_iadd dL_law_1137 ?_
        obtain ⟨hb_237, h⟩ := h
        refine Ev_sld dL_law_1138 rfl hb_237 ?_
        refine Ev_invV (d' := 3) [(0, xs (w32 (v3_1 + 1)).toNat), (0, xs (w32 (v3_1 + 2)).toNat), (0, xs (w32 (v3_1 + 3)).toNat), (0, xs (w32 (v3_1 + 4)).toNat)] 68 dL_law_1139 M_X10_load q_1381 (by decide) rfl rfl sh_68 rfl (Nat.le_of_ble_eq_true rfl) (k_X10_load h) ?_
        rintro _ s_239 ⟨r_238, rfl, h⟩
        refine Ev_icmp_eq (tgt := 1147) dL_law_1142 (by decide) (fun hc => ?_) (fun hc => ?_)
        · replace h := h.1 hc
          exact hK_6 _ h
        · replace h := h.2 hc
          refine Ev_iconst (v := 0) dL_law_1145 rfl ⟨by decide, by decide⟩ ?_
          exact Ev_ret dL_law_1146 (Or.inl rfl) (poIs_mk h)
      · replace h := h.2.2.2.2.2.2.2.2.2.2.2.2.2.2.2.2.2.2.2.2.2.2.2.2.2.2.2 hc
        refine Ev_tabOut (tgt := 1147) dL_law_33 hc (by decide) ?_
        exact hK_6 _ h
