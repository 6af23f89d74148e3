/-! printed: data of the law's methods -/
theorem wd_109 : (Cond.instanceMethod ({ cls := "GutterPages", name := "page", desc := "()I" } : MethodName)) ∈ lw_tbl := List.mem_of_getElem? (i := 133) (by decide +kernel)
theorem wd_110 : (Cond.selects "GutterPages" ({ cls := "GutterPages", name := "page", desc := "()I" } : MethodName) ({ cls := "GutterPages", name := "page", desc := "()I" } : MethodName)) ∈ lw_tbl := List.mem_of_getElem? (i := 134) (by decide +kernel)
theorem wd_278 : (Cond.instanceMethod ({ cls := "GutterPages", name := "panel", desc := "(IIIII)I" } : MethodName)) ∈ lw_tbl := List.mem_of_getElem? (i := 302) (by decide +kernel)
theorem wd_279 : (Cond.selects "GutterPages" ({ cls := "GutterPages", name := "panel", desc := "(IIIII)I" } : MethodName) ({ cls := "GutterPages", name := "panel", desc := "(IIIII)I" } : MethodName)) ∈ lw_tbl := List.mem_of_getElem? (i := 303) (by decide +kernel)
theorem wd_544 : (Cond.instanceMethod ({ cls := "GutterPages", name := "movePanel", desc := "(II)I" } : MethodName)) ∈ lw_tbl := List.mem_of_getElem? (i := 568) (by decide +kernel)
theorem wd_545 : (Cond.selects "GutterPages" ({ cls := "GutterPages", name := "movePanel", desc := "(II)I" } : MethodName) ({ cls := "GutterPages", name := "movePanel", desc := "(II)I" } : MethodName)) ∈ lw_tbl := List.mem_of_getElem? (i := 569) (by decide +kernel)
theorem wd_572 : (Cond.instanceMethod ({ cls := "GutterPages", name := "cutPanel", desc := "(I)I" } : MethodName)) ∈ lw_tbl := List.mem_of_getElem? (i := 596) (by decide +kernel)
theorem wd_573 : (Cond.selects "GutterPages" ({ cls := "GutterPages", name := "cutPanel", desc := "(I)I" } : MethodName) ({ cls := "GutterPages", name := "cutPanel", desc := "(I)I" } : MethodName)) ∈ lw_tbl := List.mem_of_getElem? (i := 597) (by decide +kernel)
theorem wd_597 : (Cond.instanceMethod ({ cls := "GutterPages", name := "face", desc := "(IIII)I" } : MethodName)) ∈ lw_tbl := List.mem_of_getElem? (i := 621) (by decide +kernel)
theorem wd_598 : (Cond.selects "GutterPages" ({ cls := "GutterPages", name := "face", desc := "(IIII)I" } : MethodName) ({ cls := "GutterPages", name := "face", desc := "(IIII)I" } : MethodName)) ∈ lw_tbl := List.mem_of_getElem? (i := 622) (by decide +kernel)
theorem wd_629 : (Cond.instanceMethod ({ cls := "GutterPages", name := "balloon", desc := "(III)I" } : MethodName)) ∈ lw_tbl := List.mem_of_getElem? (i := 653) (by decide +kernel)
theorem wd_630 : (Cond.selects "GutterPages" ({ cls := "GutterPages", name := "balloon", desc := "(III)I" } : MethodName) ({ cls := "GutterPages", name := "balloon", desc := "(III)I" } : MethodName)) ∈ lw_tbl := List.mem_of_getElem? (i := 654) (by decide +kernel)
theorem wd_680 : (Cond.instanceMethod ({ cls := "GutterPages", name := "moveBalloon", desc := "(III)V" } : MethodName)) ∈ lw_tbl := List.mem_of_getElem? (i := 704) (by decide +kernel)
theorem wd_681 : (Cond.selects "GutterPages" ({ cls := "GutterPages", name := "moveBalloon", desc := "(III)V" } : MethodName) ({ cls := "GutterPages", name := "moveBalloon", desc := "(III)V" } : MethodName)) ∈ lw_tbl := List.mem_of_getElem? (i := 705) (by decide +kernel)
theorem wd_698 : (Cond.instanceMethod ({ cls := "GutterPages", name := "cutBalloon", desc := "(I)I" } : MethodName)) ∈ lw_tbl := List.mem_of_getElem? (i := 722) (by decide +kernel)
theorem wd_699 : (Cond.selects "GutterPages" ({ cls := "GutterPages", name := "cutBalloon", desc := "(I)I" } : MethodName) ({ cls := "GutterPages", name := "cutBalloon", desc := "(I)I" } : MethodName)) ∈ lw_tbl := List.mem_of_getElem? (i := 723) (by decide +kernel)
theorem wd_707 : (Cond.instanceMethod ({ cls := "GutterPages", name := "answer", desc := "(II)I" } : MethodName)) ∈ lw_tbl := List.mem_of_getElem? (i := 731) (by decide +kernel)
theorem wd_708 : (Cond.selects "GutterPages" ({ cls := "GutterPages", name := "answer", desc := "(II)I" } : MethodName) ({ cls := "GutterPages", name := "answer", desc := "(II)I" } : MethodName)) ∈ lw_tbl := List.mem_of_getElem? (i := 732) (by decide +kernel)
theorem wd_712 : (Cond.instanceMethod ({ cls := "GutterPages", name := "translate", desc := "(II)I" } : MethodName)) ∈ lw_tbl := List.mem_of_getElem? (i := 736) (by decide +kernel)
theorem wd_713 : (Cond.selects "GutterPages" ({ cls := "GutterPages", name := "translate", desc := "(II)I" } : MethodName) ({ cls := "GutterPages", name := "translate", desc := "(II)I" } : MethodName)) ∈ lw_tbl := List.mem_of_getElem? (i := 737) (by decide +kernel)
theorem wd_716 : (Cond.instanceMethod ({ cls := "GutterPages", name := "setGrowth", desc := "(II)I" } : MethodName)) ∈ lw_tbl := List.mem_of_getElem? (i := 740) (by decide +kernel)
theorem wd_717 : (Cond.selects "GutterPages" ({ cls := "GutterPages", name := "setGrowth", desc := "(II)I" } : MethodName) ({ cls := "GutterPages", name := "setGrowth", desc := "(II)I" } : MethodName)) ∈ lw_tbl := List.mem_of_getElem? (i := 741) (by decide +kernel)
theorem wd_721 : (Cond.instanceMethod ({ cls := "GutterPages", name := "pages", desc := "()I" } : MethodName)) ∈ lw_tbl := List.mem_of_getElem? (i := 745) (by decide +kernel)
theorem wd_722 : (Cond.selects "GutterPages" ({ cls := "GutterPages", name := "pages", desc := "()I" } : MethodName) ({ cls := "GutterPages", name := "pages", desc := "()I" } : MethodName)) ∈ lw_tbl := List.mem_of_getElem? (i := 746) (by decide +kernel)
theorem wd_725 : (Cond.instanceMethod ({ cls := "GutterPages", name := "panels", desc := "(I)I" } : MethodName)) ∈ lw_tbl := List.mem_of_getElem? (i := 749) (by decide +kernel)
theorem wd_726 : (Cond.selects "GutterPages" ({ cls := "GutterPages", name := "panels", desc := "(I)I" } : MethodName) ({ cls := "GutterPages", name := "panels", desc := "(I)I" } : MethodName)) ∈ lw_tbl := List.mem_of_getElem? (i := 750) (by decide +kernel)
theorem wd_729 : (Cond.instanceMethod ({ cls := "GutterPages", name := "lies", desc := "(II)I" } : MethodName)) ∈ lw_tbl := List.mem_of_getElem? (i := 753) (by decide +kernel)
theorem wd_730 : (Cond.selects "GutterPages" ({ cls := "GutterPages", name := "lies", desc := "(II)I" } : MethodName) ({ cls := "GutterPages", name := "lies", desc := "(II)I" } : MethodName)) ∈ lw_tbl := List.mem_of_getElem? (i := 754) (by decide +kernel)
theorem wd_737 : (Cond.instanceMethod ({ cls := "GutterPages", name := "balloons", desc := "()I" } : MethodName)) ∈ lw_tbl := List.mem_of_getElem? (i := 761) (by decide +kernel)
theorem wd_738 : (Cond.selects "GutterPages" ({ cls := "GutterPages", name := "balloons", desc := "()I" } : MethodName) ({ cls := "GutterPages", name := "balloons", desc := "()I" } : MethodName)) ∈ lw_tbl := List.mem_of_getElem? (i := 762) (by decide +kernel)
theorem wd_741 : (Cond.instanceMethod ({ cls := "GutterPages", name := "placeOf", desc := "(I)I" } : MethodName)) ∈ lw_tbl := List.mem_of_getElem? (i := 765) (by decide +kernel)
theorem wd_742 : (Cond.selects "GutterPages" ({ cls := "GutterPages", name := "placeOf", desc := "(I)I" } : MethodName) ({ cls := "GutterPages", name := "placeOf", desc := "(I)I" } : MethodName)) ∈ lw_tbl := List.mem_of_getElem? (i := 766) (by decide +kernel)
theorem wd_749 : (Cond.instanceMethod ({ cls := "GutterPages", name := "depth", desc := "(I)I" } : MethodName)) ∈ lw_tbl := List.mem_of_getElem? (i := 773) (by decide +kernel)
theorem wd_750 : (Cond.selects "GutterPages" ({ cls := "GutterPages", name := "depth", desc := "(I)I" } : MethodName) ({ cls := "GutterPages", name := "depth", desc := "(I)I" } : MethodName)) ∈ lw_tbl := List.mem_of_getElem? (i := 774) (by decide +kernel)
theorem wd_753 : (Cond.instanceMethod ({ cls := "GutterPages", name := "open", desc := "()I" } : MethodName)) ∈ lw_tbl := List.mem_of_getElem? (i := 777) (by decide +kernel)
theorem wd_754 : (Cond.selects "GutterPages" ({ cls := "GutterPages", name := "open", desc := "()I" } : MethodName) ({ cls := "GutterPages", name := "open", desc := "()I" } : MethodName)) ∈ lw_tbl := List.mem_of_getElem? (i := 778) (by decide +kernel)
theorem wd_764 : (Cond.instanceMethod ({ cls := "GutterPages", name := "forth", desc := "()I" } : MethodName)) ∈ lw_tbl := List.mem_of_getElem? (i := 788) (by decide +kernel)
theorem wd_765 : (Cond.selects "GutterPages" ({ cls := "GutterPages", name := "forth", desc := "()I" } : MethodName) ({ cls := "GutterPages", name := "forth", desc := "()I" } : MethodName)) ∈ lw_tbl := List.mem_of_getElem? (i := 789) (by decide +kernel)
theorem wd_772 : (Cond.instanceMethod ({ cls := "GutterPages", name := "back", desc := "()I" } : MethodName)) ∈ lw_tbl := List.mem_of_getElem? (i := 796) (by decide +kernel)
theorem wd_773 : (Cond.selects "GutterPages" ({ cls := "GutterPages", name := "back", desc := "()I" } : MethodName) ({ cls := "GutterPages", name := "back", desc := "()I" } : MethodName)) ∈ lw_tbl := List.mem_of_getElem? (i := 797) (by decide +kernel)
theorem wd_780 : (Cond.instanceMethod ({ cls := "GutterPages", name := "here", desc := "()I" } : MethodName)) ∈ lw_tbl := List.mem_of_getElem? (i := 804) (by decide +kernel)
theorem wd_781 : (Cond.selects "GutterPages" ({ cls := "GutterPages", name := "here", desc := "()I" } : MethodName) ({ cls := "GutterPages", name := "here", desc := "()I" } : MethodName)) ∈ lw_tbl := List.mem_of_getElem? (i := 805) (by decide +kernel)
theorem wd_794 : (Cond.instanceMethod ({ cls := "GutterPages", name := "rows", desc := "(I)I" } : MethodName)) ∈ lw_tbl := List.mem_of_getElem? (i := 818) (by decide +kernel)
theorem wd_795 : (Cond.selects "GutterPages" ({ cls := "GutterPages", name := "rows", desc := "(I)I" } : MethodName) ({ cls := "GutterPages", name := "rows", desc := "(I)I" } : MethodName)) ∈ lw_tbl := List.mem_of_getElem? (i := 819) (by decide +kernel)
theorem wd_798 : (Cond.instanceMethod ({ cls := "GutterPages", name := "panelAt", desc := "(II)I" } : MethodName)) ∈ lw_tbl := List.mem_of_getElem? (i := 822) (by decide +kernel)
theorem wd_799 : (Cond.selects "GutterPages" ({ cls := "GutterPages", name := "panelAt", desc := "(II)I" } : MethodName) ({ cls := "GutterPages", name := "panelAt", desc := "(II)I" } : MethodName)) ∈ lw_tbl := List.mem_of_getElem? (i := 823) (by decide +kernel)
theorem wd_805 : (Cond.instanceMethod ({ cls := "GutterPages", name := "floats", desc := "(II)I" } : MethodName)) ∈ lw_tbl := List.mem_of_getElem? (i := 829) (by decide +kernel)
theorem wd_806 : (Cond.selects "GutterPages" ({ cls := "GutterPages", name := "floats", desc := "(II)I" } : MethodName) ({ cls := "GutterPages", name := "floats", desc := "(II)I" } : MethodName)) ∈ lw_tbl := List.mem_of_getElem? (i := 830) (by decide +kernel)
theorem wd_809 : (Cond.instanceMethod ({ cls := "GutterPages", name := "cell", desc := "(III)I" } : MethodName)) ∈ lw_tbl := List.mem_of_getElem? (i := 833) (by decide +kernel)
theorem wd_810 : (Cond.selects "GutterPages" ({ cls := "GutterPages", name := "cell", desc := "(III)I" } : MethodName) ({ cls := "GutterPages", name := "cell", desc := "(III)I" } : MethodName)) ∈ lw_tbl := List.mem_of_getElem? (i := 834) (by decide +kernel)
theorem wd_822 : (Cond.instanceMethod ({ cls := "GutterPages", name := "placeByPairs", desc := "(I)I" } : MethodName)) ∈ lw_tbl := List.mem_of_getElem? (i := 846) (by decide +kernel)
theorem wd_823 : (Cond.selects "GutterPages" ({ cls := "GutterPages", name := "placeByPairs", desc := "(I)I" } : MethodName) ({ cls := "GutterPages", name := "placeByPairs", desc := "(I)I" } : MethodName)) ∈ lw_tbl := List.mem_of_getElem? (i := 847) (by decide +kernel)
theorem wd_835 : (Cond.instanceMethod ({ cls := "GutterPages", name := "read", desc := "(I)I" } : MethodName)) ∈ lw_tbl := List.mem_of_getElem? (i := 859) (by decide +kernel)
theorem wd_836 : (Cond.selects "GutterPages" ({ cls := "GutterPages", name := "read", desc := "(I)I" } : MethodName) ({ cls := "GutterPages", name := "read", desc := "(I)I" } : MethodName)) ∈ lw_tbl := List.mem_of_getElem? (i := 860) (by decide +kernel)
def M_L_cell : qM := (yL_cell, cL_cell, 2, (some .int), { frames := 0, cells := 0, slots := 0, locals := 0 }, [])
theorem cee_L_cell : q_cee M_L_cell := ⟨rfl, wd_785, wd_0, by decide, by decide⟩
theorem np_L_cell : q_np M_L_cell 2 := by unfold q_np; decide +kernel
def M_L_isBalloon : qM := (yL_isBalloon, cL_isBalloon, 9, (some .boolean), { frames := 8, cells := 27, slots := 162, locals := 354 }, [])
theorem cee_L_isBalloon : q_cee M_L_isBalloon := ⟨rfl, wd_803, wd_0, by decide, by decide⟩
theorem np_L_isBalloon : q_np M_L_isBalloon 3 := by unfold q_np; decide +kernel
def M_L_isPage : qM := (yL_isPage, cL_isPage, 10, (some .boolean), { frames := 8, cells := 2000, slots := 11900, locals := 308 }, [])
theorem cee_L_isPage : q_cee M_L_isPage := ⟨rfl, wd_792, wd_0, by decide, by decide⟩
theorem np_L_isPage : q_np M_L_isPage 2 := by unfold q_np; decide +kernel
def M_L_low : qM := (yL_low, cL_low, 2, (some .int), { frames := 0, cells := 0, slots := 0, locals := 0 }, [])
theorem cee_L_low : q_cee M_L_low := ⟨rfl, wd_788, wd_0, by decide, by decide⟩
theorem np_L_low : q_np M_L_low 2 := by unfold q_np; decide +kernel
theorem dL_cell_0 : decode cL_cell 0 = .ok (.iload_n 1, 1) := by decide +kernel
theorem dL_cell_1 : decode cL_cell 1 = .ok (.aload_n 0, 1) := by decide +kernel
theorem dL_cell_2 : decode cL_cell 2 = .ok (.arraylength, 1) := by decide +kernel
theorem dL_cell_3 : decode cL_cell 3 = .ok (.if_icmp .ge 9, 3) := by decide +kernel
theorem dL_cell_6 : decode cL_cell 6 = .ok (.aload_n 0, 1) := by decide +kernel
theorem dL_cell_7 : decode cL_cell 7 = .ok (.iload_n 1, 1) := by decide +kernel
theorem dL_cell_8 : decode cL_cell 8 = .ok (.iaload, 1) := by decide +kernel
theorem dL_cell_9 : decode cL_cell 9 = .ok (.goto 15, 3) := by decide +kernel
theorem dL_cell_12 : decode cL_cell 12 = .ok (.sipush 7919, 3) := by decide +kernel
theorem dL_cell_15 : decode cL_cell 15 = .ok (.iload_n 1, 1) := by decide +kernel
theorem dL_cell_16 : decode cL_cell 16 = .ok (.iconst 3, 1) := by decide +kernel
theorem dL_cell_17 : decode cL_cell 17 = .ok (.iadd, 1) := by decide +kernel
theorem dL_cell_18 : decode cL_cell 18 = .ok (.imul, 1) := by decide +kernel
theorem dL_cell_19 : decode cL_cell 19 = .ok (.iload_n 1, 1) := by decide +kernel
theorem dL_cell_20 : decode cL_cell 20 = .ok (.bipush 11, 2) := by decide +kernel
theorem dL_cell_22 : decode cL_cell 22 = .ok (.iadd, 1) := by decide +kernel
theorem dL_cell_23 : decode cL_cell 23 = .ok (.imul, 1) := by decide +kernel
theorem dL_cell_24 : decode cL_cell 24 = .ok (.ireturn, 1) := by decide +kernel
theorem dL_isBalloon_0 : decode cL_isBalloon 0 = .ok (.aload_n 0, 1) := by decide +kernel
theorem dL_isBalloon_1 : decode cL_isBalloon 1 = .ok (.iload_n 1, 1) := by decide +kernel
theorem dL_isBalloon_2 : decode cL_isBalloon 2 = .ok (.iconst 1, 1) := by decide +kernel
theorem dL_isBalloon_3 : decode cL_isBalloon 3 = .ok (.invokevirtual 24, 3) := by decide +kernel
theorem dL_isBalloon_6 : decode cL_isBalloon 6 = .ok (.istore_n 3, 1) := by decide +kernel
theorem dL_isBalloon_7 : decode cL_isBalloon 7 = .ok (.aload_n 0, 1) := by decide +kernel
theorem dL_isBalloon_8 : decode cL_isBalloon 8 = .ok (.iload_n 1, 1) := by decide +kernel
theorem dL_isBalloon_9 : decode cL_isBalloon 9 = .ok (.iconst 2, 1) := by decide +kernel
theorem dL_isBalloon_10 : decode cL_isBalloon 10 = .ok (.invokevirtual 24, 3) := by decide +kernel
theorem dL_isBalloon_13 : decode cL_isBalloon 13 = .ok (.istore 4, 2) := by decide +kernel
theorem dL_isBalloon_15 : decode cL_isBalloon 15 = .ok (.iload_n 3, 1) := by decide +kernel
theorem dL_isBalloon_16 : decode cL_isBalloon 16 = .ok (.aload_n 0, 1) := by decide +kernel
theorem dL_isBalloon_17 : decode cL_isBalloon 17 = .ok (.iload_n 1, 1) := by decide +kernel
theorem dL_isBalloon_18 : decode cL_isBalloon 18 = .ok (.iconst 3, 1) := by decide +kernel
theorem dL_isBalloon_19 : decode cL_isBalloon 19 = .ok (.invokevirtual 24, 3) := by decide +kernel
theorem dL_isBalloon_22 : decode cL_isBalloon 22 = .ok (.iadd, 1) := by decide +kernel
theorem dL_isBalloon_23 : decode cL_isBalloon 23 = .ok (.iconst 1, 1) := by decide +kernel
theorem dL_isBalloon_24 : decode cL_isBalloon 24 = .ok (.isub, 1) := by decide +kernel
theorem dL_isBalloon_25 : decode cL_isBalloon 25 = .ok (.istore 5, 2) := by decide +kernel
theorem dL_isBalloon_27 : decode cL_isBalloon 27 = .ok (.iload 4, 2) := by decide +kernel
theorem dL_isBalloon_29 : decode cL_isBalloon 29 = .ok (.aload_n 0, 1) := by decide +kernel
theorem dL_isBalloon_30 : decode cL_isBalloon 30 = .ok (.iload_n 1, 1) := by decide +kernel
theorem dL_isBalloon_31 : decode cL_isBalloon 31 = .ok (.iconst 4, 1) := by decide +kernel
theorem dL_isBalloon_32 : decode cL_isBalloon 32 = .ok (.invokevirtual 24, 3) := by decide +kernel
theorem dL_isBalloon_35 : decode cL_isBalloon 35 = .ok (.iadd, 1) := by decide +kernel
theorem dL_isBalloon_36 : decode cL_isBalloon 36 = .ok (.iconst 1, 1) := by decide +kernel
theorem dL_isBalloon_37 : decode cL_isBalloon 37 = .ok (.isub, 1) := by decide +kernel
theorem dL_isBalloon_38 : decode cL_isBalloon 38 = .ok (.istore 6, 2) := by decide +kernel
theorem dL_isBalloon_40 : decode cL_isBalloon 40 = .ok (.aload_n 0, 1) := by decide +kernel
theorem dL_isBalloon_41 : decode cL_isBalloon 41 = .ok (.iload_n 1, 1) := by decide +kernel
theorem dL_isBalloon_42 : decode cL_isBalloon 42 = .ok (.iconst 0, 1) := by decide +kernel
theorem dL_isBalloon_43 : decode cL_isBalloon 43 = .ok (.invokevirtual 24, 3) := by decide +kernel
theorem dL_isBalloon_46 : decode cL_isBalloon 46 = .ok (.iload_n 2, 1) := by decide +kernel
theorem dL_isBalloon_47 : decode cL_isBalloon 47 = .ok (.if_icmp .ne 38, 3) := by decide +kernel
theorem dL_isBalloon_50 : decode cL_isBalloon 50 = .ok (.iload_n 3, 1) := by decide +kernel
theorem dL_isBalloon_51 : decode cL_isBalloon 51 = .ok (.ifCond .lt 34, 3) := by decide +kernel
theorem dL_isBalloon_54 : decode cL_isBalloon 54 = .ok (.iload 4, 2) := by decide +kernel
theorem dL_isBalloon_56 : decode cL_isBalloon 56 = .ok (.ifCond .lt 29, 3) := by decide +kernel
theorem dL_isBalloon_59 : decode cL_isBalloon 59 = .ok (.iload 5, 2) := by decide +kernel
theorem dL_isBalloon_61 : decode cL_isBalloon 61 = .ok (.aload_n 0, 1) := by decide +kernel
theorem dL_isBalloon_62 : decode cL_isBalloon 62 = .ok (.iload_n 2, 1) := by decide +kernel
theorem dL_isBalloon_63 : decode cL_isBalloon 63 = .ok (.iconst 3, 1) := by decide +kernel
theorem dL_isBalloon_64 : decode cL_isBalloon 64 = .ok (.invokevirtual 21, 3) := by decide +kernel
theorem dL_isBalloon_67 : decode cL_isBalloon 67 = .ok (.if_icmp .ge 18, 3) := by decide +kernel
theorem dL_isBalloon_70 : decode cL_isBalloon 70 = .ok (.iload 6, 2) := by decide +kernel
theorem dL_isBalloon_72 : decode cL_isBalloon 72 = .ok (.aload_n 0, 1) := by decide +kernel
theorem dL_isBalloon_73 : decode cL_isBalloon 73 = .ok (.iload_n 2, 1) := by decide +kernel
theorem dL_isBalloon_74 : decode cL_isBalloon 74 = .ok (.iconst 4, 1) := by decide +kernel
theorem dL_isBalloon_75 : decode cL_isBalloon 75 = .ok (.invokevirtual 21, 3) := by decide +kernel
theorem dL_isBalloon_78 : decode cL_isBalloon 78 = .ok (.if_icmp .ge 7, 3) := by decide +kernel
theorem dL_isBalloon_81 : decode cL_isBalloon 81 = .ok (.iconst 1, 1) := by decide +kernel
theorem dL_isBalloon_82 : decode cL_isBalloon 82 = .ok (.goto 4, 3) := by decide +kernel
theorem dL_isBalloon_85 : decode cL_isBalloon 85 = .ok (.iconst 0, 1) := by decide +kernel
theorem dL_isBalloon_86 : decode cL_isBalloon 86 = .ok (.istore 7, 2) := by decide +kernel
theorem dL_isBalloon_88 : decode cL_isBalloon 88 = .ok (.iload 7, 2) := by decide +kernel
theorem dL_isBalloon_90 : decode cL_isBalloon 90 = .ok (.ifCond .eq 44, 3) := by decide +kernel
theorem dL_isBalloon_93 : decode cL_isBalloon 93 = .ok (.aload_n 0, 1) := by decide +kernel
theorem dL_isBalloon_94 : decode cL_isBalloon 94 = .ok (.iload_n 2, 1) := by decide +kernel
theorem dL_isBalloon_95 : decode cL_isBalloon 95 = .ok (.iload_n 3, 1) := by decide +kernel
theorem dL_isBalloon_96 : decode cL_isBalloon 96 = .ok (.iload 4, 2) := by decide +kernel
theorem dL_isBalloon_98 : decode cL_isBalloon 98 = .ok (.invokevirtual 27, 3) := by decide +kernel
theorem dL_isBalloon_101 : decode cL_isBalloon 101 = .ok (.iload_n 1, 1) := by decide +kernel
theorem dL_isBalloon_102 : decode cL_isBalloon 102 = .ok (.if_icmp .ne 32, 3) := by decide +kernel
theorem dL_isBalloon_105 : decode cL_isBalloon 105 = .ok (.aload_n 0, 1) := by decide +kernel
theorem dL_isBalloon_106 : decode cL_isBalloon 106 = .ok (.iload_n 2, 1) := by decide +kernel
theorem dL_isBalloon_107 : decode cL_isBalloon 107 = .ok (.iload 5, 2) := by decide +kernel
theorem dL_isBalloon_109 : decode cL_isBalloon 109 = .ok (.iload 6, 2) := by decide +kernel
theorem dL_isBalloon_111 : decode cL_isBalloon 111 = .ok (.invokevirtual 27, 3) := by decide +kernel
theorem dL_isBalloon_114 : decode cL_isBalloon 114 = .ok (.iload_n 1, 1) := by decide +kernel
theorem dL_isBalloon_115 : decode cL_isBalloon 115 = .ok (.if_icmp .ne 19, 3) := by decide +kernel
theorem dL_isBalloon_118 : decode cL_isBalloon 118 = .ok (.aload_n 0, 1) := by decide +kernel
theorem dL_isBalloon_119 : decode cL_isBalloon 119 = .ok (.iload_n 2, 1) := by decide +kernel
theorem dL_isBalloon_120 : decode cL_isBalloon 120 = .ok (.iload_n 3, 1) := by decide +kernel
theorem dL_isBalloon_121 : decode cL_isBalloon 121 = .ok (.iload 6, 2) := by decide +kernel
theorem dL_isBalloon_123 : decode cL_isBalloon 123 = .ok (.invokevirtual 27, 3) := by decide +kernel
theorem dL_isBalloon_126 : decode cL_isBalloon 126 = .ok (.iload_n 1, 1) := by decide +kernel
theorem dL_isBalloon_127 : decode cL_isBalloon 127 = .ok (.if_icmp .ne 7, 3) := by decide +kernel
theorem dL_isBalloon_130 : decode cL_isBalloon 130 = .ok (.iconst 1, 1) := by decide +kernel
theorem dL_isBalloon_131 : decode cL_isBalloon 131 = .ok (.goto 4, 3) := by decide +kernel
theorem dL_isBalloon_134 : decode cL_isBalloon 134 = .ok (.iconst 0, 1) := by decide +kernel
theorem dL_isBalloon_135 : decode cL_isBalloon 135 = .ok (.istore 7, 2) := by decide +kernel
theorem dL_isBalloon_137 : decode cL_isBalloon 137 = .ok (.aload_n 0, 1) := by decide +kernel
theorem dL_isBalloon_138 : decode cL_isBalloon 138 = .ok (.iload_n 1, 1) := by decide +kernel
theorem dL_isBalloon_139 : decode cL_isBalloon 139 = .ok (.invokevirtual 31, 3) := by decide +kernel
theorem dL_isBalloon_142 : decode cL_isBalloon 142 = .ok (.istore 8, 2) := by decide +kernel
theorem dL_isBalloon_144 : decode cL_isBalloon 144 = .ok (.iload 7, 2) := by decide +kernel
theorem dL_isBalloon_146 : decode cL_isBalloon 146 = .ok (.ifCond .eq 37, 3) := by decide +kernel
theorem dL_isBalloon_149 : decode cL_isBalloon 149 = .ok (.aload_n 0, 1) := by decide +kernel
theorem dL_isBalloon_150 : decode cL_isBalloon 150 = .ok (.iload_n 1, 1) := by decide +kernel
theorem dL_isBalloon_151 : decode cL_isBalloon 151 = .ok (.invokevirtual 34, 3) := by decide +kernel
theorem dL_isBalloon_154 : decode cL_isBalloon 154 = .ok (.iload 8, 2) := by decide +kernel
theorem dL_isBalloon_156 : decode cL_isBalloon 156 = .ok (.if_icmp .ne 27, 3) := by decide +kernel
theorem dL_isBalloon_159 : decode cL_isBalloon 159 = .ok (.aload_n 0, 1) := by decide +kernel
theorem dL_isBalloon_160 : decode cL_isBalloon 160 = .ok (.iload 8, 2) := by decide +kernel
theorem dL_isBalloon_162 : decode cL_isBalloon 162 = .ok (.invokevirtual 37, 3) := by decide +kernel
theorem dL_isBalloon_165 : decode cL_isBalloon 165 = .ok (.iload_n 1, 1) := by decide +kernel
theorem dL_isBalloon_166 : decode cL_isBalloon 166 = .ok (.if_icmp .ne 17, 3) := by decide +kernel
theorem dL_isBalloon_169 : decode cL_isBalloon 169 = .ok (.aload_n 0, 1) := by decide +kernel
theorem dL_isBalloon_170 : decode cL_isBalloon 170 = .ok (.iload_n 1, 1) := by decide +kernel
theorem dL_isBalloon_171 : decode cL_isBalloon 171 = .ok (.invokevirtual 40, 3) := by decide +kernel
theorem dL_isBalloon_174 : decode cL_isBalloon 174 = .ok (.iload 8, 2) := by decide +kernel
theorem dL_isBalloon_176 : decode cL_isBalloon 176 = .ok (.if_icmp .gt 7, 3) := by decide +kernel
theorem dL_isBalloon_179 : decode cL_isBalloon 179 = .ok (.iconst 1, 1) := by decide +kernel
theorem dL_isBalloon_180 : decode cL_isBalloon 180 = .ok (.goto 4, 3) := by decide +kernel
theorem dL_isBalloon_183 : decode cL_isBalloon 183 = .ok (.iconst 0, 1) := by decide +kernel
theorem dL_isBalloon_184 : decode cL_isBalloon 184 = .ok (.ireturn, 1) := by decide +kernel
theorem dL_isPage_0 : decode cL_isPage 0 = .ok (.iconst 1, 1) := by decide +kernel
theorem dL_isPage_1 : decode cL_isPage 1 = .ok (.istore_n 2, 1) := by decide +kernel
theorem dL_isPage_2 : decode cL_isPage 2 = .ok (.aload_n 0, 1) := by decide +kernel
theorem dL_isPage_3 : decode cL_isPage 3 = .ok (.iload_n 1, 1) := by decide +kernel
theorem dL_isPage_4 : decode cL_isPage 4 = .ok (.invokevirtual 8, 3) := by decide +kernel
theorem dL_isPage_7 : decode cL_isPage 7 = .ok (.istore_n 3, 1) := by decide +kernel
theorem dL_isPage_8 : decode cL_isPage 8 = .ok (.iconst 0, 1) := by decide +kernel
theorem dL_isPage_9 : decode cL_isPage 9 = .ok (.istore 4, 2) := by decide +kernel
theorem dL_isPage_11 : decode cL_isPage 11 = .ok (.iconst 0, 1) := by decide +kernel
theorem dL_isPage_12 : decode cL_isPage 12 = .ok (.istore 5, 2) := by decide +kernel
theorem dL_isPage_14 : decode cL_isPage 14 = .ok (.iload 5, 2) := by decide +kernel
theorem dL_isPage_16 : decode cL_isPage 16 = .ok (.aload_n 0, 1) := by decide +kernel
theorem dL_isPage_17 : decode cL_isPage 17 = .ok (.iload_n 1, 1) := by decide +kernel
theorem dL_isPage_18 : decode cL_isPage 18 = .ok (.invokevirtual 14, 3) := by decide +kernel
theorem dL_isPage_21 : decode cL_isPage 21 = .ok (.if_icmp .ge 161, 3) := by decide +kernel
theorem dL_isPage_24 : decode cL_isPage 24 = .ok (.iconst 0, 1) := by decide +kernel
theorem dL_isPage_25 : decode cL_isPage 25 = .ok (.istore 6, 2) := by decide +kernel
theorem dL_isPage_27 : decode cL_isPage 27 = .ok (.iconst 0, 1) := by decide +kernel
theorem dL_isPage_28 : decode cL_isPage 28 = .ok (.istore 7, 2) := by decide +kernel
theorem dL_isPage_30 : decode cL_isPage 30 = .ok (.iconst 0, 1) := by decide +kernel
theorem dL_isPage_31 : decode cL_isPage 31 = .ok (.istore 8, 2) := by decide +kernel
theorem dL_isPage_33 : decode cL_isPage 33 = .ok (.iload 8, 2) := by decide +kernel
theorem dL_isPage_35 : decode cL_isPage 35 = .ok (.iload_n 3, 1) := by decide +kernel
theorem dL_isPage_36 : decode cL_isPage 36 = .ok (.if_icmp .ge 103, 3) := by decide +kernel
theorem dL_isPage_39 : decode cL_isPage 39 = .ok (.aload_n 0, 1) := by decide +kernel
theorem dL_isPage_40 : decode cL_isPage 40 = .ok (.iload_n 1, 1) := by decide +kernel
theorem dL_isPage_41 : decode cL_isPage 41 = .ok (.iload 8, 2) := by decide +kernel
theorem dL_isPage_43 : decode cL_isPage 43 = .ok (.invokevirtual 17, 3) := by decide +kernel
theorem dL_isPage_46 : decode cL_isPage 46 = .ok (.istore 9, 2) := by decide +kernel
theorem dL_isPage_48 : decode cL_isPage 48 = .ok (.aload_n 0, 1) := by decide +kernel
theorem dL_isPage_49 : decode cL_isPage 49 = .ok (.iload 9, 2) := by decide +kernel
theorem dL_isPage_51 : decode cL_isPage 51 = .ok (.iconst 0, 1) := by decide +kernel
theorem dL_isPage_52 : decode cL_isPage 52 = .ok (.invokevirtual 21, 3) := by decide +kernel
theorem dL_isPage_55 : decode cL_isPage 55 = .ok (.iload 5, 2) := by decide +kernel
theorem dL_isPage_57 : decode cL_isPage 57 = .ok (.if_icmp .ne 76, 3) := by decide +kernel
theorem dL_isPage_60 : decode cL_isPage 60 = .ok (.iload 6, 2) := by decide +kernel
theorem dL_isPage_62 : decode cL_isPage 62 = .ok (.aload_n 0, 1) := by decide +kernel
theorem dL_isPage_63 : decode cL_isPage 63 = .ok (.iload 9, 2) := by decide +kernel
theorem dL_isPage_65 : decode cL_isPage 65 = .ok (.iconst 3, 1) := by decide +kernel
theorem dL_isPage_66 : decode cL_isPage 66 = .ok (.invokevirtual 21, 3) := by decide +kernel
theorem dL_isPage_69 : decode cL_isPage 69 = .ok (.iadd, 1) := by decide +kernel
theorem dL_isPage_70 : decode cL_isPage 70 = .ok (.istore 6, 2) := by decide +kernel
theorem dL_isPage_72 : decode cL_isPage 72 = .ok (.aload_n 0, 1) := by decide +kernel
theorem dL_isPage_73 : decode cL_isPage 73 = .ok (.iload 9, 2) := by decide +kernel
theorem dL_isPage_75 : decode cL_isPage 75 = .ok (.iconst 4, 1) := by decide +kernel
theorem dL_isPage_76 : decode cL_isPage 76 = .ok (.invokevirtual 21, 3) := by decide +kernel
theorem dL_isPage_79 : decode cL_isPage 79 = .ok (.istore 7, 2) := by decide +kernel
theorem dL_isPage_81 : decode cL_isPage 81 = .ok (.iload_n 2, 1) := by decide +kernel
theorem dL_isPage_82 : decode cL_isPage 82 = .ok (.ifCond .eq 49, 3) := by decide +kernel
theorem dL_isPage_85 : decode cL_isPage 85 = .ok (.aload_n 0, 1) := by decide +kernel
theorem dL_isPage_86 : decode cL_isPage 86 = .ok (.iload 9, 2) := by decide +kernel
theorem dL_isPage_88 : decode cL_isPage 88 = .ok (.iconst 2, 1) := by decide +kernel
theorem dL_isPage_89 : decode cL_isPage 89 = .ok (.invokevirtual 21, 3) := by decide +kernel
theorem dL_isPage_92 : decode cL_isPage 92 = .ok (.iload 4, 2) := by decide +kernel
theorem dL_isPage_94 : decode cL_isPage 94 = .ok (.if_icmp .ne 37, 3) := by decide +kernel
theorem dL_isPage_97 : decode cL_isPage 97 = .ok (.aload_n 0, 1) := by decide +kernel
theorem dL_isPage_98 : decode cL_isPage 98 = .ok (.iload 9, 2) := by decide +kernel
theorem dL_isPage_100 : decode cL_isPage 100 = .ok (.iconst 1, 1) := by decide +kernel
theorem dL_isPage_101 : decode cL_isPage 101 = .ok (.invokevirtual 21, 3) := by decide +kernel
theorem dL_isPage_104 : decode cL_isPage 104 = .ok (.ifCond .lt 27, 3) := by decide +kernel
theorem dL_isPage_107 : decode cL_isPage 107 = .ok (.aload_n 0, 1) := by decide +kernel
theorem dL_isPage_108 : decode cL_isPage 108 = .ok (.iload 9, 2) := by decide +kernel
theorem dL_isPage_110 : decode cL_isPage 110 = .ok (.iconst 1, 1) := by decide +kernel
theorem dL_isPage_111 : decode cL_isPage 111 = .ok (.invokevirtual 21, 3) := by decide +kernel
theorem dL_isPage_114 : decode cL_isPage 114 = .ok (.aload_n 0, 1) := by decide +kernel
theorem dL_isPage_115 : decode cL_isPage 115 = .ok (.iload 9, 2) := by decide +kernel
theorem dL_isPage_117 : decode cL_isPage 117 = .ok (.iconst 3, 1) := by decide +kernel
theorem dL_isPage_118 : decode cL_isPage 118 = .ok (.invokevirtual 21, 3) := by decide +kernel
theorem dL_isPage_121 : decode cL_isPage 121 = .ok (.iadd, 1) := by decide +kernel
theorem dL_isPage_122 : decode cL_isPage 122 = .ok (.bipush 24, 2) := by decide +kernel
theorem dL_isPage_124 : decode cL_isPage 124 = .ok (.if_icmp .gt 7, 3) := by decide +kernel
theorem dL_isPage_127 : decode cL_isPage 127 = .ok (.iconst 1, 1) := by decide +kernel
theorem dL_isPage_128 : decode cL_isPage 128 = .ok (.goto 4, 3) := by decide +kernel
theorem dL_isPage_131 : decode cL_isPage 131 = .ok (.iconst 0, 1) := by decide +kernel
theorem dL_isPage_132 : decode cL_isPage 132 = .ok (.istore_n 2, 1) := by decide +kernel
theorem dL_isPage_133 : decode cL_isPage 133 = .ok (.iinc 8 1, 3) := by decide +kernel
theorem dL_isPage_136 : decode cL_isPage 136 = .ok (.goto (-103), 3) := by decide +kernel
theorem dL_isPage_139 : decode cL_isPage 139 = .ok (.iload_n 2, 1) := by decide +kernel
theorem dL_isPage_140 : decode cL_isPage 140 = .ok (.ifCond .eq 27, 3) := by decide +kernel
theorem dL_isPage_143 : decode cL_isPage 143 = .ok (.iload 6, 2) := by decide +kernel
theorem dL_isPage_145 : decode cL_isPage 145 = .ok (.bipush 24, 2) := by decide +kernel
theorem dL_isPage_147 : decode cL_isPage 147 = .ok (.if_icmp .ne 20, 3) := by decide +kernel
theorem dL_isPage_150 : decode cL_isPage 150 = .ok (.iload 7, 2) := by decide +kernel
theorem dL_isPage_152 : decode cL_isPage 152 = .ok (.iconst 3, 1) := by decide +kernel
theorem dL_isPage_153 : decode cL_isPage 153 = .ok (.if_icmp .lt 14, 3) := by decide +kernel
theorem dL_isPage_156 : decode cL_isPage 156 = .ok (.iload 7, 2) := by decide +kernel
theorem dL_isPage_158 : decode cL_isPage 158 = .ok (.bipush 16, 2) := by decide +kernel
theorem dL_isPage_160 : decode cL_isPage 160 = .ok (.if_icmp .gt 7, 3) := by decide +kernel
theorem dL_isPage_163 : decode cL_isPage 163 = .ok (.iconst 1, 1) := by decide +kernel
theorem dL_isPage_164 : decode cL_isPage 164 = .ok (.goto 4, 3) := by decide +kernel
theorem dL_isPage_167 : decode cL_isPage 167 = .ok (.iconst 0, 1) := by decide +kernel
theorem dL_isPage_168 : decode cL_isPage 168 = .ok (.istore_n 2, 1) := by decide +kernel
theorem dL_isPage_169 : decode cL_isPage 169 = .ok (.iload 4, 2) := by decide +kernel
theorem dL_isPage_171 : decode cL_isPage 171 = .ok (.iload 7, 2) := by decide +kernel
theorem dL_isPage_173 : decode cL_isPage 173 = .ok (.iadd, 1) := by decide +kernel
theorem dL_isPage_174 : decode cL_isPage 174 = .ok (.istore 4, 2) := by decide +kernel
theorem dL_isPage_176 : decode cL_isPage 176 = .ok (.iinc 5 1, 3) := by decide +kernel
theorem dL_isPage_179 : decode cL_isPage 179 = .ok (.goto (-165), 3) := by decide +kernel
theorem dL_isPage_182 : decode cL_isPage 182 = .ok (.iload_n 2, 1) := by decide +kernel
theorem dL_isPage_183 : decode cL_isPage 183 = .ok (.ifCond .eq 14, 3) := by decide +kernel
theorem dL_isPage_186 : decode cL_isPage 186 = .ok (.iload 4, 2) := by decide +kernel
theorem dL_isPage_188 : decode cL_isPage 188 = .ok (.bipush 50, 2) := by decide +kernel
theorem dL_isPage_190 : decode cL_isPage 190 = .ok (.if_icmp .gt 7, 3) := by decide +kernel
theorem dL_isPage_193 : decode cL_isPage 193 = .ok (.iconst 1, 1) := by decide +kernel
theorem dL_isPage_194 : decode cL_isPage 194 = .ok (.goto 4, 3) := by decide +kernel
theorem dL_isPage_197 : decode cL_isPage 197 = .ok (.iconst 0, 1) := by decide +kernel
theorem dL_isPage_198 : decode cL_isPage 198 = .ok (.ireturn, 1) := by decide +kernel
theorem dL_law_0 : decode cL_law 0 = .ok (.new 9, 3) := by decide +kernel
theorem dL_law_3 : decode cL_law 3 = .ok (.dup, 1) := by decide +kernel
theorem dL_law_4 : decode cL_law 4 = .ok (.invokespecial 43, 3) := by decide +kernel
theorem dL_law_7 : decode cL_law 7 = .ok (.astore_n 1, 1) := by decide +kernel
theorem dL_law_8 : decode cL_law 8 = .ok (.bipush 40, 2) := by decide +kernel
theorem dL_law_10 : decode cL_law 10 = .ok (.newarray .int, 2) := by decide +kernel
theorem dL_law_12 : decode cL_law 12 = .ok (.astore_n 2, 1) := by decide +kernel
theorem dL_law_13 : decode cL_law 13 = .ok (.bipush 40, 2) := by decide +kernel
theorem dL_law_15 : decode cL_law 15 = .ok (.newarray .int, 2) := by decide +kernel
theorem dL_law_17 : decode cL_law 17 = .ok (.astore_n 3, 1) := by decide +kernel
theorem dL_law_18 : decode cL_law 18 = .ok (.bipush 40, 2) := by decide +kernel
theorem dL_law_20 : decode cL_law 20 = .ok (.newarray .int, 2) := by decide +kernel
theorem dL_law_22 : decode cL_law 22 = .ok (.astore 4, 2) := by decide +kernel
theorem dL_law_24 : decode cL_law 24 = .ok (.bipush 40, 2) := by decide +kernel
theorem dL_law_26 : decode cL_law 26 = .ok (.newarray .int, 2) := by decide +kernel
theorem dL_law_28 : decode cL_law 28 = .ok (.astore 5, 2) := by decide +kernel
theorem dL_law_30 : decode cL_law 30 = .ok (.iconst 0, 1) := by decide +kernel
theorem dL_law_31 : decode cL_law 31 = .ok (.istore 6, 2) := by decide +kernel
theorem dL_law_33 : decode cL_law 33 = .ok (.iconst 0, 1) := by decide +kernel
theorem dL_law_34 : decode cL_law 34 = .ok (.istore 7, 2) := by decide +kernel
theorem dL_law_36 : decode cL_law 36 = .ok (.iconst 0, 1) := by decide +kernel
theorem dL_law_37 : decode cL_law 37 = .ok (.istore 8, 2) := by decide +kernel
theorem dL_law_39 : decode cL_law 39 = .ok (.iconst 0, 1) := by decide +kernel
theorem dL_law_40 : decode cL_law 40 = .ok (.istore 9, 2) := by decide +kernel
theorem dL_law_42 : decode cL_law 42 = .ok (.iload 9, 2) := by decide +kernel
theorem dL_law_44 : decode cL_law 44 = .ok (.bipush 60, 2) := by decide +kernel
theorem dL_law_46 : decode cL_law 46 = .ok (.if_icmp .ge 1111, 3) := by decide +kernel
theorem dL_law_49 : decode cL_law 49 = .ok (.aload_n 0, 1) := by decide +kernel
theorem dL_law_50 : decode cL_law 50 = .ok (.iconst 2, 1) := by decide +kernel
theorem dL_law_51 : decode cL_law 51 = .ok (.iload 9, 2) := by decide +kernel
theorem dL_law_53 : decode cL_law 53 = .ok (.imul, 1) := by decide +kernel
theorem dL_law_54 : decode cL_law 54 = .ok (.invokestatic 44, 3) := by decide +kernel
theorem dL_law_57 : decode cL_law 57 = .ok (.istore 10, 2) := by decide +kernel
theorem dL_law_59 : decode cL_law 59 = .ok (.aload_n 0, 1) := by decide +kernel
theorem dL_law_60 : decode cL_law 60 = .ok (.iconst 2, 1) := by decide +kernel
theorem dL_law_61 : decode cL_law 61 = .ok (.iload 9, 2) := by decide +kernel
theorem dL_law_63 : decode cL_law 63 = .ok (.imul, 1) := by decide +kernel
theorem dL_law_64 : decode cL_law 64 = .ok (.iconst 1, 1) := by decide +kernel
theorem dL_law_65 : decode cL_law 65 = .ok (.iadd, 1) := by decide +kernel
theorem dL_law_66 : decode cL_law 66 = .ok (.invokestatic 44, 3) := by decide +kernel
theorem dL_law_69 : decode cL_law 69 = .ok (.istore 11, 2) := by decide +kernel
theorem dL_law_71 : decode cL_law 71 = .ok (.iload 10, 2) := by decide +kernel
theorem dL_law_73 : decode cL_law 73 = .ok (.bipush 16, 2) := by decide +kernel
theorem dL_law_75 : decode cL_law 75 = .ok (.invokestatic 49, 3) := by decide +kernel
theorem dL_law_78 : decode cL_law 78 = .ok (.istore 12, 2) := by decide +kernel
theorem dL_law_80 : decode cL_law 80 = .ok (.iload 6, 2) := by decide +kernel
theorem dL_law_82 : decode cL_law 82 = .ok (.ifCond .ne 7, 3) := by decide +kernel
theorem dL_law_85 : decode cL_law 85 = .ok (.iconst 0, 1) := by decide +kernel
theorem dL_law_86 : decode cL_law 86 = .ok (.goto 10, 3) := by decide +kernel
theorem dL_law_89 : decode cL_law 89 = .ok (.iload 11, 2) := by decide +kernel
theorem dL_law_91 : decode cL_law 91 = .ok (.iload 6, 2) := by decide +kernel
theorem dL_law_93 : decode cL_law 93 = .ok (.invokestatic 49, 3) := by decide +kernel
theorem dL_law_96 : decode cL_law 96 = .ok (.istore 13, 2) := by decide +kernel
theorem dL_law_98 : decode cL_law 98 = .ok (.iload 7, 2) := by decide +kernel
theorem dL_law_100 : decode cL_law 100 = .ok (.ifCond .ne 7, 3) := by decide +kernel
theorem dL_law_103 : decode cL_law 103 = .ok (.iconst 0, 1) := by decide +kernel
theorem dL_law_104 : decode cL_law 104 = .ok (.goto 12, 3) := by decide +kernel
theorem dL_law_107 : decode cL_law 107 = .ok (.iload 11, 2) := by decide +kernel
theorem dL_law_109 : decode cL_law 109 = .ok (.iconst 3, 1) := by decide +kernel
theorem dL_law_110 : decode cL_law 110 = .ok (.ishr, 1) := by decide +kernel
theorem dL_law_111 : decode cL_law 111 = .ok (.iload 7, 2) := by decide +kernel
theorem dL_law_113 : decode cL_law 113 = .ok (.invokestatic 49, 3) := by decide +kernel
theorem dL_law_116 : decode cL_law 116 = .ok (.istore 14, 2) := by decide +kernel
theorem dL_law_118 : decode cL_law 118 = .ok (.iload 6, 2) := by decide +kernel
theorem dL_law_120 : decode cL_law 120 = .ok (.ifCond .le 14, 3) := by decide +kernel
theorem dL_law_123 : decode cL_law 123 = .ok (.aload_n 2, 1) := by decide +kernel
theorem dL_law_124 : decode cL_law 124 = .ok (.iload 13, 2) := by decide +kernel
theorem dL_law_126 : decode cL_law 126 = .ok (.iaload, 1) := by decide +kernel
theorem dL_law_127 : decode cL_law 127 = .ok (.ifCond .lt 7, 3) := by decide +kernel
theorem dL_law_130 : decode cL_law 130 = .ok (.iconst 1, 1) := by decide +kernel
theorem dL_law_131 : decode cL_law 131 = .ok (.goto 4, 3) := by decide +kernel
theorem dL_law_134 : decode cL_law 134 = .ok (.iconst 0, 1) := by decide +kernel
theorem dL_law_135 : decode cL_law 135 = .ok (.istore 15, 2) := by decide +kernel
theorem dL_law_137 : decode cL_law 137 = .ok (.iload 7, 2) := by decide +kernel
theorem dL_law_139 : decode cL_law 139 = .ok (.ifCond .le 15, 3) := by decide +kernel
theorem dL_law_142 : decode cL_law 142 = .ok (.aload 5, 2) := by decide +kernel
theorem dL_law_144 : decode cL_law 144 = .ok (.iload 14, 2) := by decide +kernel
theorem dL_law_146 : decode cL_law 146 = .ok (.iaload, 1) := by decide +kernel
theorem dL_law_147 : decode cL_law 147 = .ok (.ifCond .lt 7, 3) := by decide +kernel
theorem dL_law_150 : decode cL_law 150 = .ok (.iconst 1, 1) := by decide +kernel
theorem dL_law_151 : decode cL_law 151 = .ok (.goto 4, 3) := by decide +kernel
theorem dL_law_154 : decode cL_law 154 = .ok (.iconst 0, 1) := by decide +kernel
theorem dL_law_155 : decode cL_law 155 = .ok (.istore 16, 2) := by decide +kernel
theorem dL_law_157 : decode cL_law 157 = .ok (.iconst 1, 1) := by decide +kernel
theorem dL_law_158 : decode cL_law 158 = .ok (.istore 17, 2) := by decide +kernel
theorem dL_law_160 : decode cL_law 160 = .ok (.aload_n 1, 1) := by decide +kernel
theorem dL_law_161 : decode cL_law 161 = .ok (.invokevirtual 52, 3) := by decide +kernel
theorem dL_law_164 : decode cL_law 164 = .ok (.iconst 2, 1) := by decide +kernel
theorem dL_law_165 : decode cL_law 165 = .ok (.if_icmp .lt 16, 3) := by decide +kernel
theorem dL_law_168 : decode cL_law 168 = .ok (.iload 12, 2) := by decide +kernel
theorem dL_law_170 : decode cL_law 170 = .ok (.ifCond .ne 34, 3) := by decide +kernel
theorem dL_law_173 : decode cL_law 173 = .ok (.aload_n 1, 1) := by decide +kernel
theorem dL_law_174 : decode cL_law 174 = .ok (.invokevirtual 52, 3) := by decide +kernel
theorem dL_law_177 : decode cL_law 177 = .ok (.iconst 5, 1) := by decide +kernel
theorem dL_law_178 : decode cL_law 178 = .ok (.if_icmp .ge 26, 3) := by decide +kernel
theorem dL_law_181 : decode cL_law 181 = .ok (.aload_n 1, 1) := by decide +kernel
theorem dL_law_182 : decode cL_law 182 = .ok (.invokevirtual 56, 3) := by decide +kernel
theorem dL_law_185 : decode cL_law 185 = .ok (.aload_n 1, 1) := by decide +kernel
theorem dL_law_186 : decode cL_law 186 = .ok (.invokevirtual 52, 3) := by decide +kernel
theorem dL_law_189 : decode cL_law 189 = .ok (.iconst 1, 1) := by decide +kernel
theorem dL_law_190 : decode cL_law 190 = .ok (.isub, 1) := by decide +kernel
theorem dL_law_191 : decode cL_law 191 = .ok (.if_icmp .ne 7, 3) := by decide +kernel
theorem dL_law_194 : decode cL_law 194 = .ok (.iconst 1, 1) := by decide +kernel
theorem dL_law_195 : decode cL_law 195 = .ok (.goto 4, 3) := by decide +kernel
theorem dL_law_198 : decode cL_law 198 = .ok (.iconst 0, 1) := by decide +kernel
theorem dL_law_199 : decode cL_law 199 = .ok (.istore 17, 2) := by decide +kernel
theorem dL_law_201 : decode cL_law 201 = .ok (.goto 813, 3) := by decide +kernel
theorem dL_law_204 : decode cL_law 204 = .ok (.iload 12, 2) := by decide +kernel
theorem dL_law_206 : decode cL_law 206 = .ok (.iconst 4, 1) := by decide +kernel
theorem dL_law_207 : decode cL_law 207 = .ok (.if_icmp .ge 122, 3) := by decide +kernel
theorem dL_law_210 : decode cL_law 210 = .ok (.iload 11, 2) := by decide +kernel
theorem dL_law_212 : decode cL_law 212 = .ok (.bipush 6, 2) := by decide +kernel
theorem dL_law_214 : decode cL_law 214 = .ok (.ishr, 1) := by decide +kernel
theorem dL_law_215 : decode cL_law 215 = .ok (.aload_n 1, 1) := by decide +kernel
theorem dL_law_216 : decode cL_law 216 = .ok (.invokevirtual 52, 3) := by decide +kernel
theorem dL_law_219 : decode cL_law 219 = .ok (.invokestatic 49, 3) := by decide +kernel
theorem dL_law_222 : decode cL_law 222 = .ok (.istore 18, 2) := by decide +kernel
theorem dL_law_224 : decode cL_law 224 = .ok (.iload 6, 2) := by decide +kernel
theorem dL_law_226 : decode cL_law 226 = .ok (.bipush 40, 2) := by decide +kernel
theorem dL_law_228 : decode cL_law 228 = .ok (.if_icmp .ge 98, 3) := by decide +kernel
theorem dL_law_231 : decode cL_law 231 = .ok (.aload_n 1, 1) := by decide +kernel
theorem dL_law_232 : decode cL_law 232 = .ok (.iload 18, 2) := by decide +kernel
theorem dL_law_234 : decode cL_law 234 = .ok (.invokevirtual 8, 3) := by decide +kernel
theorem dL_law_237 : decode cL_law 237 = .ok (.iconst 4, 1) := by decide +kernel
theorem dL_law_238 : decode cL_law 238 = .ok (.if_icmp .ge 88, 3) := by decide +kernel
theorem dL_law_241 : decode cL_law 241 = .ok (.aload_n 1, 1) := by decide +kernel
theorem dL_law_242 : decode cL_law 242 = .ok (.iload 18, 2) := by decide +kernel
theorem dL_law_244 : decode cL_law 244 = .ok (.iload 11, 2) := by decide +kernel
theorem dL_law_246 : decode cL_law 246 = .ok (.bipush 9, 2) := by decide +kernel
theorem dL_law_248 : decode cL_law 248 = .ok (.ishr, 1) := by decide +kernel
theorem dL_law_249 : decode cL_law 249 = .ok (.aload_n 1, 1) := by decide +kernel
theorem dL_law_250 : decode cL_law 250 = .ok (.iload 18, 2) := by decide +kernel
theorem dL_law_252 : decode cL_law 252 = .ok (.invokevirtual 8, 3) := by decide +kernel
theorem dL_law_255 : decode cL_law 255 = .ok (.iconst 1, 1) := by decide +kernel
theorem dL_law_256 : decode cL_law 256 = .ok (.iadd, 1) := by decide +kernel
theorem dL_law_257 : decode cL_law 257 = .ok (.invokestatic 49, 3) := by decide +kernel
theorem dL_law_260 : decode cL_law 260 = .ok (.iconst 1, 1) := by decide +kernel
theorem dL_law_261 : decode cL_law 261 = .ok (.iload 11, 2) := by decide +kernel
theorem dL_law_263 : decode cL_law 263 = .ok (.bipush 12, 2) := by decide +kernel
theorem dL_law_265 : decode cL_law 265 = .ok (.ishr, 1) := by decide +kernel
theorem dL_law_266 : decode cL_law 266 = .ok (.bipush 9, 2) := by decide +kernel
theorem dL_law_268 : decode cL_law 268 = .ok (.invokestatic 49, 3) := by decide +kernel
theorem dL_law_271 : decode cL_law 271 = .ok (.iadd, 1) := by decide +kernel
theorem dL_law_272 : decode cL_law 272 = .ok (.bipush 6, 2) := by decide +kernel
theorem dL_law_274 : decode cL_law 274 = .ok (.iload 11, 2) := by decide +kernel
theorem dL_law_276 : decode cL_law 276 = .ok (.bipush 15, 2) := by decide +kernel
theorem dL_law_278 : decode cL_law 278 = .ok (.ishr, 1) := by decide +kernel
theorem dL_law_279 : decode cL_law 279 = .ok (.bipush 19, 2) := by decide +kernel
theorem dL_law_281 : decode cL_law 281 = .ok (.invokestatic 49, 3) := by decide +kernel
theorem dL_law_284 : decode cL_law 284 = .ok (.iadd, 1) := by decide +kernel
theorem dL_law_285 : decode cL_law 285 = .ok (.iconst 3, 1) := by decide +kernel
theorem dL_law_286 : decode cL_law 286 = .ok (.iload 11, 2) := by decide +kernel
theorem dL_law_288 : decode cL_law 288 = .ok (.bipush 20, 2) := by decide +kernel
theorem dL_law_290 : decode cL_law 290 = .ok (.ishr, 1) := by decide +kernel
theorem dL_law_291 : decode cL_law 291 = .ok (.bipush 10, 2) := by decide +kernel
theorem dL_law_293 : decode cL_law 293 = .ok (.invokestatic 49, 3) := by decide +kernel
theorem dL_law_296 : decode cL_law 296 = .ok (.iadd, 1) := by decide +kernel
theorem dL_law_297 : decode cL_law 297 = .ok (.invokevirtual 59, 3) := by decide +kernel
theorem dL_law_300 : decode cL_law 300 = .ok (.iload 6, 2) := by decide +kernel
theorem dL_law_302 : decode cL_law 302 = .ok (.if_icmp .ne 7, 3) := by decide +kernel
theorem dL_law_305 : decode cL_law 305 = .ok (.iconst 1, 1) := by decide +kernel
theorem dL_law_306 : decode cL_law 306 = .ok (.goto 4, 3) := by decide +kernel
theorem dL_law_309 : decode cL_law 309 = .ok (.iconst 0, 1) := by decide +kernel
theorem dL_law_310 : decode cL_law 310 = .ok (.istore 17, 2) := by decide +kernel
theorem dL_law_312 : decode cL_law 312 = .ok (.aload_n 2, 1) := by decide +kernel
theorem dL_law_313 : decode cL_law 313 = .ok (.iload 6, 2) := by decide +kernel
theorem dL_law_315 : decode cL_law 315 = .ok (.iload 18, 2) := by decide +kernel
theorem dL_law_317 : decode cL_law 317 = .ok (.iastore, 1) := by decide +kernel
theorem dL_law_318 : decode cL_law 318 = .ok (.aload_n 3, 1) := by decide +kernel
theorem dL_law_319 : decode cL_law 319 = .ok (.iload 6, 2) := by decide +kernel
theorem dL_law_321 : decode cL_law 321 = .ok (.iconst 0, 1) := by decide +kernel
theorem dL_law_322 : decode cL_law 322 = .ok (.iastore, 1) := by decide +kernel
theorem dL_law_323 : decode cL_law 323 = .ok (.iinc 6 1, 3) := by decide +kernel
theorem dL_law_326 : decode cL_law 326 = .ok (.goto 688, 3) := by decide +kernel
theorem dL_law_329 : decode cL_law 329 = .ok (.iload 12, 2) := by decide +kernel
theorem dL_law_331 : decode cL_law 331 = .ok (.bipush 8, 2) := by decide +kernel
theorem dL_law_333 : decode cL_law 333 = .ok (.if_icmp .ge 88, 3) := by decide +kernel
theorem dL_law_336 : decode cL_law 336 = .ok (.iload 15, 2) := by decide +kernel
theorem dL_law_338 : decode cL_law 338 = .ok (.ifCond .eq 676, 3) := by decide +kernel
theorem dL_law_341 : decode cL_law 341 = .ok (.iload 7, 2) := by decide +kernel
theorem dL_law_343 : decode cL_law 343 = .ok (.bipush 40, 2) := by decide +kernel
theorem dL_law_345 : decode cL_law 345 = .ok (.if_icmp .ge 669, 3) := by decide +kernel
theorem dL_law_348 : decode cL_law 348 = .ok (.aload_n 3, 1) := by decide +kernel
theorem dL_law_349 : decode cL_law 349 = .ok (.iload 13, 2) := by decide +kernel
theorem dL_law_351 : decode cL_law 351 = .ok (.iaload, 1) := by decide +kernel
theorem dL_law_352 : decode cL_law 352 = .ok (.iconst 2, 1) := by decide +kernel
theorem dL_law_353 : decode cL_law 353 = .ok (.if_icmp .ge 661, 3) := by decide +kernel
theorem dL_law_356 : decode cL_law 356 = .ok (.aload_n 1, 1) := by decide +kernel
theorem dL_law_357 : decode cL_law 357 = .ok (.iload 13, 2) := by decide +kernel
theorem dL_law_359 : decode cL_law 359 = .ok (.iload 11, 2) := by decide +kernel
theorem dL_law_361 : decode cL_law 361 = .ok (.bipush 6, 2) := by decide +kernel
theorem dL_law_363 : decode cL_law 363 = .ok (.ishr, 1) := by decide +kernel
theorem dL_law_364 : decode cL_law 364 = .ok (.aload_n 3, 1) := by decide +kernel
theorem dL_law_365 : decode cL_law 365 = .ok (.iload 13, 2) := by decide +kernel
theorem dL_law_367 : decode cL_law 367 = .ok (.iaload, 1) := by decide +kernel
theorem dL_law_368 : decode cL_law 368 = .ok (.iconst 1, 1) := by decide +kernel
theorem dL_law_369 : decode cL_law 369 = .ok (.iadd, 1) := by decide +kernel
theorem dL_law_370 : decode cL_law 370 = .ok (.invokestatic 49, 3) := by decide +kernel
theorem dL_law_373 : decode cL_law 373 = .ok (.iconst 1, 1) := by decide +kernel
theorem dL_law_374 : decode cL_law 374 = .ok (.iload 11, 2) := by decide +kernel
theorem dL_law_376 : decode cL_law 376 = .ok (.bipush 8, 2) := by decide +kernel
theorem dL_law_378 : decode cL_law 378 = .ok (.ishr, 1) := by decide +kernel
theorem dL_law_379 : decode cL_law 379 = .ok (.bipush 12, 2) := by decide +kernel
theorem dL_law_381 : decode cL_law 381 = .ok (.invokestatic 49, 3) := by decide +kernel
theorem dL_law_384 : decode cL_law 384 = .ok (.iadd, 1) := by decide +kernel
theorem dL_law_385 : decode cL_law 385 = .ok (.invokevirtual 63, 3) := by decide +kernel
theorem dL_law_388 : decode cL_law 388 = .ok (.iload 7, 2) := by decide +kernel
theorem dL_law_390 : decode cL_law 390 = .ok (.if_icmp .ne 7, 3) := by decide +kernel
theorem dL_law_393 : decode cL_law 393 = .ok (.iconst 1, 1) := by decide +kernel
theorem dL_law_394 : decode cL_law 394 = .ok (.goto 4, 3) := by decide +kernel
theorem dL_law_397 : decode cL_law 397 = .ok (.iconst 0, 1) := by decide +kernel
theorem dL_law_398 : decode cL_law 398 = .ok (.istore 17, 2) := by decide +kernel
theorem dL_law_400 : decode cL_law 400 = .ok (.aload 5, 2) := by decide +kernel
theorem dL_law_402 : decode cL_law 402 = .ok (.iload 7, 2) := by decide +kernel
theorem dL_law_404 : decode cL_law 404 = .ok (.iload 13, 2) := by decide +kernel
theorem dL_law_406 : decode cL_law 406 = .ok (.iastore, 1) := by decide +kernel
theorem dL_law_407 : decode cL_law 407 = .ok (.aload_n 3, 1) := by decide +kernel
theorem dL_law_408 : decode cL_law 408 = .ok (.iload 13, 2) := by decide +kernel
theorem dL_law_410 : decode cL_law 410 = .ok (.dup2, 1) := by decide +kernel
theorem dL_law_411 : decode cL_law 411 = .ok (.iaload, 1) := by decide +kernel
theorem dL_law_412 : decode cL_law 412 = .ok (.iconst 1, 1) := by decide +kernel
theorem dL_law_413 : decode cL_law 413 = .ok (.iadd, 1) := by decide +kernel
theorem dL_law_414 : decode cL_law 414 = .ok (.iastore, 1) := by decide +kernel
theorem dL_law_415 : decode cL_law 415 = .ok (.iinc 7 1, 3) := by decide +kernel
theorem dL_law_418 : decode cL_law 418 = .ok (.goto 596, 3) := by decide +kernel
theorem dL_law_421 : decode cL_law 421 = .ok (.iload 12, 2) := by decide +kernel
theorem dL_law_423 : decode cL_law 423 = .ok (.bipush 8, 2) := by decide +kernel
theorem dL_law_425 : decode cL_law 425 = .ok (.if_icmp .ne 84, 3) := by decide +kernel
theorem dL_law_428 : decode cL_law 428 = .ok (.iload 15, 2) := by decide +kernel
theorem dL_law_430 : decode cL_law 430 = .ok (.ifCond .eq 584, 3) := by decide +kernel
theorem dL_law_433 : decode cL_law 433 = .ok (.aload 4, 2) := by decide +kernel
theorem dL_law_435 : decode cL_law 435 = .ok (.iload 13, 2) := by decide +kernel
theorem dL_law_437 : decode cL_law 437 = .ok (.iaload, 1) := by decide +kernel
theorem dL_law_438 : decode cL_law 438 = .ok (.iconst 2, 1) := by decide +kernel
theorem dL_law_439 : decode cL_law 439 = .ok (.if_icmp .ge 575, 3) := by decide +kernel
theorem dL_law_442 : decode cL_law 442 = .ok (.aload 4, 2) := by decide +kernel
theorem dL_law_444 : decode cL_law 444 = .ok (.iload 13, 2) := by decide +kernel
theorem dL_law_446 : decode cL_law 446 = .ok (.dup2, 1) := by decide +kernel
theorem dL_law_447 : decode cL_law 447 = .ok (.iaload, 1) := by decide +kernel
theorem dL_law_448 : decode cL_law 448 = .ok (.iconst 1, 1) := by decide +kernel
theorem dL_law_449 : decode cL_law 449 = .ok (.iadd, 1) := by decide +kernel
theorem dL_law_450 : decode cL_law 450 = .ok (.iastore, 1) := by decide +kernel
theorem dL_law_451 : decode cL_law 451 = .ok (.aload_n 1, 1) := by decide +kernel
theorem dL_law_452 : decode cL_law 452 = .ok (.iload 13, 2) := by decide +kernel
theorem dL_law_454 : decode cL_law 454 = .ok (.iload 11, 2) := by decide +kernel
theorem dL_law_456 : decode cL_law 456 = .ok (.bipush 6, 2) := by decide +kernel
theorem dL_law_458 : decode cL_law 458 = .ok (.ishr, 1) := by decide +kernel
theorem dL_law_459 : decode cL_law 459 = .ok (.bipush 24, 2) := by decide +kernel
theorem dL_law_461 : decode cL_law 461 = .ok (.invokestatic 49, 3) := by decide +kernel
theorem dL_law_464 : decode cL_law 464 = .ok (.iconst 1, 1) := by decide +kernel
theorem dL_law_465 : decode cL_law 465 = .ok (.iload 11, 2) := by decide +kernel
theorem dL_law_467 : decode cL_law 467 = .ok (.bipush 11, 2) := by decide +kernel
theorem dL_law_469 : decode cL_law 469 = .ok (.ishr, 1) := by decide +kernel
theorem dL_law_470 : decode cL_law 470 = .ok (.iconst 3, 1) := by decide +kernel
theorem dL_law_471 : decode cL_law 471 = .ok (.invokestatic 49, 3) := by decide +kernel
theorem dL_law_474 : decode cL_law 474 = .ok (.iadd, 1) := by decide +kernel
theorem dL_law_475 : decode cL_law 475 = .ok (.iconst 1, 1) := by decide +kernel
theorem dL_law_476 : decode cL_law 476 = .ok (.iload 11, 2) := by decide +kernel
theorem dL_law_478 : decode cL_law 478 = .ok (.bipush 13, 2) := by decide +kernel
theorem dL_law_480 : decode cL_law 480 = .ok (.ishr, 1) := by decide +kernel
theorem dL_law_481 : decode cL_law 481 = .ok (.iconst 2, 1) := by decide +kernel
theorem dL_law_482 : decode cL_law 482 = .ok (.invokestatic 49, 3) := by decide +kernel
theorem dL_law_485 : decode cL_law 485 = .ok (.iadd, 1) := by decide +kernel
theorem dL_law_486 : decode cL_law 486 = .ok (.invokevirtual 66, 3) := by decide +kernel
theorem dL_law_489 : decode cL_law 489 = .ok (.aload_n 1, 1) := by decide +kernel
theorem dL_law_490 : decode cL_law 490 = .ok (.iload 13, 2) := by decide +kernel
theorem dL_law_492 : decode cL_law 492 = .ok (.iconst 4, 1) := by decide +kernel
theorem dL_law_493 : decode cL_law 493 = .ok (.invokevirtual 21, 3) := by decide +kernel
theorem dL_law_496 : decode cL_law 496 = .ok (.if_icmp .ne 7, 3) := by decide +kernel
theorem dL_law_499 : decode cL_law 499 = .ok (.iconst 1, 1) := by decide +kernel
theorem dL_law_500 : decode cL_law 500 = .ok (.goto 4, 3) := by decide +kernel
theorem dL_law_503 : decode cL_law 503 = .ok (.iconst 0, 1) := by decide +kernel
theorem dL_law_504 : decode cL_law 504 = .ok (.istore 17, 2) := by decide +kernel
theorem dL_law_506 : decode cL_law 506 = .ok (.goto 508, 3) := by decide +kernel
theorem dL_law_509 : decode cL_law 509 = .ok (.iload 12, 2) := by decide +kernel
theorem dL_law_511 : decode cL_law 511 = .ok (.bipush 9, 2) := by decide +kernel
theorem dL_law_513 : decode cL_law 513 = .ok (.if_icmp .ne 56, 3) := by decide +kernel
theorem dL_law_516 : decode cL_law 516 = .ok (.iload 15, 2) := by decide +kernel
theorem dL_law_518 : decode cL_law 518 = .ok (.ifCond .eq 496, 3) := by decide +kernel
theorem dL_law_521 : decode cL_law 521 = .ok (.iload 8, 2) := by decide +kernel
theorem dL_law_523 : decode cL_law 523 = .ok (.ifCond .ne 491, 3) := by decide +kernel
theorem dL_law_526 : decode cL_law 526 = .ok (.aload_n 1, 1) := by decide +kernel
theorem dL_law_527 : decode cL_law 527 = .ok (.iload 13, 2) := by decide +kernel
theorem dL_law_529 : decode cL_law 529 = .ok (.iload 11, 2) := by decide +kernel
theorem dL_law_531 : decode cL_law 531 = .ok (.bipush 6, 2) := by decide +kernel
theorem dL_law_533 : decode cL_law 533 = .ok (.ishr, 1) := by decide +kernel
theorem dL_law_534 : decode cL_law 534 = .ok (.aload_n 1, 1) := by decide +kernel
theorem dL_law_535 : decode cL_law 535 = .ok (.aload_n 2, 1) := by decide +kernel
theorem dL_law_536 : decode cL_law 536 = .ok (.iload 13, 2) := by decide +kernel
theorem dL_law_538 : decode cL_law 538 = .ok (.iaload, 1) := by decide +kernel
theorem dL_law_539 : decode cL_law 539 = .ok (.invokevirtual 8, 3) := by decide +kernel
theorem dL_law_542 : decode cL_law 542 = .ok (.invokestatic 49, 3) := by decide +kernel
theorem dL_law_545 : decode cL_law 545 = .ok (.invokevirtual 70, 3) := by decide +kernel
theorem dL_law_548 : decode cL_law 548 = .ok (.aload_n 1, 1) := by decide +kernel
theorem dL_law_549 : decode cL_law 549 = .ok (.aload_n 2, 1) := by decide +kernel
theorem dL_law_550 : decode cL_law 550 = .ok (.iload 13, 2) := by decide +kernel
theorem dL_law_552 : decode cL_law 552 = .ok (.iaload, 1) := by decide +kernel
theorem dL_law_553 : decode cL_law 553 = .ok (.invokevirtual 8, 3) := by decide +kernel
theorem dL_law_556 : decode cL_law 556 = .ok (.if_icmp .gt 7, 3) := by decide +kernel
theorem dL_law_559 : decode cL_law 559 = .ok (.iconst 1, 1) := by decide +kernel
theorem dL_law_560 : decode cL_law 560 = .ok (.goto 4, 3) := by decide +kernel
theorem dL_law_563 : decode cL_law 563 = .ok (.iconst 0, 1) := by decide +kernel
theorem dL_law_564 : decode cL_law 564 = .ok (.istore 17, 2) := by decide +kernel
theorem dL_law_566 : decode cL_law 566 = .ok (.goto 448, 3) := by decide +kernel
theorem dL_law_569 : decode cL_law 569 = .ok (.iload 12, 2) := by decide +kernel
theorem dL_law_571 : decode cL_law 571 = .ok (.bipush 10, 2) := by decide +kernel
theorem dL_law_573 : decode cL_law 573 = .ok (.if_icmp .ne 110, 3) := by decide +kernel
theorem dL_law_576 : decode cL_law 576 = .ok (.iload 6, 2) := by decide +kernel
theorem dL_law_578 : decode cL_law 578 = .ok (.ifCond .ne 7, 3) := by decide +kernel
theorem dL_law_581 : decode cL_law 581 = .ok (.iconst 0, 1) := by decide +kernel
theorem dL_law_582 : decode cL_law 582 = .ok (.goto 13, 3) := by decide +kernel
theorem dL_law_585 : decode cL_law 585 = .ok (.iload 11, 2) := by decide +kernel
theorem dL_law_587 : decode cL_law 587 = .ok (.bipush 6, 2) := by decide +kernel
theorem dL_law_589 : decode cL_law 589 = .ok (.ishr, 1) := by decide +kernel
theorem dL_law_590 : decode cL_law 590 = .ok (.iload 6, 2) := by decide +kernel
theorem dL_law_592 : decode cL_law 592 = .ok (.invokestatic 49, 3) := by decide +kernel
theorem dL_law_595 : decode cL_law 595 = .ok (.istore 18, 2) := by decide +kernel
theorem dL_law_597 : decode cL_law 597 = .ok (.iload 16, 2) := by decide +kernel
theorem dL_law_599 : decode cL_law 599 = .ok (.ifCond .eq 81, 3) := by decide +kernel
theorem dL_law_602 : decode cL_law 602 = .ok (.iload 8, 2) := by decide +kernel
theorem dL_law_604 : decode cL_law 604 = .ok (.ifCond .ne 76, 3) := by decide +kernel
theorem dL_law_607 : decode cL_law 607 = .ok (.aload_n 2, 1) := by decide +kernel
theorem dL_law_608 : decode cL_law 608 = .ok (.iload 18, 2) := by decide +kernel
theorem dL_law_610 : decode cL_law 610 = .ok (.iaload, 1) := by decide +kernel
theorem dL_law_611 : decode cL_law 611 = .ok (.ifCond .lt 69, 3) := by decide +kernel
theorem dL_law_614 : decode cL_law 614 = .ok (.iload 18, 2) := by decide +kernel
theorem dL_law_616 : decode cL_law 616 = .ok (.aload 5, 2) := by decide +kernel
theorem dL_law_618 : decode cL_law 618 = .ok (.iload 14, 2) := by decide +kernel
theorem dL_law_620 : decode cL_law 620 = .ok (.iaload, 1) := by decide +kernel
theorem dL_law_621 : decode cL_law 621 = .ok (.if_icmp .eq 59, 3) := by decide +kernel
theorem dL_law_624 : decode cL_law 624 = .ok (.aload_n 3, 1) := by decide +kernel
theorem dL_law_625 : decode cL_law 625 = .ok (.iload 18, 2) := by decide +kernel
theorem dL_law_627 : decode cL_law 627 = .ok (.iaload, 1) := by decide +kernel
theorem dL_law_628 : decode cL_law 628 = .ok (.iconst 2, 1) := by decide +kernel
theorem dL_law_629 : decode cL_law 629 = .ok (.if_icmp .ge 51, 3) := by decide +kernel
theorem dL_law_632 : decode cL_law 632 = .ok (.aload_n 3, 1) := by decide +kernel
theorem dL_law_633 : decode cL_law 633 = .ok (.aload 5, 2) := by decide +kernel
theorem dL_law_635 : decode cL_law 635 = .ok (.iload 14, 2) := by decide +kernel
theorem dL_law_637 : decode cL_law 637 = .ok (.iaload, 1) := by decide +kernel
theorem dL_law_638 : decode cL_law 638 = .ok (.dup2, 1) := by decide +kernel
theorem dL_law_639 : decode cL_law 639 = .ok (.iaload, 1) := by decide +kernel
theorem dL_law_640 : decode cL_law 640 = .ok (.iconst 1, 1) := by decide +kernel
theorem dL_law_641 : decode cL_law 641 = .ok (.isub, 1) := by decide +kernel
theorem dL_law_642 : decode cL_law 642 = .ok (.iastore, 1) := by decide +kernel
theorem dL_law_643 : decode cL_law 643 = .ok (.aload_n 1, 1) := by decide +kernel
theorem dL_law_644 : decode cL_law 644 = .ok (.iload 14, 2) := by decide +kernel
theorem dL_law_646 : decode cL_law 646 = .ok (.iload 18, 2) := by decide +kernel
theorem dL_law_648 : decode cL_law 648 = .ok (.iload 11, 2) := by decide +kernel
theorem dL_law_650 : decode cL_law 650 = .ok (.bipush 11, 2) := by decide +kernel
theorem dL_law_652 : decode cL_law 652 = .ok (.ishr, 1) := by decide +kernel
theorem dL_law_653 : decode cL_law 653 = .ok (.aload_n 3, 1) := by decide +kernel
theorem dL_law_654 : decode cL_law 654 = .ok (.iload 18, 2) := by decide +kernel
theorem dL_law_656 : decode cL_law 656 = .ok (.iaload, 1) := by decide +kernel
theorem dL_law_657 : decode cL_law 657 = .ok (.iconst 1, 1) := by decide +kernel
theorem dL_law_658 : decode cL_law 658 = .ok (.iadd, 1) := by decide +kernel
theorem dL_law_659 : decode cL_law 659 = .ok (.invokestatic 49, 3) := by decide +kernel
theorem dL_law_662 : decode cL_law 662 = .ok (.invokevirtual 73, 3) := by decide +kernel
theorem dL_law_665 : decode cL_law 665 = .ok (.aload 5, 2) := by decide +kernel
theorem dL_law_667 : decode cL_law 667 = .ok (.iload 14, 2) := by decide +kernel
theorem dL_law_669 : decode cL_law 669 = .ok (.iload 18, 2) := by decide +kernel
theorem dL_law_671 : decode cL_law 671 = .ok (.iastore, 1) := by decide +kernel
theorem dL_law_672 : decode cL_law 672 = .ok (.aload_n 3, 1) := by decide +kernel
theorem dL_law_673 : decode cL_law 673 = .ok (.iload 18, 2) := by decide +kernel
theorem dL_law_675 : decode cL_law 675 = .ok (.dup2, 1) := by decide +kernel
theorem dL_law_676 : decode cL_law 676 = .ok (.iaload, 1) := by decide +kernel
theorem dL_law_677 : decode cL_law 677 = .ok (.iconst 1, 1) := by decide +kernel
theorem dL_law_678 : decode cL_law 678 = .ok (.iadd, 1) := by decide +kernel
theorem dL_law_679 : decode cL_law 679 = .ok (.iastore, 1) := by decide +kernel
theorem dL_law_680 : decode cL_law 680 = .ok (.goto 334, 3) := by decide +kernel
theorem dL_law_683 : decode cL_law 683 = .ok (.iload 12, 2) := by decide +kernel
theorem dL_law_685 : decode cL_law 685 = .ok (.bipush 11, 2) := by decide +kernel
theorem dL_law_687 : decode cL_law 687 = .ok (.if_icmp .ne 104, 3) := by decide +kernel
theorem dL_law_690 : decode cL_law 690 = .ok (.iload 7, 2) := by decide +kernel
theorem dL_law_692 : decode cL_law 692 = .ok (.ifCond .ne 7, 3) := by decide +kernel
theorem dL_law_695 : decode cL_law 695 = .ok (.iconst 0, 1) := by decide +kernel
theorem dL_law_696 : decode cL_law 696 = .ok (.goto 13, 3) := by decide +kernel
theorem dL_law_699 : decode cL_law 699 = .ok (.iload 11, 2) := by decide +kernel
theorem dL_law_701 : decode cL_law 701 = .ok (.bipush 9, 2) := by decide +kernel
theorem dL_law_703 : decode cL_law 703 = .ok (.ishr, 1) := by decide +kernel
theorem dL_law_704 : decode cL_law 704 = .ok (.iload 7, 2) := by decide +kernel
theorem dL_law_706 : decode cL_law 706 = .ok (.invokestatic 49, 3) := by decide +kernel
theorem dL_law_709 : decode cL_law 709 = .ok (.istore 18, 2) := by decide +kernel
theorem dL_law_711 : decode cL_law 711 = .ok (.iload 16, 2) := by decide +kernel
theorem dL_law_713 : decode cL_law 713 = .ok (.ifCond .eq 75, 3) := by decide +kernel
theorem dL_law_716 : decode cL_law 716 = .ok (.aload 5, 2) := by decide +kernel
theorem dL_law_718 : decode cL_law 718 = .ok (.iload 18, 2) := by decide +kernel
theorem dL_law_720 : decode cL_law 720 = .ok (.iaload, 1) := by decide +kernel
theorem dL_law_721 : decode cL_law 721 = .ok (.ifCond .lt 67, 3) := by decide +kernel
theorem dL_law_724 : decode cL_law 724 = .ok (.aload_n 1, 1) := by decide +kernel
theorem dL_law_725 : decode cL_law 725 = .ok (.iload 18, 2) := by decide +kernel
theorem dL_law_727 : decode cL_law 727 = .ok (.invokevirtual 31, 3) := by decide +kernel
theorem dL_law_730 : decode cL_law 730 = .ok (.aload_n 1, 1) := by decide +kernel
theorem dL_law_731 : decode cL_law 731 = .ok (.iload 14, 2) := by decide +kernel
theorem dL_law_733 : decode cL_law 733 = .ok (.invokevirtual 31, 3) := by decide +kernel
theorem dL_law_736 : decode cL_law 736 = .ok (.if_icmp .ge 52, 3) := by decide +kernel
theorem dL_law_739 : decode cL_law 739 = .ok (.aload_n 1, 1) := by decide +kernel
theorem dL_law_740 : decode cL_law 740 = .ok (.iload 14, 2) := by decide +kernel
theorem dL_law_742 : decode cL_law 742 = .ok (.iload 18, 2) := by decide +kernel
theorem dL_law_744 : decode cL_law 744 = .ok (.invokevirtual 77, 3) := by decide +kernel
theorem dL_law_747 : decode cL_law 747 = .ok (.istore 19, 2) := by decide +kernel
theorem dL_law_749 : decode cL_law 749 = .ok (.iload 8, 2) := by decide +kernel
theorem dL_law_751 : decode cL_law 751 = .ok (.iload 19, 2) := by decide +kernel
theorem dL_law_753 : decode cL_law 753 = .ok (.ifCond .ge 7, 3) := by decide +kernel
theorem dL_law_756 : decode cL_law 756 = .ok (.iconst 1, 1) := by decide +kernel
theorem dL_law_757 : decode cL_law 757 = .ok (.goto 4, 3) := by decide +kernel
theorem dL_law_760 : decode cL_law 760 = .ok (.iconst 0, 1) := by decide +kernel
theorem dL_law_761 : decode cL_law 761 = .ok (.iadd, 1) := by decide +kernel
theorem dL_law_762 : decode cL_law 762 = .ok (.istore 8, 2) := by decide +kernel
theorem dL_law_764 : decode cL_law 764 = .ok (.aload_n 1, 1) := by decide +kernel
theorem dL_law_765 : decode cL_law 765 = .ok (.iload 14, 2) := by decide +kernel
theorem dL_law_767 : decode cL_law 767 = .ok (.invokevirtual 40, 3) := by decide +kernel
theorem dL_law_770 : decode cL_law 770 = .ok (.aload_n 1, 1) := by decide +kernel
theorem dL_law_771 : decode cL_law 771 = .ok (.iload 18, 2) := by decide +kernel
theorem dL_law_773 : decode cL_law 773 = .ok (.invokevirtual 40, 3) := by decide +kernel
theorem dL_law_776 : decode cL_law 776 = .ok (.iconst 1, 1) := by decide +kernel
theorem dL_law_777 : decode cL_law 777 = .ok (.iadd, 1) := by decide +kernel
theorem dL_law_778 : decode cL_law 778 = .ok (.if_icmp .ne 7, 3) := by decide +kernel
theorem dL_law_781 : decode cL_law 781 = .ok (.iconst 1, 1) := by decide +kernel
theorem dL_law_782 : decode cL_law 782 = .ok (.goto 4, 3) := by decide +kernel
theorem dL_law_785 : decode cL_law 785 = .ok (.iconst 0, 1) := by decide +kernel
theorem dL_law_786 : decode cL_law 786 = .ok (.istore 17, 2) := by decide +kernel
theorem dL_law_788 : decode cL_law 788 = .ok (.goto 226, 3) := by decide +kernel
theorem dL_law_791 : decode cL_law 791 = .ok (.iload 12, 2) := by decide +kernel
theorem dL_law_793 : decode cL_law 793 = .ok (.bipush 12, 2) := by decide +kernel
theorem dL_law_795 : decode cL_law 795 = .ok (.if_icmp .ne 95, 3) := by decide +kernel
theorem dL_law_798 : decode cL_law 798 = .ok (.iload 16, 2) := by decide +kernel
theorem dL_law_800 : decode cL_law 800 = .ok (.ifCond .eq 49, 3) := by decide +kernel
theorem dL_law_803 : decode cL_law 803 = .ok (.iload 8, 2) := by decide +kernel
theorem dL_law_805 : decode cL_law 805 = .ok (.ifCond .ne 44, 3) := by decide +kernel
theorem dL_law_808 : decode cL_law 808 = .ok (.aload_n 1, 1) := by decide +kernel
theorem dL_law_809 : decode cL_law 809 = .ok (.iload 14, 2) := by decide +kernel
theorem dL_law_811 : decode cL_law 811 = .ok (.invokevirtual 80, 3) := by decide +kernel
theorem dL_law_814 : decode cL_law 814 = .ok (.aload 5, 2) := by decide +kernel
theorem dL_law_816 : decode cL_law 816 = .ok (.iload 14, 2) := by decide +kernel
theorem dL_law_818 : decode cL_law 818 = .ok (.iaload, 1) := by decide +kernel
theorem dL_law_819 : decode cL_law 819 = .ok (.if_icmp .ne 7, 3) := by decide +kernel
theorem dL_law_822 : decode cL_law 822 = .ok (.iconst 1, 1) := by decide +kernel
theorem dL_law_823 : decode cL_law 823 = .ok (.goto 4, 3) := by decide +kernel
theorem dL_law_826 : decode cL_law 826 = .ok (.iconst 0, 1) := by decide +kernel
theorem dL_law_827 : decode cL_law 827 = .ok (.istore 17, 2) := by decide +kernel
theorem dL_law_829 : decode cL_law 829 = .ok (.aload_n 3, 1) := by decide +kernel
theorem dL_law_830 : decode cL_law 830 = .ok (.aload 5, 2) := by decide +kernel
theorem dL_law_832 : decode cL_law 832 = .ok (.iload 14, 2) := by decide +kernel
theorem dL_law_834 : decode cL_law 834 = .ok (.iaload, 1) := by decide +kernel
theorem dL_law_835 : decode cL_law 835 = .ok (.dup2, 1) := by decide +kernel
theorem dL_law_836 : decode cL_law 836 = .ok (.iaload, 1) := by decide +kernel
theorem dL_law_837 : decode cL_law 837 = .ok (.iconst 1, 1) := by decide +kernel
theorem dL_law_838 : decode cL_law 838 = .ok (.isub, 1) := by decide +kernel
theorem dL_law_839 : decode cL_law 839 = .ok (.iastore, 1) := by decide +kernel
theorem dL_law_840 : decode cL_law 840 = .ok (.aload 5, 2) := by decide +kernel
theorem dL_law_842 : decode cL_law 842 = .ok (.iload 14, 2) := by decide +kernel
theorem dL_law_844 : decode cL_law 844 = .ok (.iconst (-1), 1) := by decide +kernel
theorem dL_law_845 : decode cL_law 845 = .ok (.iastore, 1) := by decide +kernel
theorem dL_law_846 : decode cL_law 846 = .ok (.goto 168, 3) := by decide +kernel
theorem dL_law_849 : decode cL_law 849 = .ok (.iload 15, 2) := by decide +kernel
theorem dL_law_851 : decode cL_law 851 = .ok (.ifCond .eq 163, 3) := by decide +kernel
theorem dL_law_854 : decode cL_law 854 = .ok (.iload 8, 2) := by decide +kernel
theorem dL_law_856 : decode cL_law 856 = .ok (.ifCond .ne 158, 3) := by decide +kernel
theorem dL_law_859 : decode cL_law 859 = .ok (.aload_n 3, 1) := by decide +kernel
theorem dL_law_860 : decode cL_law 860 = .ok (.iload 13, 2) := by decide +kernel
theorem dL_law_862 : decode cL_law 862 = .ok (.iaload, 1) := by decide +kernel
theorem dL_law_863 : decode cL_law 863 = .ok (.ifCond .ne 151, 3) := by decide +kernel
theorem dL_law_866 : decode cL_law 866 = .ok (.aload_n 1, 1) := by decide +kernel
theorem dL_law_867 : decode cL_law 867 = .ok (.iload 13, 2) := by decide +kernel
theorem dL_law_869 : decode cL_law 869 = .ok (.invokevirtual 83, 3) := by decide +kernel
theorem dL_law_872 : decode cL_law 872 = .ok (.ifCond .ne 7, 3) := by decide +kernel
theorem dL_law_875 : decode cL_law 875 = .ok (.iconst 1, 1) := by decide +kernel
theorem dL_law_876 : decode cL_law 876 = .ok (.goto 4, 3) := by decide +kernel
theorem dL_law_879 : decode cL_law 879 = .ok (.iconst 0, 1) := by decide +kernel
theorem dL_law_880 : decode cL_law 880 = .ok (.istore 17, 2) := by decide +kernel
theorem dL_law_882 : decode cL_law 882 = .ok (.aload_n 2, 1) := by decide +kernel
theorem dL_law_883 : decode cL_law 883 = .ok (.iload 13, 2) := by decide +kernel
theorem dL_law_885 : decode cL_law 885 = .ok (.iconst (-1), 1) := by decide +kernel
theorem dL_law_886 : decode cL_law 886 = .ok (.iastore, 1) := by decide +kernel
theorem dL_law_887 : decode cL_law 887 = .ok (.goto 127, 3) := by decide +kernel
theorem dL_law_890 : decode cL_law 890 = .ok (.iload 12, 2) := by decide +kernel
theorem dL_law_892 : decode cL_law 892 = .ok (.bipush 15, 2) := by decide +kernel
theorem dL_law_894 : decode cL_law 894 = .ok (.if_icmp .ge 78, 3) := by decide +kernel
theorem dL_law_897 : decode cL_law 897 = .ok (.iload 12, 2) := by decide +kernel
theorem dL_law_899 : decode cL_law 899 = .ok (.bipush 13, 2) := by decide +kernel
theorem dL_law_901 : decode cL_law 901 = .ok (.if_icmp .ne 35, 3) := by decide +kernel
theorem dL_law_904 : decode cL_law 904 = .ok (.aload_n 1, 1) := by decide +kernel
theorem dL_law_905 : decode cL_law 905 = .ok (.iload 11, 2) := by decide +kernel
theorem dL_law_907 : decode cL_law 907 = .ok (.aload_n 1, 1) := by decide +kernel
theorem dL_law_908 : decode cL_law 908 = .ok (.invokevirtual 52, 3) := by decide +kernel
theorem dL_law_911 : decode cL_law 911 = .ok (.invokestatic 49, 3) := by decide +kernel
theorem dL_law_914 : decode cL_law 914 = .ok (.iload 11, 2) := by decide +kernel
theorem dL_law_916 : decode cL_law 916 = .ok (.iconst 4, 1) := by decide +kernel
theorem dL_law_917 : decode cL_law 917 = .ok (.ishr, 1) := by decide +kernel
theorem dL_law_918 : decode cL_law 918 = .ok (.iconst 3, 1) := by decide +kernel
theorem dL_law_919 : decode cL_law 919 = .ok (.invokestatic 49, 3) := by decide +kernel
theorem dL_law_922 : decode cL_law 922 = .ok (.invokevirtual 86, 3) := by decide +kernel
theorem dL_law_925 : decode cL_law 925 = .ok (.ifCond .lt 7, 3) := by decide +kernel
theorem dL_law_928 : decode cL_law 928 = .ok (.iconst 1, 1) := by decide +kernel
theorem dL_law_929 : decode cL_law 929 = .ok (.goto 38, 3) := by decide +kernel
theorem dL_law_932 : decode cL_law 932 = .ok (.iconst 0, 1) := by decide +kernel
theorem dL_law_933 : decode cL_law 933 = .ok (.goto 34, 3) := by decide +kernel
theorem dL_law_936 : decode cL_law 936 = .ok (.aload_n 1, 1) := by decide +kernel
theorem dL_law_937 : decode cL_law 937 = .ok (.iload 11, 2) := by decide +kernel
theorem dL_law_939 : decode cL_law 939 = .ok (.iconst 3, 1) := by decide +kernel
theorem dL_law_940 : decode cL_law 940 = .ok (.invokestatic 49, 3) := by decide +kernel
theorem dL_law_943 : decode cL_law 943 = .ok (.bipush 50, 2) := by decide +kernel
theorem dL_law_945 : decode cL_law 945 = .ok (.iload 11, 2) := by decide +kernel
theorem dL_law_947 : decode cL_law 947 = .ok (.iconst 4, 1) := by decide +kernel
theorem dL_law_948 : decode cL_law 948 = .ok (.ishr, 1) := by decide +kernel
theorem dL_law_949 : decode cL_law 949 = .ok (.sipush 201, 3) := by decide +kernel
theorem dL_law_952 : decode cL_law 952 = .ok (.invokestatic 49, 3) := by decide +kernel
theorem dL_law_955 : decode cL_law 955 = .ok (.iadd, 1) := by decide +kernel
theorem dL_law_956 : decode cL_law 956 = .ok (.invokevirtual 89, 3) := by decide +kernel
theorem dL_law_959 : decode cL_law 959 = .ok (.ifCond .lt 7, 3) := by decide +kernel
theorem dL_law_962 : decode cL_law 962 = .ok (.iconst 1, 1) := by decide +kernel
theorem dL_law_963 : decode cL_law 963 = .ok (.goto 4, 3) := by decide +kernel
theorem dL_law_966 : decode cL_law 966 = .ok (.iconst 0, 1) := by decide +kernel
theorem dL_law_967 : decode cL_law 967 = .ok (.istore 17, 2) := by decide +kernel
theorem dL_law_969 : decode cL_law 969 = .ok (.goto 45, 3) := by decide +kernel
theorem dL_law_972 : decode cL_law 972 = .ok (.aload_n 1, 1) := by decide +kernel
theorem dL_law_973 : decode cL_law 973 = .ok (.invokevirtual 92, 3) := by decide +kernel
theorem dL_law_976 : decode cL_law 976 = .ok (.aload_n 1, 1) := by decide +kernel
theorem dL_law_977 : decode cL_law 977 = .ok (.invokevirtual 95, 3) := by decide +kernel
theorem dL_law_980 : decode cL_law 980 = .ok (.iconst (-1), 1) := by decide +kernel
theorem dL_law_981 : decode cL_law 981 = .ok (.if_icmp .ge 7, 3) := by decide +kernel
theorem dL_law_984 : decode cL_law 984 = .ok (.iconst 0, 1) := by decide +kernel
theorem dL_law_985 : decode cL_law 985 = .ok (.goto 19, 3) := by decide +kernel
theorem dL_law_988 : decode cL_law 988 = .ok (.aload_n 1, 1) := by decide +kernel
theorem dL_law_989 : decode cL_law 989 = .ok (.invokevirtual 98, 3) := by decide +kernel
theorem dL_law_992 : decode cL_law 992 = .ok (.iconst (-1), 1) := by decide +kernel
theorem dL_law_993 : decode cL_law 993 = .ok (.if_icmp .ge 7, 3) := by decide +kernel
theorem dL_law_996 : decode cL_law 996 = .ok (.iconst 0, 1) := by decide +kernel
theorem dL_law_997 : decode cL_law 997 = .ok (.goto 7, 3) := by decide +kernel
theorem dL_law_1000 : decode cL_law 1000 = .ok (.aload_n 1, 1) := by decide +kernel
theorem dL_law_1001 : decode cL_law 1001 = .ok (.invokevirtual 101, 3) := by decide +kernel
theorem dL_law_1004 : decode cL_law 1004 = .ok (.if_icmp .ne 7, 3) := by decide +kernel
theorem dL_law_1007 : decode cL_law 1007 = .ok (.iconst 1, 1) := by decide +kernel
theorem dL_law_1008 : decode cL_law 1008 = .ok (.goto 4, 3) := by decide +kernel
theorem dL_law_1011 : decode cL_law 1011 = .ok (.iconst 0, 1) := by decide +kernel
theorem dL_law_1012 : decode cL_law 1012 = .ok (.istore 17, 2) := by decide +kernel
theorem dL_law_1014 : decode cL_law 1014 = .ok (.iconst 0, 1) := by decide +kernel
theorem dL_law_1015 : decode cL_law 1015 = .ok (.istore 18, 2) := by decide +kernel
theorem dL_law_1017 : decode cL_law 1017 = .ok (.iconst 0, 1) := by decide +kernel
theorem dL_law_1018 : decode cL_law 1018 = .ok (.istore 19, 2) := by decide +kernel
theorem dL_law_1020 : decode cL_law 1020 = .ok (.iload 19, 2) := by decide +kernel
theorem dL_law_1022 : decode cL_law 1022 = .ok (.iload 7, 2) := by decide +kernel
theorem dL_law_1024 : decode cL_law 1024 = .ok (.if_icmp .ge 27, 3) := by decide +kernel
theorem dL_law_1027 : decode cL_law 1027 = .ok (.iload 18, 2) := by decide +kernel
theorem dL_law_1029 : decode cL_law 1029 = .ok (.aload 5, 2) := by decide +kernel
theorem dL_law_1031 : decode cL_law 1031 = .ok (.iload 19, 2) := by decide +kernel
theorem dL_law_1033 : decode cL_law 1033 = .ok (.iaload, 1) := by decide +kernel
theorem dL_law_1034 : decode cL_law 1034 = .ok (.ifCond .lt 7, 3) := by decide +kernel
theorem dL_law_1037 : decode cL_law 1037 = .ok (.iconst 1, 1) := by decide +kernel
theorem dL_law_1038 : decode cL_law 1038 = .ok (.goto 4, 3) := by decide +kernel
theorem dL_law_1041 : decode cL_law 1041 = .ok (.iconst 0, 1) := by decide +kernel
theorem dL_law_1042 : decode cL_law 1042 = .ok (.iadd, 1) := by decide +kernel
theorem dL_law_1043 : decode cL_law 1043 = .ok (.istore 18, 2) := by decide +kernel
theorem dL_law_1045 : decode cL_law 1045 = .ok (.iinc 19 1, 3) := by decide +kernel
theorem dL_law_1048 : decode cL_law 1048 = .ok (.goto (-28), 3) := by decide +kernel
theorem dL_law_1051 : decode cL_law 1051 = .ok (.iload 7, 2) := by decide +kernel
theorem dL_law_1053 : decode cL_law 1053 = .ok (.ifCond .ne 7, 3) := by decide +kernel
theorem dL_law_1056 : decode cL_law 1056 = .ok (.iconst 0, 1) := by decide +kernel
theorem dL_law_1057 : decode cL_law 1057 = .ok (.goto 12, 3) := by decide +kernel
theorem dL_law_1060 : decode cL_law 1060 = .ok (.iload 11, 2) := by decide +kernel
theorem dL_law_1062 : decode cL_law 1062 = .ok (.iconst 5, 1) := by decide +kernel
theorem dL_law_1063 : decode cL_law 1063 = .ok (.ishr, 1) := by decide +kernel
theorem dL_law_1064 : decode cL_law 1064 = .ok (.iload 7, 2) := by decide +kernel
theorem dL_law_1066 : decode cL_law 1066 = .ok (.invokestatic 49, 3) := by decide +kernel
theorem dL_law_1069 : decode cL_law 1069 = .ok (.istore 14, 2) := by decide +kernel
theorem dL_law_1071 : decode cL_law 1071 = .ok (.iload 17, 2) := by decide +kernel
theorem dL_law_1073 : decode cL_law 1073 = .ok (.ifCond .eq 41, 3) := by decide +kernel
theorem dL_law_1076 : decode cL_law 1076 = .ok (.aload_n 1, 1) := by decide +kernel
theorem dL_law_1077 : decode cL_law 1077 = .ok (.invokevirtual 104, 3) := by decide +kernel
theorem dL_law_1080 : decode cL_law 1080 = .ok (.iload 18, 2) := by decide +kernel
theorem dL_law_1082 : decode cL_law 1082 = .ok (.if_icmp .ne 32, 3) := by decide +kernel
theorem dL_law_1085 : decode cL_law 1085 = .ok (.aload_n 1, 1) := by decide +kernel
theorem dL_law_1086 : decode cL_law 1086 = .ok (.invokevirtual 52, 3) := by decide +kernel
theorem dL_law_1089 : decode cL_law 1089 = .ok (.ifCond .eq 21, 3) := by decide +kernel
theorem dL_law_1092 : decode cL_law 1092 = .ok (.aload_n 1, 1) := by decide +kernel
theorem dL_law_1093 : decode cL_law 1093 = .ok (.iload 11, 2) := by decide +kernel
theorem dL_law_1095 : decode cL_law 1095 = .ok (.iconst 4, 1) := by decide +kernel
theorem dL_law_1096 : decode cL_law 1096 = .ok (.ishr, 1) := by decide +kernel
theorem dL_law_1097 : decode cL_law 1097 = .ok (.aload_n 1, 1) := by decide +kernel
theorem dL_law_1098 : decode cL_law 1098 = .ok (.invokevirtual 52, 3) := by decide +kernel
theorem dL_law_1101 : decode cL_law 1101 = .ok (.invokestatic 49, 3) := by decide +kernel
theorem dL_law_1104 : decode cL_law 1104 = .ok (.invokestatic 107, 3) := by decide +kernel
theorem dL_law_1107 : decode cL_law 1107 = .ok (.ifCond .eq 7, 3) := by decide +kernel
theorem dL_law_1110 : decode cL_law 1110 = .ok (.iconst 1, 1) := by decide +kernel
theorem dL_law_1111 : decode cL_law 1111 = .ok (.goto 4, 3) := by decide +kernel
theorem dL_law_1114 : decode cL_law 1114 = .ok (.iconst 0, 1) := by decide +kernel
theorem dL_law_1115 : decode cL_law 1115 = .ok (.istore 17, 2) := by decide +kernel
theorem dL_law_1117 : decode cL_law 1117 = .ok (.iload 17, 2) := by decide +kernel
theorem dL_law_1119 : decode cL_law 1119 = .ok (.ifCond .eq 30, 3) := by decide +kernel
theorem dL_law_1122 : decode cL_law 1122 = .ok (.iload 7, 2) := by decide +kernel
theorem dL_law_1124 : decode cL_law 1124 = .ok (.ifCond .le 27, 3) := by decide +kernel
theorem dL_law_1127 : decode cL_law 1127 = .ok (.aload 5, 2) := by decide +kernel
theorem dL_law_1129 : decode cL_law 1129 = .ok (.iload 14, 2) := by decide +kernel
theorem dL_law_1131 : decode cL_law 1131 = .ok (.iaload, 1) := by decide +kernel
theorem dL_law_1132 : decode cL_law 1132 = .ok (.ifCond .lt 19, 3) := by decide +kernel
theorem dL_law_1135 : decode cL_law 1135 = .ok (.aload_n 1, 1) := by decide +kernel
theorem dL_law_1136 : decode cL_law 1136 = .ok (.iload 14, 2) := by decide +kernel
theorem dL_law_1138 : decode cL_law 1138 = .ok (.aload 5, 2) := by decide +kernel
theorem dL_law_1140 : decode cL_law 1140 = .ok (.iload 14, 2) := by decide +kernel
theorem dL_law_1142 : decode cL_law 1142 = .ok (.iaload, 1) := by decide +kernel
theorem dL_law_1143 : decode cL_law 1143 = .ok (.invokestatic 111, 3) := by decide +kernel
theorem dL_law_1146 : decode cL_law 1146 = .ok (.ifCond .ne 5, 3) := by decide +kernel
theorem dL_law_1149 : decode cL_law 1149 = .ok (.iconst 0, 1) := by decide +kernel
theorem dL_law_1150 : decode cL_law 1150 = .ok (.ireturn, 1) := by decide +kernel
theorem dL_law_1151 : decode cL_law 1151 = .ok (.iinc 9 1, 3) := by decide +kernel
theorem dL_law_1154 : decode cL_law 1154 = .ok (.goto (-1112), 3) := by decide +kernel
theorem dL_law_1157 : decode cL_law 1157 = .ok (.iconst 1, 1) := by decide +kernel
theorem dL_law_1158 : decode cL_law 1158 = .ok (.ireturn, 1) := by decide +kernel
theorem dL_low_0 : decode cL_low 0 = .ok (.iload_n 0, 1) := by decide +kernel
theorem dL_low_1 : decode cL_low 1 = .ok (.ldc 7, 2) := by decide +kernel
theorem dL_low_3 : decode cL_low 3 = .ok (.iand, 1) := by decide +kernel
theorem dL_low_4 : decode cL_low 4 = .ok (.iload_n 1, 1) := by decide +kernel
theorem dL_low_5 : decode cL_low 5 = .ok (.irem, 1) := by decide +kernel
theorem dL_low_6 : decode cL_low 6 = .ok (.ireturn, 1) := by decide +kernel
