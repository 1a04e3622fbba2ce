/-! the law's own words and its cases -/
theorem wk2_L_7 : Cond.classLink RL 7 RX8 ∈ gtbl := gt_of (List.mem_append_right _ (List.mem_of_getElem? (i := 13) (by decide +kernel))) (by decide +kernel)
theorem wk2_L_10 : Cond.classLink RL 10 RX9 ∈ gtbl := gt_of (List.mem_append_right _ (List.mem_of_getElem? (i := 684) (by decide +kernel))) (by decide +kernel)
theorem wl_L_13 : Cond.methodLink RL 13 yX8_flow ∈ gtbl := gt_of (List.mem_append_right _ (List.mem_of_getElem? (i := 285) (by decide +kernel))) (by decide +kernel)
theorem nm_X8_flow : nmOk yX8_flow 3 := ⟨by decide +kernel, by decide +kernel, by decide +kernel⟩
theorem wi_X8_flow : Cond.instanceMethod yX8_flow ∈ gtbl := gt_of (List.mem_append_right _ (List.mem_of_getElem? (i := 286) (by decide +kernel))) (by decide +kernel)
theorem ws_X8_flow : Cond.selects yX8_flow.cls yX8_flow yX8_flow ∈ gtbl := gt_of (List.mem_append_right _ (List.mem_of_getElem? (i := 287) (by decide +kernel))) (by decide +kernel)
theorem wc_X8_flow : Cond.code yX8_flow cX8_flow 4 (some .boolean) ∈ gtbl := gt_of (List.mem_append_right _ (List.mem_of_getElem? (i := 288) (by decide +kernel))) (by decide +kernel)
theorem wl_L_17 : Cond.methodLink RL 17 yX9_flow ∈ gtbl := gt_of (List.mem_append_right _ (List.mem_of_getElem? (i := 778) (by decide +kernel))) (by decide +kernel)
theorem nm_X9_flow : nmOk yX9_flow 3 := ⟨by decide +kernel, by decide +kernel, by decide +kernel⟩
theorem wi_X9_flow : Cond.instanceMethod yX9_flow ∈ gtbl := gt_of (List.mem_append_right _ (List.mem_of_getElem? (i := 779) (by decide +kernel))) (by decide +kernel)
theorem ws_X9_flow : Cond.selects yX9_flow.cls yX9_flow yX9_flow ∈ gtbl := gt_of (List.mem_append_right _ (List.mem_of_getElem? (i := 780) (by decide +kernel))) (by decide +kernel)
theorem wc_X9_flow : Cond.code yX9_flow cX9_flow 4 (some .boolean) ∈ gtbl := gt_of (List.mem_append_right _ (List.mem_of_getElem? (i := 781) (by decide +kernel))) (by decide +kernel)
theorem wl_L_18 : Cond.methodLink RL 18 yX8_clear ∈ gtbl := gt_of (List.mem_append_right _ (List.mem_of_getElem? (i := 306) (by decide +kernel))) (by decide +kernel)
theorem nm_X8_clear : nmOk yX8_clear 0 := ⟨by decide +kernel, by decide +kernel, by decide +kernel⟩
theorem wi_X8_clear : Cond.instanceMethod yX8_clear ∈ gtbl := gt_of (List.mem_append_right _ (List.mem_of_getElem? (i := 307) (by decide +kernel))) (by decide +kernel)
theorem ws_X8_clear : Cond.selects yX8_clear.cls yX8_clear yX8_clear ∈ gtbl := gt_of (List.mem_append_right _ (List.mem_of_getElem? (i := 308) (by decide +kernel))) (by decide +kernel)
theorem wc_X8_clear : Cond.code yX8_clear cX8_clear 1 none ∈ gtbl := gt_of (List.mem_append_right _ (List.mem_of_getElem? (i := 309) (by decide +kernel))) (by decide +kernel)
theorem wl_L_21 : Cond.methodLink RL 21 yX9_clear ∈ gtbl := gt_of (List.mem_append_right _ (List.mem_of_getElem? (i := 790) (by decide +kernel))) (by decide +kernel)
theorem nm_X9_clear : nmOk yX9_clear 0 := ⟨by decide +kernel, by decide +kernel, by decide +kernel⟩
theorem wi_X9_clear : Cond.instanceMethod yX9_clear ∈ gtbl := gt_of (List.mem_append_right _ (List.mem_of_getElem? (i := 791) (by decide +kernel))) (by decide +kernel)
theorem ws_X9_clear : Cond.selects yX9_clear.cls yX9_clear yX9_clear ∈ gtbl := gt_of (List.mem_append_right _ (List.mem_of_getElem? (i := 792) (by decide +kernel))) (by decide +kernel)
theorem wc_X9_clear : Cond.code yX9_clear cX9_clear 2 none ∈ gtbl := gt_of (List.mem_append_right _ (List.mem_of_getElem? (i := 793) (by decide +kernel))) (by decide +kernel)
theorem wl_L_22 : Cond.methodLink RL 22 yX8_set ∈ gtbl := gt_of (List.mem_append_right _ (List.mem_of_getElem? (i := 315) (by decide +kernel))) (by decide +kernel)
theorem nm_X8_set : nmOk yX8_set 2 := ⟨by decide +kernel, by decide +kernel, by decide +kernel⟩
theorem wi_X8_set : Cond.instanceMethod yX8_set ∈ gtbl := gt_of (List.mem_append_right _ (List.mem_of_getElem? (i := 316) (by decide +kernel))) (by decide +kernel)
theorem ws_X8_set : Cond.selects yX8_set.cls yX8_set yX8_set ∈ gtbl := gt_of (List.mem_append_right _ (List.mem_of_getElem? (i := 317) (by decide +kernel))) (by decide +kernel)
theorem wc_X8_set : Cond.code yX8_set cX8_set 3 (some .boolean) ∈ gtbl := gt_of (List.mem_append_right _ (List.mem_of_getElem? (i := 318) (by decide +kernel))) (by decide +kernel)
theorem wl_L_26 : Cond.methodLink RL 26 yX9_set ∈ gtbl := gt_of (List.mem_append_right _ (List.mem_of_getElem? (i := 794) (by decide +kernel))) (by decide +kernel)
theorem nm_X9_set : nmOk yX9_set 2 := ⟨by decide +kernel, by decide +kernel, by decide +kernel⟩
theorem wi_X9_set : Cond.instanceMethod yX9_set ∈ gtbl := gt_of (List.mem_append_right _ (List.mem_of_getElem? (i := 795) (by decide +kernel))) (by decide +kernel)
theorem ws_X9_set : Cond.selects yX9_set.cls yX9_set yX9_set ∈ gtbl := gt_of (List.mem_append_right _ (List.mem_of_getElem? (i := 796) (by decide +kernel))) (by decide +kernel)
theorem wc_X9_set : Cond.code yX9_set cX9_set 3 (some .boolean) ∈ gtbl := gt_of (List.mem_append_right _ (List.mem_of_getElem? (i := 797) (by decide +kernel))) (by decide +kernel)
theorem wl_L_27 : Cond.methodLink RL 27 yX8_about ∈ gtbl := gt_of (List.mem_append_right _ (List.mem_of_getElem? (i := 319) (by decide +kernel))) (by decide +kernel)
theorem nm_X8_about : nmOk yX8_about 1 := ⟨by decide +kernel, by decide +kernel, by decide +kernel⟩
theorem wi_X8_about : Cond.instanceMethod yX8_about ∈ gtbl := gt_of (List.mem_append_right _ (List.mem_of_getElem? (i := 320) (by decide +kernel))) (by decide +kernel)
theorem ws_X8_about : Cond.selects yX8_about.cls yX8_about yX8_about ∈ gtbl := gt_of (List.mem_append_right _ (List.mem_of_getElem? (i := 321) (by decide +kernel))) (by decide +kernel)
theorem wc_X8_about : Cond.code yX8_about cX8_about 2 (some .int) ∈ gtbl := gt_of (List.mem_append_right _ (List.mem_of_getElem? (i := 322) (by decide +kernel))) (by decide +kernel)
theorem wl_L_31 : Cond.methodLink RL 31 yX9_about ∈ gtbl := gt_of (List.mem_append_right _ (List.mem_of_getElem? (i := 802) (by decide +kernel))) (by decide +kernel)
theorem nm_X9_about : nmOk yX9_about 1 := ⟨by decide +kernel, by decide +kernel, by decide +kernel⟩
theorem wi_X9_about : Cond.instanceMethod yX9_about ∈ gtbl := gt_of (List.mem_append_right _ (List.mem_of_getElem? (i := 803) (by decide +kernel))) (by decide +kernel)
theorem ws_X9_about : Cond.selects yX9_about.cls yX9_about yX9_about ∈ gtbl := gt_of (List.mem_append_right _ (List.mem_of_getElem? (i := 804) (by decide +kernel))) (by decide +kernel)
theorem wc_X9_about : Cond.code yX9_about cX9_about 9 (some .int) ∈ gtbl := gt_of (List.mem_append_right _ (List.mem_of_getElem? (i := 805) (by decide +kernel))) (by decide +kernel)
theorem wl_L_32 : Cond.methodLink RL 32 yX8_width ∈ gtbl := gt_of (List.mem_append_right _ (List.mem_of_getElem? (i := 427) (by decide +kernel))) (by decide +kernel)
theorem nm_X8_width : nmOk yX8_width 2 := ⟨by decide +kernel, by decide +kernel, by decide +kernel⟩
theorem wi_X8_width : Cond.instanceMethod yX8_width ∈ gtbl := gt_of (List.mem_append_right _ (List.mem_of_getElem? (i := 428) (by decide +kernel))) (by decide +kernel)
theorem ws_X8_width : Cond.selects yX8_width.cls yX8_width yX8_width ∈ gtbl := gt_of (List.mem_append_right _ (List.mem_of_getElem? (i := 429) (by decide +kernel))) (by decide +kernel)
theorem wc_X8_width : Cond.code yX8_width cX8_width 3 (some .int) ∈ gtbl := gt_of (List.mem_append_right _ (List.mem_of_getElem? (i := 430) (by decide +kernel))) (by decide +kernel)
theorem wl_L_36 : Cond.methodLink RL 36 yX9_width ∈ gtbl := gt_of (List.mem_append_right _ (List.mem_of_getElem? (i := 798) (by decide +kernel))) (by decide +kernel)
theorem nm_X9_width : nmOk yX9_width 2 := ⟨by decide +kernel, by decide +kernel, by decide +kernel⟩
theorem wi_X9_width : Cond.instanceMethod yX9_width ∈ gtbl := gt_of (List.mem_append_right _ (List.mem_of_getElem? (i := 799) (by decide +kernel))) (by decide +kernel)
theorem ws_X9_width : Cond.selects yX9_width.cls yX9_width yX9_width ∈ gtbl := gt_of (List.mem_append_right _ (List.mem_of_getElem? (i := 800) (by decide +kernel))) (by decide +kernel)
theorem wc_X9_width : Cond.code yX9_width cX9_width 3 (some .int) ∈ gtbl := gt_of (List.mem_append_right _ (List.mem_of_getElem? (i := 801) (by decide +kernel))) (by decide +kernel)
theorem wl_L_37 : Cond.methodLink RL 37 yX8_turned ∈ gtbl := gt_of (List.mem_append_right _ (List.mem_of_getElem? (i := 431) (by decide +kernel))) (by decide +kernel)
theorem nm_X8_turned : nmOk yX8_turned 2 := ⟨by decide +kernel, by decide +kernel, by decide +kernel⟩
theorem wi_X8_turned : Cond.instanceMethod yX8_turned ∈ gtbl := gt_of (List.mem_append_right _ (List.mem_of_getElem? (i := 432) (by decide +kernel))) (by decide +kernel)
theorem ws_X8_turned : Cond.selects yX8_turned.cls yX8_turned yX8_turned ∈ gtbl := gt_of (List.mem_append_right _ (List.mem_of_getElem? (i := 433) (by decide +kernel))) (by decide +kernel)
theorem wc_X8_turned : Cond.code yX8_turned cX8_turned 3 (some .int) ∈ gtbl := gt_of (List.mem_append_right _ (List.mem_of_getElem? (i := 434) (by decide +kernel))) (by decide +kernel)
theorem wl_L_40 : Cond.methodLink RL 40 yX9_turned ∈ gtbl := gt_of (List.mem_append_right _ (List.mem_of_getElem? (i := 819) (by decide +kernel))) (by decide +kernel)
theorem nm_X9_turned : nmOk yX9_turned 2 := ⟨by decide +kernel, by decide +kernel, by decide +kernel⟩
theorem wi_X9_turned : Cond.instanceMethod yX9_turned ∈ gtbl := gt_of (List.mem_append_right _ (List.mem_of_getElem? (i := 820) (by decide +kernel))) (by decide +kernel)
theorem ws_X9_turned : Cond.selects yX9_turned.cls yX9_turned yX9_turned ∈ gtbl := gt_of (List.mem_append_right _ (List.mem_of_getElem? (i := 821) (by decide +kernel))) (by decide +kernel)
theorem wc_X9_turned : Cond.code yX9_turned cX9_turned 3 (some .int) ∈ gtbl := gt_of (List.mem_append_right _ (List.mem_of_getElem? (i := 822) (by decide +kernel))) (by decide +kernel)
theorem wl_L_41 : Cond.methodLink RL 41 yX8_row ∈ gtbl := gt_of (List.mem_append_right _ (List.mem_of_getElem? (i := 436) (by decide +kernel))) (by decide +kernel)
theorem nm_X8_row : nmOk yX8_row 1 := ⟨by decide +kernel, by decide +kernel, by decide +kernel⟩
theorem wi_X8_row : Cond.instanceMethod yX8_row ∈ gtbl := gt_of (List.mem_append_right _ (List.mem_of_getElem? (i := 437) (by decide +kernel))) (by decide +kernel)
theorem ws_X8_row : Cond.selects yX8_row.cls yX8_row yX8_row ∈ gtbl := gt_of (List.mem_append_right _ (List.mem_of_getElem? (i := 438) (by decide +kernel))) (by decide +kernel)
theorem wc_X8_row : Cond.code yX8_row cX8_row 2 (some .int) ∈ gtbl := gt_of (List.mem_append_right _ (List.mem_of_getElem? (i := 439) (by decide +kernel))) (by decide +kernel)
theorem wl_L_44 : Cond.methodLink RL 44 yX9_row ∈ gtbl := gt_of (List.mem_append_right _ (List.mem_of_getElem? (i := 827) (by decide +kernel))) (by decide +kernel)
theorem nm_X9_row : nmOk yX9_row 1 := ⟨by decide +kernel, by decide +kernel, by decide +kernel⟩
theorem wi_X9_row : Cond.instanceMethod yX9_row ∈ gtbl := gt_of (List.mem_append_right _ (List.mem_of_getElem? (i := 828) (by decide +kernel))) (by decide +kernel)
theorem ws_X9_row : Cond.selects yX9_row.cls yX9_row yX9_row ∈ gtbl := gt_of (List.mem_append_right _ (List.mem_of_getElem? (i := 829) (by decide +kernel))) (by decide +kernel)
theorem wc_X9_row : Cond.code yX9_row cX9_row 2 (some .int) ∈ gtbl := gt_of (List.mem_append_right _ (List.mem_of_getElem? (i := 830) (by decide +kernel))) (by decide +kernel)
theorem wl_L_45 : Cond.methodLink RL 45 yX8_layer ∈ gtbl := gt_of (List.mem_append_right _ (List.mem_of_getElem? (i := 444) (by decide +kernel))) (by decide +kernel)
theorem nm_X8_layer : nmOk yX8_layer 1 := ⟨by decide +kernel, by decide +kernel, by decide +kernel⟩
theorem wi_X8_layer : Cond.instanceMethod yX8_layer ∈ gtbl := gt_of (List.mem_append_right _ (List.mem_of_getElem? (i := 445) (by decide +kernel))) (by decide +kernel)
theorem ws_X8_layer : Cond.selects yX8_layer.cls yX8_layer yX8_layer ∈ gtbl := gt_of (List.mem_append_right _ (List.mem_of_getElem? (i := 446) (by decide +kernel))) (by decide +kernel)
theorem wc_X8_layer : Cond.code yX8_layer cX8_layer 2 (some .int) ∈ gtbl := gt_of (List.mem_append_right _ (List.mem_of_getElem? (i := 447) (by decide +kernel))) (by decide +kernel)
theorem wl_L_48 : Cond.methodLink RL 48 yX9_layer ∈ gtbl := gt_of (List.mem_append_right _ (List.mem_of_getElem? (i := 831) (by decide +kernel))) (by decide +kernel)
theorem nm_X9_layer : nmOk yX9_layer 1 := ⟨by decide +kernel, by decide +kernel, by decide +kernel⟩
theorem wi_X9_layer : Cond.instanceMethod yX9_layer ∈ gtbl := gt_of (List.mem_append_right _ (List.mem_of_getElem? (i := 832) (by decide +kernel))) (by decide +kernel)
theorem ws_X9_layer : Cond.selects yX9_layer.cls yX9_layer yX9_layer ∈ gtbl := gt_of (List.mem_append_right _ (List.mem_of_getElem? (i := 833) (by decide +kernel))) (by decide +kernel)
theorem wc_X9_layer : Cond.code yX9_layer cX9_layer 2 (some .int) ∈ gtbl := gt_of (List.mem_append_right _ (List.mem_of_getElem? (i := 834) (by decide +kernel))) (by decide +kernel)
theorem wl_L_49 : Cond.methodLink RL 49 yX8_rest ∈ gtbl := gt_of (List.mem_append_right _ (List.mem_of_getElem? (i := 452) (by decide +kernel))) (by decide +kernel)
theorem nm_X8_rest : nmOk yX8_rest 1 := ⟨by decide +kernel, by decide +kernel, by decide +kernel⟩
theorem wi_X8_rest : Cond.instanceMethod yX8_rest ∈ gtbl := gt_of (List.mem_append_right _ (List.mem_of_getElem? (i := 453) (by decide +kernel))) (by decide +kernel)
theorem ws_X8_rest : Cond.selects yX8_rest.cls yX8_rest yX8_rest ∈ gtbl := gt_of (List.mem_append_right _ (List.mem_of_getElem? (i := 454) (by decide +kernel))) (by decide +kernel)
theorem wc_X8_rest : Cond.code yX8_rest cX8_rest 2 (some .int) ∈ gtbl := gt_of (List.mem_append_right _ (List.mem_of_getElem? (i := 455) (by decide +kernel))) (by decide +kernel)
theorem wl_L_52 : Cond.methodLink RL 52 yX9_rest ∈ gtbl := gt_of (List.mem_append_right _ (List.mem_of_getElem? (i := 839) (by decide +kernel))) (by decide +kernel)
theorem nm_X9_rest : nmOk yX9_rest 1 := ⟨by decide +kernel, by decide +kernel, by decide +kernel⟩
theorem wi_X9_rest : Cond.instanceMethod yX9_rest ∈ gtbl := gt_of (List.mem_append_right _ (List.mem_of_getElem? (i := 840) (by decide +kernel))) (by decide +kernel)
theorem ws_X9_rest : Cond.selects yX9_rest.cls yX9_rest yX9_rest ∈ gtbl := gt_of (List.mem_append_right _ (List.mem_of_getElem? (i := 841) (by decide +kernel))) (by decide +kernel)
theorem wc_X9_rest : Cond.code yX9_rest cX9_rest 4 (some .int) ∈ gtbl := gt_of (List.mem_append_right _ (List.mem_of_getElem? (i := 842) (by decide +kernel))) (by decide +kernel)
theorem wl_L_53 : Cond.methodLink RL 53 yX8_cost ∈ gtbl := gt_of (List.mem_append_right _ (List.mem_of_getElem? (i := 464) (by decide +kernel))) (by decide +kernel)
theorem nm_X8_cost : nmOk yX8_cost 0 := ⟨by decide +kernel, by decide +kernel, by decide +kernel⟩
theorem wi_X8_cost : Cond.instanceMethod yX8_cost ∈ gtbl := gt_of (List.mem_append_right _ (List.mem_of_getElem? (i := 465) (by decide +kernel))) (by decide +kernel)
theorem ws_X8_cost : Cond.selects yX8_cost.cls yX8_cost yX8_cost ∈ gtbl := gt_of (List.mem_append_right _ (List.mem_of_getElem? (i := 466) (by decide +kernel))) (by decide +kernel)
theorem wc_X8_cost : Cond.code yX8_cost cX8_cost 1 (some .int) ∈ gtbl := gt_of (List.mem_append_right _ (List.mem_of_getElem? (i := 467) (by decide +kernel))) (by decide +kernel)
theorem wl_L_57 : Cond.methodLink RL 57 yX9_cost ∈ gtbl := gt_of (List.mem_append_right _ (List.mem_of_getElem? (i := 843) (by decide +kernel))) (by decide +kernel)
theorem nm_X9_cost : nmOk yX9_cost 0 := ⟨by decide +kernel, by decide +kernel, by decide +kernel⟩
theorem wi_X9_cost : Cond.instanceMethod yX9_cost ∈ gtbl := gt_of (List.mem_append_right _ (List.mem_of_getElem? (i := 844) (by decide +kernel))) (by decide +kernel)
theorem ws_X9_cost : Cond.selects yX9_cost.cls yX9_cost yX9_cost ∈ gtbl := gt_of (List.mem_append_right _ (List.mem_of_getElem? (i := 845) (by decide +kernel))) (by decide +kernel)
theorem wc_X9_cost : Cond.code yX9_cost cX9_cost 1 (some .int) ∈ gtbl := gt_of (List.mem_append_right _ (List.mem_of_getElem? (i := 846) (by decide +kernel))) (by decide +kernel)
theorem wl_L_58 : Cond.methodLink RL 58 yX8_part ∈ gtbl := gt_of (List.mem_append_right _ (List.mem_of_getElem? (i := 589) (by decide +kernel))) (by decide +kernel)
theorem nm_X8_part : nmOk yX8_part 1 := ⟨by decide +kernel, by decide +kernel, by decide +kernel⟩
theorem wi_X8_part : Cond.instanceMethod yX8_part ∈ gtbl := gt_of (List.mem_append_right _ (List.mem_of_getElem? (i := 590) (by decide +kernel))) (by decide +kernel)
theorem ws_X8_part : Cond.selects yX8_part.cls yX8_part yX8_part ∈ gtbl := gt_of (List.mem_append_right _ (List.mem_of_getElem? (i := 591) (by decide +kernel))) (by decide +kernel)
theorem wc_X8_part : Cond.code yX8_part cX8_part 2 (some .int) ∈ gtbl := gt_of (List.mem_append_right _ (List.mem_of_getElem? (i := 592) (by decide +kernel))) (by decide +kernel)
theorem wl_L_61 : Cond.methodLink RL 61 yX9_part ∈ gtbl := gt_of (List.mem_append_right _ (List.mem_of_getElem? (i := 891) (by decide +kernel))) (by decide +kernel)
theorem nm_X9_part : nmOk yX9_part 1 := ⟨by decide +kernel, by decide +kernel, by decide +kernel⟩
theorem wi_X9_part : Cond.instanceMethod yX9_part ∈ gtbl := gt_of (List.mem_append_right _ (List.mem_of_getElem? (i := 892) (by decide +kernel))) (by decide +kernel)
theorem ws_X9_part : Cond.selects yX9_part.cls yX9_part yX9_part ∈ gtbl := gt_of (List.mem_append_right _ (List.mem_of_getElem? (i := 893) (by decide +kernel))) (by decide +kernel)
theorem wc_X9_part : Cond.code yX9_part cX9_part 6 (some .int) ∈ gtbl := gt_of (List.mem_append_right _ (List.mem_of_getElem? (i := 894) (by decide +kernel))) (by decide +kernel)
theorem wl_L_62 : Cond.methodLink RL 62 yX8_items ∈ gtbl := gt_of (List.mem_append_right _ (List.mem_of_getElem? (i := 605) (by decide +kernel))) (by decide +kernel)
theorem nm_X8_items : nmOk yX8_items 1 := ⟨by decide +kernel, by decide +kernel, by decide +kernel⟩
theorem wi_X8_items : Cond.instanceMethod yX8_items ∈ gtbl := gt_of (List.mem_append_right _ (List.mem_of_getElem? (i := 606) (by decide +kernel))) (by decide +kernel)
theorem ws_X8_items : Cond.selects yX8_items.cls yX8_items yX8_items ∈ gtbl := gt_of (List.mem_append_right _ (List.mem_of_getElem? (i := 607) (by decide +kernel))) (by decide +kernel)
theorem wc_X8_items : Cond.code yX8_items cX8_items 2 (some .int) ∈ gtbl := gt_of (List.mem_append_right _ (List.mem_of_getElem? (i := 608) (by decide +kernel))) (by decide +kernel)
theorem wl_L_65 : Cond.methodLink RL 65 yX9_items ∈ gtbl := gt_of (List.mem_append_right _ (List.mem_of_getElem? (i := 895) (by decide +kernel))) (by decide +kernel)
theorem nm_X9_items : nmOk yX9_items 1 := ⟨by decide +kernel, by decide +kernel, by decide +kernel⟩
theorem wi_X9_items : Cond.instanceMethod yX9_items ∈ gtbl := gt_of (List.mem_append_right _ (List.mem_of_getElem? (i := 896) (by decide +kernel))) (by decide +kernel)
theorem ws_X9_items : Cond.selects yX9_items.cls yX9_items yX9_items ∈ gtbl := gt_of (List.mem_append_right _ (List.mem_of_getElem? (i := 897) (by decide +kernel))) (by decide +kernel)
theorem wc_X9_items : Cond.code yX9_items cX9_items 2 (some .int) ∈ gtbl := gt_of (List.mem_append_right _ (List.mem_of_getElem? (i := 898) (by decide +kernel))) (by decide +kernel)
theorem wl_L_66 : Cond.methodLink RL 66 yX8_item ∈ gtbl := gt_of (List.mem_append_right _ (List.mem_of_getElem? (i := 614) (by decide +kernel))) (by decide +kernel)
theorem nm_X8_item : nmOk yX8_item 2 := ⟨by decide +kernel, by decide +kernel, by decide +kernel⟩
theorem wi_X8_item : Cond.instanceMethod yX8_item ∈ gtbl := gt_of (List.mem_append_right _ (List.mem_of_getElem? (i := 615) (by decide +kernel))) (by decide +kernel)
theorem ws_X8_item : Cond.selects yX8_item.cls yX8_item yX8_item ∈ gtbl := gt_of (List.mem_append_right _ (List.mem_of_getElem? (i := 616) (by decide +kernel))) (by decide +kernel)
theorem wc_X8_item : Cond.code yX8_item cX8_item 3 (some .int) ∈ gtbl := gt_of (List.mem_append_right _ (List.mem_of_getElem? (i := 617) (by decide +kernel))) (by decide +kernel)
theorem wl_L_69 : Cond.methodLink RL 69 yX9_item ∈ gtbl := gt_of (List.mem_append_right _ (List.mem_of_getElem? (i := 899) (by decide +kernel))) (by decide +kernel)
theorem nm_X9_item : nmOk yX9_item 2 := ⟨by decide +kernel, by decide +kernel, by decide +kernel⟩
theorem wi_X9_item : Cond.instanceMethod yX9_item ∈ gtbl := gt_of (List.mem_append_right _ (List.mem_of_getElem? (i := 900) (by decide +kernel))) (by decide +kernel)
theorem ws_X9_item : Cond.selects yX9_item.cls yX9_item yX9_item ∈ gtbl := gt_of (List.mem_append_right _ (List.mem_of_getElem? (i := 901) (by decide +kernel))) (by decide +kernel)
theorem wc_X9_item : Cond.code yX9_item cX9_item 3 (some .int) ∈ gtbl := gt_of (List.mem_append_right _ (List.mem_of_getElem? (i := 902) (by decide +kernel))) (by decide +kernel)
theorem wl_L_70 : Cond.methodLink RL 70 yX8_place ∈ gtbl := gt_of (List.mem_append_right _ (List.mem_of_getElem? (i := 619) (by decide +kernel))) (by decide +kernel)
theorem nm_X8_place : nmOk yX8_place 2 := ⟨by decide +kernel, by decide +kernel, by decide +kernel⟩
theorem wi_X8_place : Cond.instanceMethod yX8_place ∈ gtbl := gt_of (List.mem_append_right _ (List.mem_of_getElem? (i := 620) (by decide +kernel))) (by decide +kernel)
theorem ws_X8_place : Cond.selects yX8_place.cls yX8_place yX8_place ∈ gtbl := gt_of (List.mem_append_right _ (List.mem_of_getElem? (i := 621) (by decide +kernel))) (by decide +kernel)
theorem wc_X8_place : Cond.code yX8_place cX8_place 5 (some .int) ∈ gtbl := gt_of (List.mem_append_right _ (List.mem_of_getElem? (i := 622) (by decide +kernel))) (by decide +kernel)
theorem wl_L_73 : Cond.methodLink RL 73 yX9_place ∈ gtbl := gt_of (List.mem_append_right _ (List.mem_of_getElem? (i := 907) (by decide +kernel))) (by decide +kernel)
theorem nm_X9_place : nmOk yX9_place 2 := ⟨by decide +kernel, by decide +kernel, by decide +kernel⟩
theorem wi_X9_place : Cond.instanceMethod yX9_place ∈ gtbl := gt_of (List.mem_append_right _ (List.mem_of_getElem? (i := 908) (by decide +kernel))) (by decide +kernel)
theorem ws_X9_place : Cond.selects yX9_place.cls yX9_place yX9_place ∈ gtbl := gt_of (List.mem_append_right _ (List.mem_of_getElem? (i := 909) (by decide +kernel))) (by decide +kernel)
theorem wc_X9_place : Cond.code yX9_place cX9_place 4 (some .int) ∈ gtbl := gt_of (List.mem_append_right _ (List.mem_of_getElem? (i := 910) (by decide +kernel))) (by decide +kernel)
theorem wl_L_74 : Cond.methodLink RL 74 yX8_point ∈ gtbl := gt_of (List.mem_append_right _ (List.mem_of_getElem? (i := 640) (by decide +kernel))) (by decide +kernel)
theorem nm_X8_point : nmOk yX8_point 4 := ⟨by decide +kernel, by decide +kernel, by decide +kernel⟩
theorem wi_X8_point : Cond.instanceMethod yX8_point ∈ gtbl := gt_of (List.mem_append_right _ (List.mem_of_getElem? (i := 641) (by decide +kernel))) (by decide +kernel)
theorem ws_X8_point : Cond.selects yX8_point.cls yX8_point yX8_point ∈ gtbl := gt_of (List.mem_append_right _ (List.mem_of_getElem? (i := 642) (by decide +kernel))) (by decide +kernel)
theorem wc_X8_point : Cond.code yX8_point cX8_point 5 (some .int) ∈ gtbl := gt_of (List.mem_append_right _ (List.mem_of_getElem? (i := 643) (by decide +kernel))) (by decide +kernel)
theorem wl_L_78 : Cond.methodLink RL 78 yX9_point ∈ gtbl := gt_of (List.mem_append_right _ (List.mem_of_getElem? (i := 919) (by decide +kernel))) (by decide +kernel)
theorem nm_X9_point : nmOk yX9_point 4 := ⟨by decide +kernel, by decide +kernel, by decide +kernel⟩
theorem wi_X9_point : Cond.instanceMethod yX9_point ∈ gtbl := gt_of (List.mem_append_right _ (List.mem_of_getElem? (i := 920) (by decide +kernel))) (by decide +kernel)
theorem ws_X9_point : Cond.selects yX9_point.cls yX9_point yX9_point ∈ gtbl := gt_of (List.mem_append_right _ (List.mem_of_getElem? (i := 921) (by decide +kernel))) (by decide +kernel)
theorem wc_X9_point : Cond.code yX9_point cX9_point 13 (some .int) ∈ gtbl := gt_of (List.mem_append_right _ (List.mem_of_getElem? (i := 922) (by decide +kernel))) (by decide +kernel)
theorem wl_L_79 : Cond.methodLink RL 79 yX8_keep ∈ gtbl := gt_of (List.mem_append_right _ (List.mem_of_getElem? (i := 655) (by decide +kernel))) (by decide +kernel)
theorem nm_X8_keep : nmOk yX8_keep 0 := ⟨by decide +kernel, by decide +kernel, by decide +kernel⟩
theorem wi_X8_keep : Cond.instanceMethod yX8_keep ∈ gtbl := gt_of (List.mem_append_right _ (List.mem_of_getElem? (i := 656) (by decide +kernel))) (by decide +kernel)
theorem ws_X8_keep : Cond.selects yX8_keep.cls yX8_keep yX8_keep ∈ gtbl := gt_of (List.mem_append_right _ (List.mem_of_getElem? (i := 657) (by decide +kernel))) (by decide +kernel)
theorem wc_X8_keep : Cond.code yX8_keep cX8_keep 3 (some .boolean) ∈ gtbl := gt_of (List.mem_append_right _ (List.mem_of_getElem? (i := 658) (by decide +kernel))) (by decide +kernel)
theorem wl_L_83 : Cond.methodLink RL 83 yX9_keep ∈ gtbl := gt_of (List.mem_append_right _ (List.mem_of_getElem? (i := 923) (by decide +kernel))) (by decide +kernel)
theorem nm_X9_keep : nmOk yX9_keep 0 := ⟨by decide +kernel, by decide +kernel, by decide +kernel⟩
theorem wi_X9_keep : Cond.instanceMethod yX9_keep ∈ gtbl := gt_of (List.mem_append_right _ (List.mem_of_getElem? (i := 924) (by decide +kernel))) (by decide +kernel)
theorem ws_X9_keep : Cond.selects yX9_keep.cls yX9_keep yX9_keep ∈ gtbl := gt_of (List.mem_append_right _ (List.mem_of_getElem? (i := 925) (by decide +kernel))) (by decide +kernel)
theorem wc_X9_keep : Cond.code yX9_keep cX9_keep 2 (some .boolean) ∈ gtbl := gt_of (List.mem_append_right _ (List.mem_of_getElem? (i := 926) (by decide +kernel))) (by decide +kernel)
theorem wl_L_84 : Cond.methodLink RL 84 yX8_forget ∈ gtbl := gt_of (List.mem_append_right _ (List.mem_of_getElem? (i := 672) (by decide +kernel))) (by decide +kernel)
theorem nm_X8_forget : nmOk yX8_forget 0 := ⟨by decide +kernel, by decide +kernel, by decide +kernel⟩
theorem wi_X8_forget : Cond.instanceMethod yX8_forget ∈ gtbl := gt_of (List.mem_append_right _ (List.mem_of_getElem? (i := 673) (by decide +kernel))) (by decide +kernel)
theorem ws_X8_forget : Cond.selects yX8_forget.cls yX8_forget yX8_forget ∈ gtbl := gt_of (List.mem_append_right _ (List.mem_of_getElem? (i := 674) (by decide +kernel))) (by decide +kernel)
theorem wc_X8_forget : Cond.code yX8_forget cX8_forget 1 none ∈ gtbl := gt_of (List.mem_append_right _ (List.mem_of_getElem? (i := 675) (by decide +kernel))) (by decide +kernel)
theorem wl_L_87 : Cond.methodLink RL 87 yX9_forget ∈ gtbl := gt_of (List.mem_append_right _ (List.mem_of_getElem? (i := 927) (by decide +kernel))) (by decide +kernel)
theorem nm_X9_forget : nmOk yX9_forget 0 := ⟨by decide +kernel, by decide +kernel, by decide +kernel⟩
theorem wi_X9_forget : Cond.instanceMethod yX9_forget ∈ gtbl := gt_of (List.mem_append_right _ (List.mem_of_getElem? (i := 928) (by decide +kernel))) (by decide +kernel)
theorem ws_X9_forget : Cond.selects yX9_forget.cls yX9_forget yX9_forget ∈ gtbl := gt_of (List.mem_append_right _ (List.mem_of_getElem? (i := 929) (by decide +kernel))) (by decide +kernel)
theorem wc_X9_forget : Cond.code yX9_forget cX9_forget 2 none ∈ gtbl := gt_of (List.mem_append_right _ (List.mem_of_getElem? (i := 930) (by decide +kernel))) (by decide +kernel)
theorem wl_L_88 : Cond.methodLink RL 88 yX8_orders ∈ gtbl := gt_of (List.mem_append_right _ (List.mem_of_getElem? (i := 676) (by decide +kernel))) (by decide +kernel)
theorem nm_X8_orders : nmOk yX8_orders 0 := ⟨by decide +kernel, by decide +kernel, by decide +kernel⟩
theorem wi_X8_orders : Cond.instanceMethod yX8_orders ∈ gtbl := gt_of (List.mem_append_right _ (List.mem_of_getElem? (i := 677) (by decide +kernel))) (by decide +kernel)
theorem ws_X8_orders : Cond.selects yX8_orders.cls yX8_orders yX8_orders ∈ gtbl := gt_of (List.mem_append_right _ (List.mem_of_getElem? (i := 678) (by decide +kernel))) (by decide +kernel)
theorem wc_X8_orders : Cond.code yX8_orders cX8_orders 1 (some .int) ∈ gtbl := gt_of (List.mem_append_right _ (List.mem_of_getElem? (i := 679) (by decide +kernel))) (by decide +kernel)
theorem wl_L_91 : Cond.methodLink RL 91 yX9_orders ∈ gtbl := gt_of (List.mem_append_right _ (List.mem_of_getElem? (i := 931) (by decide +kernel))) (by decide +kernel)
theorem nm_X9_orders : nmOk yX9_orders 0 := ⟨by decide +kernel, by decide +kernel, by decide +kernel⟩
theorem wi_X9_orders : Cond.instanceMethod yX9_orders ∈ gtbl := gt_of (List.mem_append_right _ (List.mem_of_getElem? (i := 932) (by decide +kernel))) (by decide +kernel)
theorem ws_X9_orders : Cond.selects yX9_orders.cls yX9_orders yX9_orders ∈ gtbl := gt_of (List.mem_append_right _ (List.mem_of_getElem? (i := 933) (by decide +kernel))) (by decide +kernel)
theorem wc_X9_orders : Cond.code yX9_orders cX9_orders 1 (some .int) ∈ gtbl := gt_of (List.mem_append_right _ (List.mem_of_getElem? (i := 934) (by decide +kernel))) (by decide +kernel)
/-! THE CLAIM OUT OF ONE WALK OF THE LAW'S BODY. Your part is whole_start (and what it stands on); all else here is the same for every law, but numbers. -/
def R_law : String := "RibbonSetterLaw"
def lw_P (b : Addr) (xs : List Int32) (args : Array Value) (s : State) : Prop := args = #[.ref b] ∧ s.IntsAt b xs ∧ xs.length ≤ 2560 ∧ (Jvm.Cond.and given_1 narrow_1).before args s = true
def lw_Q (_ : Array Value) (s : State) (o : Outcome) (t : State) : Prop := o = .returned (some (.int 1)) ∧ Framed s o t [] 600000 7302250
def lw_Z (below : List Frame) (a : Array Value) (s : State) : State → Prop := fun t => ∃ o, t.status = .running ∧ Ended t below o ∧ lw_Q a s o t
/-- the law's own end, with 1 on the stack, nothing written that was there before, its room as the claim has it -/
theorem lw_ret {p : Program} {l : Launch} {e : Env} {s : State} {m : MethodId} {below : List Frame} {meth : Method} {c : Code} {b : Nat} (hx : p.tables.exec = Jvm.exec) (hb : c.code = code) (hr : meth.sig.returnType = ret) (hlocks : meth.locks = false) {pc : Nat} {H : Heap} {ls : Array Slot} (hdg : decode code pc = .ok (.ireturn, 1)) : W p l e room_1 s m #[Value.ref b] below meth c H [] 600000 7302250 (lw_Z below #[Value.ref b] s) (F0 m pc ls [.int 1]) := by
  intro T hT X
  obtain ⟨fs, hret, hrun, hended, hW, hframe⟩ := X.leave (v := some (.int 1)) (hlocks := hlocks) (fun h => by rw [hr] at h; cases h)
  have hmeth' : T.vm.method? m = some meth := X.method'
  refine ⟨T.setFrames fs, ?_, .returned (some (.int 1)), hrun, hended, rfl, ⟨_, rfl⟩, hW, hframe⟩
  jvm_step X.here [X.here.top, hx, hb, hdg, hmeth', hr, ret, narrow_b1]
  (try refine ⟨rfl, ?_⟩); (try refine ⟨rfl, ?_⟩)
  first | (intro acts; rw [hret _ acts rfl rfl rfl]) | rw [hret _ _ rfl rfl rfl]
  exact Steps.refl _
/-- what holds at the law's entry: the machine, the code, the tables' words (any of lw_tbl by 'hts w (by decide +kernel)'), the script of L ints xs at the cell b, what the Statement gives of the start (any of its parts by flat_of_before) -/
def lw_At (p : Program) (s : State) (m : MethodId) (meth : Method) (c : Code) (b L : Nat) (xs : Nat → Int32) : Prop :=
  p.tables.exec = Jvm.exec ∧ c.code = code ∧ meth.sig.returnType = ret ∧ c.maxLocals = 4 ∧ s.vm.findClass R_law = some m.cls ∧ (∀ w ∈ lw_tbl, w.before #[Value.ref b] s = true) ∧ va_X b L xs s s.heap ∧ b < s.heap.size ∧ meth.locks = false ∧ (Jvm.Cond.and given_1 narrow_1).before #[Value.ref b] s = true
abbrev LCX (p : Program) (s : State) (m : MethodId) (meth : Method) (c : Code) (b : Nat) : Prop := CX p s m #[Value.ref b] meth c cL_law 4 RL (fun q => s.heap.size ≤ q)
section LW
variable {p : Program} {l : Launch} {e : Env} {s : State} {m : MethodId} {below : List Frame} {meth : Method} {c : Code} {Q : State → Prop} {D : va_G} {cells slots : Nat} {ads : AD} {sh : SH} {I A : HI} {pc b L : Nat} {xs : Nat → Int32} {R : Room} {H : Heap} {locs : List Loc} {a : Array Slot}
theorem l_ld (hC : LCX p s m meth c b) (hX : va_X b L xs s s.heap) (hbl : b < s.heap.size) (hL : L ≤ 2560) (h0 : a[0]? = some (.val (.ref b))) {i k : Nat} (h3 : a[3]? = some (.val (.int (nI i)))) {rest : List Value} {K : Int} (hR : RW D (fun q => s.heap.size ≤ q) s ads sh I A H locs) (hk : i + k < L) (d0 : decode cL_law pc = .ok (.aload_n 0, 1)) (d1 : decode cL_law (pc + 1) = .ok (.iload_n 3, 1)) (d2 : decode cL_law (pc + 1 + 1) = .ok (.iconst K, 1)) (hK : Int32.ofInt K = nI k) (d3 : decode cL_law (pc + 1 + 1 + 1) = .ok (.iadd, 1)) (d4 : decode cL_law (pc + 1 + 1 + 1 + 1) = .ok (.iaload, 1))
    (kk : W p l e R s m #[Value.ref b] below meth c H locs cells slots Q (F0 m (pc + 1 + 1 + 1 + 1 + 1) a (.int (xs (i + k)) :: rest))) : W p l e R s m #[Value.ref b] below meth c H locs cells slots Q (F0 m pc a rest) := by
  refine lv_aload_n hC.1 hC.2.1 d0 rfl h0 ?_
  refine lv_iload_n hC.1 hC.2.1 d1 rfl h3 ?_
  refine lv_iconst hC.1 hC.2.1 d2 hK ?_
  refine lv_iadd hC.1 hC.2.1 d3 ?_
  rw [nI_add]
  refine va_sld hC.1 hC.2.1 hX hbl (Nat.not_le.mpr hbl) hR.2.2.2.2 (nI_in hk (by omega)) d4 ?_
  rw [nI_clamp (by omega)]
  exact kk
set_option maxHeartbeats 2000000 in
theorem la_0 (hC : LCX p s m meth c b) (hX : va_X b L xs s s.heap) (hbl : b < s.heap.size) (hL : L ≤ 2560) {i : Nat} (hi : i + 5 ≤ L) (ha : a.size = 4) (h0 : a[0]? = some (.val (.ref b))) (h1 : a[1]? = some (.val (.ref (adr ads 0)))) (h2 : a[2]? = some (.val (.ref (adr ads 96)))) (h3 : a[3]? = some (.val (.int (nI i)))) (hB : BOK I A) (hR : RW D (fun q => s.heap.size ≤ q) s ads shp I A H locs)
    (nx : ∀ I' A' H' locs', BOK I' A' → RW D (fun q => s.heap.size ≤ q) s ads shp I' A' H' locs' → W p l e room_1 s m #[Value.ref b] below meth c H' locs' 600000 7302250 (lw_Z below #[Value.ref b] s) (F0 m 580 a [])) : W p l e room_1 s m #[Value.ref b] below meth c H locs 600000 7302250 (lw_Z below #[Value.ref b] s) (F0 m 120 a []) := by
  refine lv_aload_n hC.1 hC.2.1 dL_law_120 rfl h1 ?_
  refine l_ld hC hX hbl hL h0 h3 (k := 1) hR (by omega) dL_law_121 dL_law_122 dL_law_123 rfl dL_law_124 dL_law_125 ?_
  refine l_ld hC hX hbl hL h0 h3 (k := 2) hR (by omega) dL_law_126 dL_law_127 dL_law_128 rfl dL_law_129 dL_law_130 ?_
  refine l_ld hC hX hbl hL h0 h3 (k := 3) hR (by omega) dL_law_131 dL_law_132 dL_law_133 rfl dL_law_134 dL_law_135 ?_
  refine w_callV hC (c_X8_flow l D ads I A (xs (i + 1)) (xs (i + 2)) (xs (i + 3)) hB.1) dL_law_136 nm_X8_flow rfl rfl wl_L_13 wi_X8_flow ws_X8_flow wn_X8 wc_X8_flow ⟨by decide, by decide⟩ (as := [.inl (xs (i + 1)), .inl (xs (i + 2)), .inl (xs (i + 3))]) (rest := []) rfl (Nat.le_of_ble_eq_true rfl) ⟨Nat.le_refl _, Nat.le_refl _⟩ hR ha (k_qJ (fun v1 I1 A1 hp H1 locs1 hR1 => ?_))
  obtain ⟨e1, s1, x1, hi1⟩ := hp
  obtain ⟨m1, ms1⟩ := hB.2.1.hi hi1
  refine lv_aload_n hC.1 hC.2.1 dL_law_139 rfl h2 ?_
  refine l_ld hC hX hbl hL h0 h3 (k := 1) hR1 (by omega) dL_law_140 dL_law_141 dL_law_142 rfl dL_law_143 dL_law_144 ?_
  refine l_ld hC hX hbl hL h0 h3 (k := 2) hR1 (by omega) dL_law_145 dL_law_146 dL_law_147 rfl dL_law_148 dL_law_149 ?_
  refine l_ld hC hX hbl hL h0 h3 (k := 3) hR1 (by omega) dL_law_150 dL_law_151 dL_law_152 rfl dL_law_153 dL_law_154 ?_
  refine w_callV hC (c_X9_flow l D ads I1 A1 (xs (i + 1)) (xs (i + 2)) (xs (i + 3)) m1) dL_law_155 nm_X9_flow rfl rfl wl_L_17 wi_X9_flow ws_X9_flow wn_X9 wc_X9_flow ⟨by decide, by decide⟩ (as := [.inl (xs (i + 1)), .inl (xs (i + 2)), .inl (xs (i + 3))]) (rest := [.int v1]) rfl (Nat.le_of_ble_eq_true rfl) ⟨Nat.le_refl _, Nat.le_refl _⟩ hR1 ha (k_qJ (fun v2 I2 A2 hp H2 locs2 hR2 => ?_))
  obtain ⟨e2, s2, mo2, lo2⟩ := hp
  obtain ⟨x2, xs2⟩ := x1.lo lo2
  have hB2 : BOK I2 A2 := ⟨x2, mo2, by rw [xs2, s1, s2, ms1, hB.2.2]⟩
  show W p l e room_1 s m #[Value.ref b] below meth c H2 locs2 600000 7302250 (lw_Z below #[Value.ref b] s) (F0 m 158 a [.int v2, .int v1])
  exact lv_icmp_eq hC.1 hC.2.1 dL_law_158 (tgt := 580) (by decide) (fun _ => nx I2 A2 H2 locs2 hB2 hR2) (fun h => absurd (by first | rw [e1, e2, ms1, hB.2.2] | rw [e1, e2]) h)
set_option maxHeartbeats 2000000 in
theorem la_1 (hC : LCX p s m meth c b) (hX : va_X b L xs s s.heap) (hbl : b < s.heap.size) (hL : L ≤ 2560) {i : Nat} (hi : i + 5 ≤ L) (ha : a.size = 4) (h0 : a[0]? = some (.val (.ref b))) (h1 : a[1]? = some (.val (.ref (adr ads 0)))) (h2 : a[2]? = some (.val (.ref (adr ads 96)))) (h3 : a[3]? = some (.val (.int (nI i)))) (hB : BOK I A) (hR : RW D (fun q => s.heap.size ≤ q) s ads shp I A H locs)
    (nx : ∀ I' A' H' locs', BOK I' A' → RW D (fun q => s.heap.size ≤ q) s ads shp I' A' H' locs' → W p l e room_1 s m #[Value.ref b] below meth c H' locs' 600000 7302250 (lw_Z below #[Value.ref b] s) (F0 m 580 a [])) : W p l e room_1 s m #[Value.ref b] below meth c H locs 600000 7302250 (lw_Z below #[Value.ref b] s) (F0 m 163 a []) := by
  refine lv_aload_n hC.1 hC.2.1 dL_law_163 rfl h1 ?_
  refine w_callV hC (c_X8_clear l D ads I A  hB.1) dL_law_164 nm_X8_clear rfl rfl wl_L_18 wi_X8_clear ws_X8_clear wn_X8 wc_X8_clear ⟨by decide, by decide⟩ (as := []) (rest := []) rfl (Nat.le_of_ble_eq_true rfl) ⟨Nat.le_refl _, Nat.le_refl _⟩ hR ha (k_qV (fun I1 A1 hp H1 locs1 hR1 => ?_))
  obtain ⟨s1, x1, hi1⟩ := hp
  obtain ⟨m1, ms1⟩ := hB.2.1.hi hi1
  refine lv_aload_n hC.1 hC.2.1 dL_law_167 rfl h2 ?_
  refine w_callV hC (c_X9_clear l D ads I1 A1  m1) dL_law_168 nm_X9_clear rfl rfl wl_L_21 wi_X9_clear ws_X9_clear wn_X9 wc_X9_clear ⟨by decide, by decide⟩ (as := []) (rest := []) rfl (Nat.le_of_ble_eq_true rfl) ⟨Nat.le_refl _, Nat.le_refl _⟩ hR1 ha (k_qV (fun I2 A2 hp H2 locs2 hR2 => ?_))
  obtain ⟨s2, mo2, lo2⟩ := hp
  obtain ⟨x2, xs2⟩ := x1.lo lo2
  have hB2 : BOK I2 A2 := ⟨x2, mo2, by rw [xs2, s1, s2, ms1, hB.2.2]⟩
  exact lv_goto hC.1 hC.2.1 dL_law_171 (tgt := 580) (by decide) (nx I2 A2 H2 locs2 hB2 hR2)
set_option maxHeartbeats 2000000 in
theorem la_2 (hC : LCX p s m meth c b) (hX : va_X b L xs s s.heap) (hbl : b < s.heap.size) (hL : L ≤ 2560) {i : Nat} (hi : i + 5 ≤ L) (ha : a.size = 4) (h0 : a[0]? = some (.val (.ref b))) (h1 : a[1]? = some (.val (.ref (adr ads 0)))) (h2 : a[2]? = some (.val (.ref (adr ads 96)))) (h3 : a[3]? = some (.val (.int (nI i)))) (hB : BOK I A) (hR : RW D (fun q => s.heap.size ≤ q) s ads shp I A H locs)
    (nx : ∀ I' A' H' locs', BOK I' A' → RW D (fun q => s.heap.size ≤ q) s ads shp I' A' H' locs' → W p l e room_1 s m #[Value.ref b] below meth c H' locs' 600000 7302250 (lw_Z below #[Value.ref b] s) (F0 m 580 a [])) : W p l e room_1 s m #[Value.ref b] below meth c H locs 600000 7302250 (lw_Z below #[Value.ref b] s) (F0 m 174 a []) := by
  refine lv_aload_n hC.1 hC.2.1 dL_law_174 rfl h1 ?_
  refine l_ld hC hX hbl hL h0 h3 (k := 1) hR (by omega) dL_law_175 dL_law_176 dL_law_177 rfl dL_law_178 dL_law_179 ?_
  refine l_ld hC hX hbl hL h0 h3 (k := 2) hR (by omega) dL_law_180 dL_law_181 dL_law_182 rfl dL_law_183 dL_law_184 ?_
  refine w_callV hC (c_X8_set l D ads I A (xs (i + 1)) (xs (i + 2)) hB.1) dL_law_185 nm_X8_set rfl rfl wl_L_22 wi_X8_set ws_X8_set wn_X8 wc_X8_set ⟨by decide, by decide⟩ (as := [.inl (xs (i + 1)), .inl (xs (i + 2))]) (rest := []) rfl (Nat.le_of_ble_eq_true rfl) ⟨Nat.le_refl _, Nat.le_refl _⟩ hR ha (k_qJ (fun v1 I1 A1 hp H1 locs1 hR1 => ?_))
  obtain ⟨e1, s1, x1, hi1⟩ := hp
  obtain ⟨m1, ms1⟩ := hB.2.1.hi hi1
  refine lv_aload_n hC.1 hC.2.1 dL_law_188 rfl h2 ?_
  refine l_ld hC hX hbl hL h0 h3 (k := 1) hR1 (by omega) dL_law_189 dL_law_190 dL_law_191 rfl dL_law_192 dL_law_193 ?_
  refine l_ld hC hX hbl hL h0 h3 (k := 2) hR1 (by omega) dL_law_194 dL_law_195 dL_law_196 rfl dL_law_197 dL_law_198 ?_
  refine w_callV hC (c_X9_set l D ads I1 A1 (xs (i + 1)) (xs (i + 2)) m1) dL_law_199 nm_X9_set rfl rfl wl_L_26 wi_X9_set ws_X9_set wn_X9 wc_X9_set ⟨by decide, by decide⟩ (as := [.inl (xs (i + 1)), .inl (xs (i + 2))]) (rest := [.int v1]) rfl (Nat.le_of_ble_eq_true rfl) ⟨Nat.le_refl _, Nat.le_refl _⟩ hR1 ha (k_qJ (fun v2 I2 A2 hp H2 locs2 hR2 => ?_))
  obtain ⟨e2, s2, mo2, lo2⟩ := hp
  obtain ⟨x2, xs2⟩ := x1.lo lo2
  have hB2 : BOK I2 A2 := ⟨x2, mo2, by rw [xs2, s1, s2, ms1, hB.2.2]⟩
  show W p l e room_1 s m #[Value.ref b] below meth c H2 locs2 600000 7302250 (lw_Z below #[Value.ref b] s) (F0 m 202 a [.int v2, .int v1])
  exact lv_icmp_eq hC.1 hC.2.1 dL_law_202 (tgt := 580) (by decide) (fun _ => nx I2 A2 H2 locs2 hB2 hR2) (fun h => absurd (by first | rw [e1, e2, ms1, hB.2.2] | rw [e1, e2]) h)
set_option maxHeartbeats 2000000 in
theorem la_3 (hC : LCX p s m meth c b) (hX : va_X b L xs s s.heap) (hbl : b < s.heap.size) (hL : L ≤ 2560) {i : Nat} (hi : i + 5 ≤ L) (ha : a.size = 4) (h0 : a[0]? = some (.val (.ref b))) (h1 : a[1]? = some (.val (.ref (adr ads 0)))) (h2 : a[2]? = some (.val (.ref (adr ads 96)))) (h3 : a[3]? = some (.val (.int (nI i)))) (hB : BOK I A) (hR : RW D (fun q => s.heap.size ≤ q) s ads shp I A H locs)
    (nx : ∀ I' A' H' locs', BOK I' A' → RW D (fun q => s.heap.size ≤ q) s ads shp I' A' H' locs' → W p l e room_1 s m #[Value.ref b] below meth c H' locs' 600000 7302250 (lw_Z below #[Value.ref b] s) (F0 m 580 a [])) : W p l e room_1 s m #[Value.ref b] below meth c H locs 600000 7302250 (lw_Z below #[Value.ref b] s) (F0 m 207 a []) := by
  refine lv_aload_n hC.1 hC.2.1 dL_law_207 rfl h1 ?_
  refine l_ld hC hX hbl hL h0 h3 (k := 1) hR (by omega) dL_law_208 dL_law_209 dL_law_210 rfl dL_law_211 dL_law_212 ?_
  refine w_callV hC (c_X8_about l D ads I A (xs (i + 1)) hB.1) dL_law_213 nm_X8_about rfl rfl wl_L_27 wi_X8_about ws_X8_about wn_X8 wc_X8_about ⟨by decide, by decide⟩ (as := [.inl (xs (i + 1))]) (rest := []) rfl (Nat.le_of_ble_eq_true rfl) ⟨Nat.le_refl _, Nat.le_refl _⟩ hR ha (k_qJ (fun v1 I1 A1 hp H1 locs1 hR1 => ?_))
  obtain ⟨e1, s1, x1, hi1⟩ := hp
  obtain ⟨m1, ms1⟩ := hB.2.1.hi hi1
  refine lv_aload_n hC.1 hC.2.1 dL_law_216 rfl h2 ?_
  refine l_ld hC hX hbl hL h0 h3 (k := 1) hR1 (by omega) dL_law_217 dL_law_218 dL_law_219 rfl dL_law_220 dL_law_221 ?_
  refine w_callV hC (c_X9_about l D ads I1 A1 (xs (i + 1)) m1) dL_law_222 nm_X9_about rfl rfl wl_L_31 wi_X9_about ws_X9_about wn_X9 wc_X9_about ⟨by decide, by decide⟩ (as := [.inl (xs (i + 1))]) (rest := [.int v1]) rfl (Nat.le_of_ble_eq_true rfl) ⟨Nat.le_refl _, Nat.le_refl _⟩ hR1 ha (k_qJ (fun v2 I2 A2 hp H2 locs2 hR2 => ?_))
  obtain ⟨e2, s2, mo2, lo2⟩ := hp
  obtain ⟨x2, xs2⟩ := x1.lo lo2
  have hB2 : BOK I2 A2 := ⟨x2, mo2, by rw [xs2, s1, s2, ms1, hB.2.2]⟩
  show W p l e room_1 s m #[Value.ref b] below meth c H2 locs2 600000 7302250 (lw_Z below #[Value.ref b] s) (F0 m 225 a [.int v2, .int v1])
  exact lv_icmp_eq hC.1 hC.2.1 dL_law_225 (tgt := 580) (by decide) (fun _ => nx I2 A2 H2 locs2 hB2 hR2) (fun h => absurd (by first | rw [e1, e2, ms1, hB.2.2] | rw [e1, e2]) h)
set_option maxHeartbeats 2000000 in
theorem la_4 (hC : LCX p s m meth c b) (hX : va_X b L xs s s.heap) (hbl : b < s.heap.size) (hL : L ≤ 2560) {i : Nat} (hi : i + 5 ≤ L) (ha : a.size = 4) (h0 : a[0]? = some (.val (.ref b))) (h1 : a[1]? = some (.val (.ref (adr ads 0)))) (h2 : a[2]? = some (.val (.ref (adr ads 96)))) (h3 : a[3]? = some (.val (.int (nI i)))) (hB : BOK I A) (hR : RW D (fun q => s.heap.size ≤ q) s ads shp I A H locs)
    (nx : ∀ I' A' H' locs', BOK I' A' → RW D (fun q => s.heap.size ≤ q) s ads shp I' A' H' locs' → W p l e room_1 s m #[Value.ref b] below meth c H' locs' 600000 7302250 (lw_Z below #[Value.ref b] s) (F0 m 580 a [])) : W p l e room_1 s m #[Value.ref b] below meth c H locs 600000 7302250 (lw_Z below #[Value.ref b] s) (F0 m 230 a []) := by
  refine lv_aload_n hC.1 hC.2.1 dL_law_230 rfl h1 ?_
  refine l_ld hC hX hbl hL h0 h3 (k := 1) hR (by omega) dL_law_231 dL_law_232 dL_law_233 rfl dL_law_234 dL_law_235 ?_
  refine l_ld hC hX hbl hL h0 h3 (k := 2) hR (by omega) dL_law_236 dL_law_237 dL_law_238 rfl dL_law_239 dL_law_240 ?_
  refine w_callV hC (c_X8_width l D ads I A (xs (i + 1)) (xs (i + 2)) hB.1) dL_law_241 nm_X8_width rfl rfl wl_L_32 wi_X8_width ws_X8_width wn_X8 wc_X8_width ⟨by decide, by decide⟩ (as := [.inl (xs (i + 1)), .inl (xs (i + 2))]) (rest := []) rfl (Nat.le_of_ble_eq_true rfl) ⟨Nat.le_refl _, Nat.le_refl _⟩ hR ha (k_qJ (fun v1 I1 A1 hp H1 locs1 hR1 => ?_))
  obtain ⟨e1, s1, x1, hi1⟩ := hp
  obtain ⟨m1, ms1⟩ := hB.2.1.hi hi1
  refine lv_aload_n hC.1 hC.2.1 dL_law_244 rfl h2 ?_
  refine l_ld hC hX hbl hL h0 h3 (k := 1) hR1 (by omega) dL_law_245 dL_law_246 dL_law_247 rfl dL_law_248 dL_law_249 ?_
  refine l_ld hC hX hbl hL h0 h3 (k := 2) hR1 (by omega) dL_law_250 dL_law_251 dL_law_252 rfl dL_law_253 dL_law_254 ?_
  refine w_callV hC (c_X9_width l D ads I1 A1 (xs (i + 1)) (xs (i + 2)) m1) dL_law_255 nm_X9_width rfl rfl wl_L_36 wi_X9_width ws_X9_width wn_X9 wc_X9_width ⟨by decide, by decide⟩ (as := [.inl (xs (i + 1)), .inl (xs (i + 2))]) (rest := [.int v1]) rfl (Nat.le_of_ble_eq_true rfl) ⟨Nat.le_refl _, Nat.le_refl _⟩ hR1 ha (k_qJ (fun v2 I2 A2 hp H2 locs2 hR2 => ?_))
  obtain ⟨e2, s2, mo2, lo2⟩ := hp
  obtain ⟨x2, xs2⟩ := x1.lo lo2
  have hB2 : BOK I2 A2 := ⟨x2, mo2, by rw [xs2, s1, s2, ms1, hB.2.2]⟩
  show W p l e room_1 s m #[Value.ref b] below meth c H2 locs2 600000 7302250 (lw_Z below #[Value.ref b] s) (F0 m 258 a [.int v2, .int v1])
  exact lv_icmp_eq hC.1 hC.2.1 dL_law_258 (tgt := 580) (by decide) (fun _ => nx I2 A2 H2 locs2 hB2 hR2) (fun h => absurd (by first | rw [e1, e2, ms1, hB.2.2] | rw [e1, e2]) h)
set_option maxHeartbeats 2000000 in
theorem la_5 (hC : LCX p s m meth c b) (hX : va_X b L xs s s.heap) (hbl : b < s.heap.size) (hL : L ≤ 2560) {i : Nat} (hi : i + 5 ≤ L) (ha : a.size = 4) (h0 : a[0]? = some (.val (.ref b))) (h1 : a[1]? = some (.val (.ref (adr ads 0)))) (h2 : a[2]? = some (.val (.ref (adr ads 96)))) (h3 : a[3]? = some (.val (.int (nI i)))) (hB : BOK I A) (hR : RW D (fun q => s.heap.size ≤ q) s ads shp I A H locs)
    (nx : ∀ I' A' H' locs', BOK I' A' → RW D (fun q => s.heap.size ≤ q) s ads shp I' A' H' locs' → W p l e room_1 s m #[Value.ref b] below meth c H' locs' 600000 7302250 (lw_Z below #[Value.ref b] s) (F0 m 580 a [])) : W p l e room_1 s m #[Value.ref b] below meth c H locs 600000 7302250 (lw_Z below #[Value.ref b] s) (F0 m 263 a []) := by
  refine lv_aload_n hC.1 hC.2.1 dL_law_263 rfl h1 ?_
  refine l_ld hC hX hbl hL h0 h3 (k := 1) hR (by omega) dL_law_264 dL_law_265 dL_law_266 rfl dL_law_267 dL_law_268 ?_
  refine l_ld hC hX hbl hL h0 h3 (k := 2) hR (by omega) dL_law_269 dL_law_270 dL_law_271 rfl dL_law_272 dL_law_273 ?_
  refine w_callV hC (c_X8_turned l D ads I A (xs (i + 1)) (xs (i + 2)) hB.1) dL_law_274 nm_X8_turned rfl rfl wl_L_37 wi_X8_turned ws_X8_turned wn_X8 wc_X8_turned ⟨by decide, by decide⟩ (as := [.inl (xs (i + 1)), .inl (xs (i + 2))]) (rest := []) rfl (Nat.le_of_ble_eq_true rfl) ⟨Nat.le_refl _, Nat.le_refl _⟩ hR ha (k_qJ (fun v1 I1 A1 hp H1 locs1 hR1 => ?_))
  obtain ⟨e1, s1, x1, hi1⟩ := hp
  obtain ⟨m1, ms1⟩ := hB.2.1.hi hi1
  refine lv_aload_n hC.1 hC.2.1 dL_law_277 rfl h2 ?_
  refine l_ld hC hX hbl hL h0 h3 (k := 1) hR1 (by omega) dL_law_278 dL_law_279 dL_law_280 rfl dL_law_281 dL_law_282 ?_
  refine l_ld hC hX hbl hL h0 h3 (k := 2) hR1 (by omega) dL_law_283 dL_law_284 dL_law_285 rfl dL_law_286 dL_law_287 ?_
  refine w_callV hC (c_X9_turned l D ads I1 A1 (xs (i + 1)) (xs (i + 2)) m1) dL_law_288 nm_X9_turned rfl rfl wl_L_40 wi_X9_turned ws_X9_turned wn_X9 wc_X9_turned ⟨by decide, by decide⟩ (as := [.inl (xs (i + 1)), .inl (xs (i + 2))]) (rest := [.int v1]) rfl (Nat.le_of_ble_eq_true rfl) ⟨Nat.le_refl _, Nat.le_refl _⟩ hR1 ha (k_qJ (fun v2 I2 A2 hp H2 locs2 hR2 => ?_))
  obtain ⟨e2, s2, mo2, lo2⟩ := hp
  obtain ⟨x2, xs2⟩ := x1.lo lo2
  have hB2 : BOK I2 A2 := ⟨x2, mo2, by rw [xs2, s1, s2, ms1, hB.2.2]⟩
  show W p l e room_1 s m #[Value.ref b] below meth c H2 locs2 600000 7302250 (lw_Z below #[Value.ref b] s) (F0 m 291 a [.int v2, .int v1])
  exact lv_icmp_eq hC.1 hC.2.1 dL_law_291 (tgt := 580) (by decide) (fun _ => nx I2 A2 H2 locs2 hB2 hR2) (fun h => absurd (by first | rw [e1, e2, ms1, hB.2.2] | rw [e1, e2]) h)
set_option maxHeartbeats 2000000 in
theorem la_6 (hC : LCX p s m meth c b) (hX : va_X b L xs s s.heap) (hbl : b < s.heap.size) (hL : L ≤ 2560) {i : Nat} (hi : i + 5 ≤ L) (ha : a.size = 4) (h0 : a[0]? = some (.val (.ref b))) (h1 : a[1]? = some (.val (.ref (adr ads 0)))) (h2 : a[2]? = some (.val (.ref (adr ads 96)))) (h3 : a[3]? = some (.val (.int (nI i)))) (hB : BOK I A) (hR : RW D (fun q => s.heap.size ≤ q) s ads shp I A H locs)
    (nx : ∀ I' A' H' locs', BOK I' A' → RW D (fun q => s.heap.size ≤ q) s ads shp I' A' H' locs' → W p l e room_1 s m #[Value.ref b] below meth c H' locs' 600000 7302250 (lw_Z below #[Value.ref b] s) (F0 m 580 a [])) : W p l e room_1 s m #[Value.ref b] below meth c H locs 600000 7302250 (lw_Z below #[Value.ref b] s) (F0 m 296 a []) := by
  refine lv_aload_n hC.1 hC.2.1 dL_law_296 rfl h1 ?_
  refine l_ld hC hX hbl hL h0 h3 (k := 1) hR (by omega) dL_law_297 dL_law_298 dL_law_299 rfl dL_law_300 dL_law_301 ?_
  refine w_callV hC (c_X8_row l D ads I A (xs (i + 1)) hB.1) dL_law_302 nm_X8_row rfl rfl wl_L_41 wi_X8_row ws_X8_row wn_X8 wc_X8_row ⟨by decide, by decide⟩ (as := [.inl (xs (i + 1))]) (rest := []) rfl (Nat.le_of_ble_eq_true rfl) ⟨Nat.le_refl _, Nat.le_refl _⟩ hR ha (k_qJ (fun v1 I1 A1 hp H1 locs1 hR1 => ?_))
  obtain ⟨e1, s1, x1, hi1⟩ := hp
  obtain ⟨m1, ms1⟩ := hB.2.1.hi hi1
  refine lv_aload_n hC.1 hC.2.1 dL_law_305 rfl h2 ?_
  refine l_ld hC hX hbl hL h0 h3 (k := 1) hR1 (by omega) dL_law_306 dL_law_307 dL_law_308 rfl dL_law_309 dL_law_310 ?_
  refine w_callV hC (c_X9_row l D ads I1 A1 (xs (i + 1)) m1) dL_law_311 nm_X9_row rfl rfl wl_L_44 wi_X9_row ws_X9_row wn_X9 wc_X9_row ⟨by decide, by decide⟩ (as := [.inl (xs (i + 1))]) (rest := [.int v1]) rfl (Nat.le_of_ble_eq_true rfl) ⟨Nat.le_refl _, Nat.le_refl _⟩ hR1 ha (k_qJ (fun v2 I2 A2 hp H2 locs2 hR2 => ?_))
  obtain ⟨e2, s2, mo2, lo2⟩ := hp
  obtain ⟨x2, xs2⟩ := x1.lo lo2
  have hB2 : BOK I2 A2 := ⟨x2, mo2, by rw [xs2, s1, s2, ms1, hB.2.2]⟩
  show W p l e room_1 s m #[Value.ref b] below meth c H2 locs2 600000 7302250 (lw_Z below #[Value.ref b] s) (F0 m 314 a [.int v2, .int v1])
  exact lv_icmp_eq hC.1 hC.2.1 dL_law_314 (tgt := 580) (by decide) (fun _ => nx I2 A2 H2 locs2 hB2 hR2) (fun h => absurd (by first | rw [e1, e2, ms1, hB.2.2] | rw [e1, e2]) h)
set_option maxHeartbeats 2000000 in
theorem la_7 (hC : LCX p s m meth c b) (hX : va_X b L xs s s.heap) (hbl : b < s.heap.size) (hL : L ≤ 2560) {i : Nat} (hi : i + 5 ≤ L) (ha : a.size = 4) (h0 : a[0]? = some (.val (.ref b))) (h1 : a[1]? = some (.val (.ref (adr ads 0)))) (h2 : a[2]? = some (.val (.ref (adr ads 96)))) (h3 : a[3]? = some (.val (.int (nI i)))) (hB : BOK I A) (hR : RW D (fun q => s.heap.size ≤ q) s ads shp I A H locs)
    (nx : ∀ I' A' H' locs', BOK I' A' → RW D (fun q => s.heap.size ≤ q) s ads shp I' A' H' locs' → W p l e room_1 s m #[Value.ref b] below meth c H' locs' 600000 7302250 (lw_Z below #[Value.ref b] s) (F0 m 580 a [])) : W p l e room_1 s m #[Value.ref b] below meth c H locs 600000 7302250 (lw_Z below #[Value.ref b] s) (F0 m 319 a []) := by
  refine lv_aload_n hC.1 hC.2.1 dL_law_319 rfl h1 ?_
  refine l_ld hC hX hbl hL h0 h3 (k := 1) hR (by omega) dL_law_320 dL_law_321 dL_law_322 rfl dL_law_323 dL_law_324 ?_
  refine w_callV hC (c_X8_layer l D ads I A (xs (i + 1)) hB.1) dL_law_325 nm_X8_layer rfl rfl wl_L_45 wi_X8_layer ws_X8_layer wn_X8 wc_X8_layer ⟨by decide, by decide⟩ (as := [.inl (xs (i + 1))]) (rest := []) rfl (Nat.le_of_ble_eq_true rfl) ⟨Nat.le_refl _, Nat.le_refl _⟩ hR ha (k_qJ (fun v1 I1 A1 hp H1 locs1 hR1 => ?_))
  obtain ⟨e1, s1, x1, hi1⟩ := hp
  obtain ⟨m1, ms1⟩ := hB.2.1.hi hi1
  refine lv_aload_n hC.1 hC.2.1 dL_law_328 rfl h2 ?_
  refine l_ld hC hX hbl hL h0 h3 (k := 1) hR1 (by omega) dL_law_329 dL_law_330 dL_law_331 rfl dL_law_332 dL_law_333 ?_
  refine w_callV hC (c_X9_layer l D ads I1 A1 (xs (i + 1)) m1) dL_law_334 nm_X9_layer rfl rfl wl_L_48 wi_X9_layer ws_X9_layer wn_X9 wc_X9_layer ⟨by decide, by decide⟩ (as := [.inl (xs (i + 1))]) (rest := [.int v1]) rfl (Nat.le_of_ble_eq_true rfl) ⟨Nat.le_refl _, Nat.le_refl _⟩ hR1 ha (k_qJ (fun v2 I2 A2 hp H2 locs2 hR2 => ?_))
  obtain ⟨e2, s2, mo2, lo2⟩ := hp
  obtain ⟨x2, xs2⟩ := x1.lo lo2
  have hB2 : BOK I2 A2 := ⟨x2, mo2, by rw [xs2, s1, s2, ms1, hB.2.2]⟩
  show W p l e room_1 s m #[Value.ref b] below meth c H2 locs2 600000 7302250 (lw_Z below #[Value.ref b] s) (F0 m 337 a [.int v2, .int v1])
  exact lv_icmp_eq hC.1 hC.2.1 dL_law_337 (tgt := 580) (by decide) (fun _ => nx I2 A2 H2 locs2 hB2 hR2) (fun h => absurd (by first | rw [e1, e2, ms1, hB.2.2] | rw [e1, e2]) h)
set_option maxHeartbeats 2000000 in
theorem la_8 (hC : LCX p s m meth c b) (hX : va_X b L xs s s.heap) (hbl : b < s.heap.size) (hL : L ≤ 2560) {i : Nat} (hi : i + 5 ≤ L) (ha : a.size = 4) (h0 : a[0]? = some (.val (.ref b))) (h1 : a[1]? = some (.val (.ref (adr ads 0)))) (h2 : a[2]? = some (.val (.ref (adr ads 96)))) (h3 : a[3]? = some (.val (.int (nI i)))) (hB : BOK I A) (hR : RW D (fun q => s.heap.size ≤ q) s ads shp I A H locs)
    (nx : ∀ I' A' H' locs', BOK I' A' → RW D (fun q => s.heap.size ≤ q) s ads shp I' A' H' locs' → W p l e room_1 s m #[Value.ref b] below meth c H' locs' 600000 7302250 (lw_Z below #[Value.ref b] s) (F0 m 580 a [])) : W p l e room_1 s m #[Value.ref b] below meth c H locs 600000 7302250 (lw_Z below #[Value.ref b] s) (F0 m 342 a []) := by
  refine lv_aload_n hC.1 hC.2.1 dL_law_342 rfl h1 ?_
  refine l_ld hC hX hbl hL h0 h3 (k := 1) hR (by omega) dL_law_343 dL_law_344 dL_law_345 rfl dL_law_346 dL_law_347 ?_
  refine w_callV hC (c_X8_rest l D ads I A (xs (i + 1)) hB.1) dL_law_348 nm_X8_rest rfl rfl wl_L_49 wi_X8_rest ws_X8_rest wn_X8 wc_X8_rest ⟨by decide, by decide⟩ (as := [.inl (xs (i + 1))]) (rest := []) rfl (Nat.le_of_ble_eq_true rfl) ⟨Nat.le_refl _, Nat.le_refl _⟩ hR ha (k_qJ (fun v1 I1 A1 hp H1 locs1 hR1 => ?_))
  obtain ⟨e1, s1, x1, hi1⟩ := hp
  obtain ⟨m1, ms1⟩ := hB.2.1.hi hi1
  refine lv_aload_n hC.1 hC.2.1 dL_law_351 rfl h2 ?_
  refine l_ld hC hX hbl hL h0 h3 (k := 1) hR1 (by omega) dL_law_352 dL_law_353 dL_law_354 rfl dL_law_355 dL_law_356 ?_
  refine w_callV hC (c_X9_rest l D ads I1 A1 (xs (i + 1)) m1) dL_law_357 nm_X9_rest rfl rfl wl_L_52 wi_X9_rest ws_X9_rest wn_X9 wc_X9_rest ⟨by decide, by decide⟩ (as := [.inl (xs (i + 1))]) (rest := [.int v1]) rfl (Nat.le_of_ble_eq_true rfl) ⟨Nat.le_refl _, Nat.le_refl _⟩ hR1 ha (k_qJ (fun v2 I2 A2 hp H2 locs2 hR2 => ?_))
  obtain ⟨e2, s2, mo2, lo2⟩ := hp
  obtain ⟨x2, xs2⟩ := x1.lo lo2
  have hB2 : BOK I2 A2 := ⟨x2, mo2, by rw [xs2, s1, s2, ms1, hB.2.2]⟩
  show W p l e room_1 s m #[Value.ref b] below meth c H2 locs2 600000 7302250 (lw_Z below #[Value.ref b] s) (F0 m 360 a [.int v2, .int v1])
  exact lv_icmp_eq hC.1 hC.2.1 dL_law_360 (tgt := 580) (by decide) (fun _ => nx I2 A2 H2 locs2 hB2 hR2) (fun h => absurd (by first | rw [e1, e2, ms1, hB.2.2] | rw [e1, e2]) h)
set_option maxHeartbeats 2000000 in
theorem la_9 (hC : LCX p s m meth c b) (hX : va_X b L xs s s.heap) (hbl : b < s.heap.size) (hL : L ≤ 2560) {i : Nat} (hi : i + 5 ≤ L) (ha : a.size = 4) (h0 : a[0]? = some (.val (.ref b))) (h1 : a[1]? = some (.val (.ref (adr ads 0)))) (h2 : a[2]? = some (.val (.ref (adr ads 96)))) (h3 : a[3]? = some (.val (.int (nI i)))) (hB : BOK I A) (hR : RW D (fun q => s.heap.size ≤ q) s ads shp I A H locs)
    (nx : ∀ I' A' H' locs', BOK I' A' → RW D (fun q => s.heap.size ≤ q) s ads shp I' A' H' locs' → W p l e room_1 s m #[Value.ref b] below meth c H' locs' 600000 7302250 (lw_Z below #[Value.ref b] s) (F0 m 580 a [])) : W p l e room_1 s m #[Value.ref b] below meth c H locs 600000 7302250 (lw_Z below #[Value.ref b] s) (F0 m 365 a []) := by
  refine lv_aload_n hC.1 hC.2.1 dL_law_365 rfl h1 ?_
  refine w_callV hC (c_X8_cost l D ads I A  hB.1) dL_law_366 nm_X8_cost rfl rfl wl_L_53 wi_X8_cost ws_X8_cost wn_X8 wc_X8_cost ⟨by decide, by decide⟩ (as := []) (rest := []) rfl (Nat.le_of_ble_eq_true rfl) ⟨Nat.le_refl _, Nat.le_refl _⟩ hR ha (k_qJ (fun v1 I1 A1 hp H1 locs1 hR1 => ?_))
  obtain ⟨e1, s1, x1, hi1⟩ := hp
  obtain ⟨m1, ms1⟩ := hB.2.1.hi hi1
  refine lv_aload_n hC.1 hC.2.1 dL_law_369 rfl h2 ?_
  refine w_callV hC (c_X9_cost l D ads I1 A1  m1) dL_law_370 nm_X9_cost rfl rfl wl_L_57 wi_X9_cost ws_X9_cost wn_X9 wc_X9_cost ⟨by decide, by decide⟩ (as := []) (rest := [.int v1]) rfl (Nat.le_of_ble_eq_true rfl) ⟨Nat.le_refl _, Nat.le_refl _⟩ hR1 ha (k_qJ (fun v2 I2 A2 hp H2 locs2 hR2 => ?_))
  obtain ⟨e2, s2, mo2, lo2⟩ := hp
  obtain ⟨x2, xs2⟩ := x1.lo lo2
  have hB2 : BOK I2 A2 := ⟨x2, mo2, by rw [xs2, s1, s2, ms1, hB.2.2]⟩
  show W p l e room_1 s m #[Value.ref b] below meth c H2 locs2 600000 7302250 (lw_Z below #[Value.ref b] s) (F0 m 373 a [.int v2, .int v1])
  exact lv_icmp_eq hC.1 hC.2.1 dL_law_373 (tgt := 580) (by decide) (fun _ => nx I2 A2 H2 locs2 hB2 hR2) (fun h => absurd (by first | rw [e1, e2, ms1, hB.2.2] | rw [e1, e2]) h)
set_option maxHeartbeats 2000000 in
theorem la_10 (hC : LCX p s m meth c b) (hX : va_X b L xs s s.heap) (hbl : b < s.heap.size) (hL : L ≤ 2560) {i : Nat} (hi : i + 5 ≤ L) (ha : a.size = 4) (h0 : a[0]? = some (.val (.ref b))) (h1 : a[1]? = some (.val (.ref (adr ads 0)))) (h2 : a[2]? = some (.val (.ref (adr ads 96)))) (h3 : a[3]? = some (.val (.int (nI i)))) (hB : BOK I A) (hR : RW D (fun q => s.heap.size ≤ q) s ads shp I A H locs)
    (nx : ∀ I' A' H' locs', BOK I' A' → RW D (fun q => s.heap.size ≤ q) s ads shp I' A' H' locs' → W p l e room_1 s m #[Value.ref b] below meth c H' locs' 600000 7302250 (lw_Z below #[Value.ref b] s) (F0 m 580 a [])) : W p l e room_1 s m #[Value.ref b] below meth c H locs 600000 7302250 (lw_Z below #[Value.ref b] s) (F0 m 378 a []) := by
  refine lv_aload_n hC.1 hC.2.1 dL_law_378 rfl h1 ?_
  refine l_ld hC hX hbl hL h0 h3 (k := 1) hR (by omega) dL_law_379 dL_law_380 dL_law_381 rfl dL_law_382 dL_law_383 ?_
  refine w_callV hC (c_X8_part l D ads I A (xs (i + 1)) hB.1) dL_law_384 nm_X8_part rfl rfl wl_L_58 wi_X8_part ws_X8_part wn_X8 wc_X8_part ⟨by decide, by decide⟩ (as := [.inl (xs (i + 1))]) (rest := []) rfl (Nat.le_of_ble_eq_true rfl) ⟨Nat.le_refl _, Nat.le_refl _⟩ hR ha (k_qJ (fun v1 I1 A1 hp H1 locs1 hR1 => ?_))
  obtain ⟨e1, s1, x1, hi1⟩ := hp
  obtain ⟨m1, ms1⟩ := hB.2.1.hi hi1
  refine lv_aload_n hC.1 hC.2.1 dL_law_387 rfl h2 ?_
  refine l_ld hC hX hbl hL h0 h3 (k := 1) hR1 (by omega) dL_law_388 dL_law_389 dL_law_390 rfl dL_law_391 dL_law_392 ?_
  refine w_callV hC (c_X9_part l D ads I1 A1 (xs (i + 1)) m1) dL_law_393 nm_X9_part rfl rfl wl_L_61 wi_X9_part ws_X9_part wn_X9 wc_X9_part ⟨by decide, by decide⟩ (as := [.inl (xs (i + 1))]) (rest := [.int v1]) rfl (Nat.le_of_ble_eq_true rfl) ⟨Nat.le_refl _, Nat.le_refl _⟩ hR1 ha (k_qJ (fun v2 I2 A2 hp H2 locs2 hR2 => ?_))
  obtain ⟨e2, s2, mo2, lo2⟩ := hp
  obtain ⟨x2, xs2⟩ := x1.lo lo2
  have hB2 : BOK I2 A2 := ⟨x2, mo2, by rw [xs2, s1, s2, ms1, hB.2.2]⟩
  show W p l e room_1 s m #[Value.ref b] below meth c H2 locs2 600000 7302250 (lw_Z below #[Value.ref b] s) (F0 m 396 a [.int v2, .int v1])
  exact lv_icmp_eq hC.1 hC.2.1 dL_law_396 (tgt := 580) (by decide) (fun _ => nx I2 A2 H2 locs2 hB2 hR2) (fun h => absurd (by first | rw [e1, e2, ms1, hB.2.2] | rw [e1, e2]) h)
set_option maxHeartbeats 2000000 in
theorem la_11 (hC : LCX p s m meth c b) (hX : va_X b L xs s s.heap) (hbl : b < s.heap.size) (hL : L ≤ 2560) {i : Nat} (hi : i + 5 ≤ L) (ha : a.size = 4) (h0 : a[0]? = some (.val (.ref b))) (h1 : a[1]? = some (.val (.ref (adr ads 0)))) (h2 : a[2]? = some (.val (.ref (adr ads 96)))) (h3 : a[3]? = some (.val (.int (nI i)))) (hB : BOK I A) (hR : RW D (fun q => s.heap.size ≤ q) s ads shp I A H locs)
    (nx : ∀ I' A' H' locs', BOK I' A' → RW D (fun q => s.heap.size ≤ q) s ads shp I' A' H' locs' → W p l e room_1 s m #[Value.ref b] below meth c H' locs' 600000 7302250 (lw_Z below #[Value.ref b] s) (F0 m 580 a [])) : W p l e room_1 s m #[Value.ref b] below meth c H locs 600000 7302250 (lw_Z below #[Value.ref b] s) (F0 m 401 a []) := by
  refine lv_aload_n hC.1 hC.2.1 dL_law_401 rfl h1 ?_
  refine l_ld hC hX hbl hL h0 h3 (k := 1) hR (by omega) dL_law_402 dL_law_403 dL_law_404 rfl dL_law_405 dL_law_406 ?_
  refine w_callV hC (c_X8_items l D ads I A (xs (i + 1)) hB.1) dL_law_407 nm_X8_items rfl rfl wl_L_62 wi_X8_items ws_X8_items wn_X8 wc_X8_items ⟨by decide, by decide⟩ (as := [.inl (xs (i + 1))]) (rest := []) rfl (Nat.le_of_ble_eq_true rfl) ⟨Nat.le_refl _, Nat.le_refl _⟩ hR ha (k_qJ (fun v1 I1 A1 hp H1 locs1 hR1 => ?_))
  obtain ⟨e1, s1, x1, hi1⟩ := hp
  obtain ⟨m1, ms1⟩ := hB.2.1.hi hi1
  refine lv_aload_n hC.1 hC.2.1 dL_law_410 rfl h2 ?_
  refine l_ld hC hX hbl hL h0 h3 (k := 1) hR1 (by omega) dL_law_411 dL_law_412 dL_law_413 rfl dL_law_414 dL_law_415 ?_
  refine w_callV hC (c_X9_items l D ads I1 A1 (xs (i + 1)) m1) dL_law_416 nm_X9_items rfl rfl wl_L_65 wi_X9_items ws_X9_items wn_X9 wc_X9_items ⟨by decide, by decide⟩ (as := [.inl (xs (i + 1))]) (rest := [.int v1]) rfl (Nat.le_of_ble_eq_true rfl) ⟨Nat.le_refl _, Nat.le_refl _⟩ hR1 ha (k_qJ (fun v2 I2 A2 hp H2 locs2 hR2 => ?_))
  obtain ⟨e2, s2, mo2, lo2⟩ := hp
  obtain ⟨x2, xs2⟩ := x1.lo lo2
  have hB2 : BOK I2 A2 := ⟨x2, mo2, by rw [xs2, s1, s2, ms1, hB.2.2]⟩
  show W p l e room_1 s m #[Value.ref b] below meth c H2 locs2 600000 7302250 (lw_Z below #[Value.ref b] s) (F0 m 419 a [.int v2, .int v1])
  exact lv_icmp_eq hC.1 hC.2.1 dL_law_419 (tgt := 580) (by decide) (fun _ => nx I2 A2 H2 locs2 hB2 hR2) (fun h => absurd (by first | rw [e1, e2, ms1, hB.2.2] | rw [e1, e2]) h)
set_option maxHeartbeats 2000000 in
theorem la_12 (hC : LCX p s m meth c b) (hX : va_X b L xs s s.heap) (hbl : b < s.heap.size) (hL : L ≤ 2560) {i : Nat} (hi : i + 5 ≤ L) (ha : a.size = 4) (h0 : a[0]? = some (.val (.ref b))) (h1 : a[1]? = some (.val (.ref (adr ads 0)))) (h2 : a[2]? = some (.val (.ref (adr ads 96)))) (h3 : a[3]? = some (.val (.int (nI i)))) (hB : BOK I A) (hR : RW D (fun q => s.heap.size ≤ q) s ads shp I A H locs)
    (nx : ∀ I' A' H' locs', BOK I' A' → RW D (fun q => s.heap.size ≤ q) s ads shp I' A' H' locs' → W p l e room_1 s m #[Value.ref b] below meth c H' locs' 600000 7302250 (lw_Z below #[Value.ref b] s) (F0 m 580 a [])) : W p l e room_1 s m #[Value.ref b] below meth c H locs 600000 7302250 (lw_Z below #[Value.ref b] s) (F0 m 424 a []) := by
  refine lv_aload_n hC.1 hC.2.1 dL_law_424 rfl h1 ?_
  refine l_ld hC hX hbl hL h0 h3 (k := 1) hR (by omega) dL_law_425 dL_law_426 dL_law_427 rfl dL_law_428 dL_law_429 ?_
  refine l_ld hC hX hbl hL h0 h3 (k := 2) hR (by omega) dL_law_430 dL_law_431 dL_law_432 rfl dL_law_433 dL_law_434 ?_
  refine w_callV hC (c_X8_item l D ads I A (xs (i + 1)) (xs (i + 2)) hB.1) dL_law_435 nm_X8_item rfl rfl wl_L_66 wi_X8_item ws_X8_item wn_X8 wc_X8_item ⟨by decide, by decide⟩ (as := [.inl (xs (i + 1)), .inl (xs (i + 2))]) (rest := []) rfl (Nat.le_of_ble_eq_true rfl) ⟨Nat.le_refl _, Nat.le_refl _⟩ hR ha (k_qJ (fun v1 I1 A1 hp H1 locs1 hR1 => ?_))
  obtain ⟨e1, s1, x1, hi1⟩ := hp
  obtain ⟨m1, ms1⟩ := hB.2.1.hi hi1
  refine lv_aload_n hC.1 hC.2.1 dL_law_438 rfl h2 ?_
  refine l_ld hC hX hbl hL h0 h3 (k := 1) hR1 (by omega) dL_law_439 dL_law_440 dL_law_441 rfl dL_law_442 dL_law_443 ?_
  refine l_ld hC hX hbl hL h0 h3 (k := 2) hR1 (by omega) dL_law_444 dL_law_445 dL_law_446 rfl dL_law_447 dL_law_448 ?_
  refine w_callV hC (c_X9_item l D ads I1 A1 (xs (i + 1)) (xs (i + 2)) m1) dL_law_449 nm_X9_item rfl rfl wl_L_69 wi_X9_item ws_X9_item wn_X9 wc_X9_item ⟨by decide, by decide⟩ (as := [.inl (xs (i + 1)), .inl (xs (i + 2))]) (rest := [.int v1]) rfl (Nat.le_of_ble_eq_true rfl) ⟨Nat.le_refl _, Nat.le_refl _⟩ hR1 ha (k_qJ (fun v2 I2 A2 hp H2 locs2 hR2 => ?_))
  obtain ⟨e2, s2, mo2, lo2⟩ := hp
  obtain ⟨x2, xs2⟩ := x1.lo lo2
  have hB2 : BOK I2 A2 := ⟨x2, mo2, by rw [xs2, s1, s2, ms1, hB.2.2]⟩
  show W p l e room_1 s m #[Value.ref b] below meth c H2 locs2 600000 7302250 (lw_Z below #[Value.ref b] s) (F0 m 452 a [.int v2, .int v1])
  exact lv_icmp_eq hC.1 hC.2.1 dL_law_452 (tgt := 580) (by decide) (fun _ => nx I2 A2 H2 locs2 hB2 hR2) (fun h => absurd (by first | rw [e1, e2, ms1, hB.2.2] | rw [e1, e2]) h)
set_option maxHeartbeats 2000000 in
theorem la_13 (hC : LCX p s m meth c b) (hX : va_X b L xs s s.heap) (hbl : b < s.heap.size) (hL : L ≤ 2560) {i : Nat} (hi : i + 5 ≤ L) (ha : a.size = 4) (h0 : a[0]? = some (.val (.ref b))) (h1 : a[1]? = some (.val (.ref (adr ads 0)))) (h2 : a[2]? = some (.val (.ref (adr ads 96)))) (h3 : a[3]? = some (.val (.int (nI i)))) (hB : BOK I A) (hR : RW D (fun q => s.heap.size ≤ q) s ads shp I A H locs)
    (nx : ∀ I' A' H' locs', BOK I' A' → RW D (fun q => s.heap.size ≤ q) s ads shp I' A' H' locs' → W p l e room_1 s m #[Value.ref b] below meth c H' locs' 600000 7302250 (lw_Z below #[Value.ref b] s) (F0 m 580 a [])) : W p l e room_1 s m #[Value.ref b] below meth c H locs 600000 7302250 (lw_Z below #[Value.ref b] s) (F0 m 457 a []) := by
  refine lv_aload_n hC.1 hC.2.1 dL_law_457 rfl h1 ?_
  refine l_ld hC hX hbl hL h0 h3 (k := 1) hR (by omega) dL_law_458 dL_law_459 dL_law_460 rfl dL_law_461 dL_law_462 ?_
  refine l_ld hC hX hbl hL h0 h3 (k := 2) hR (by omega) dL_law_463 dL_law_464 dL_law_465 rfl dL_law_466 dL_law_467 ?_
  refine w_callV hC (c_X8_place l D ads I A (xs (i + 1)) (xs (i + 2)) hB.1) dL_law_468 nm_X8_place rfl rfl wl_L_70 wi_X8_place ws_X8_place wn_X8 wc_X8_place ⟨by decide, by decide⟩ (as := [.inl (xs (i + 1)), .inl (xs (i + 2))]) (rest := []) rfl (Nat.le_of_ble_eq_true rfl) ⟨Nat.le_refl _, Nat.le_refl _⟩ hR ha (k_qJ (fun v1 I1 A1 hp H1 locs1 hR1 => ?_))
  obtain ⟨e1, s1, x1, hi1⟩ := hp
  obtain ⟨m1, ms1⟩ := hB.2.1.hi hi1
  refine lv_aload_n hC.1 hC.2.1 dL_law_471 rfl h2 ?_
  refine l_ld hC hX hbl hL h0 h3 (k := 1) hR1 (by omega) dL_law_472 dL_law_473 dL_law_474 rfl dL_law_475 dL_law_476 ?_
  refine l_ld hC hX hbl hL h0 h3 (k := 2) hR1 (by omega) dL_law_477 dL_law_478 dL_law_479 rfl dL_law_480 dL_law_481 ?_
  refine w_callV hC (c_X9_place l D ads I1 A1 (xs (i + 1)) (xs (i + 2)) m1) dL_law_482 nm_X9_place rfl rfl wl_L_73 wi_X9_place ws_X9_place wn_X9 wc_X9_place ⟨by decide, by decide⟩ (as := [.inl (xs (i + 1)), .inl (xs (i + 2))]) (rest := [.int v1]) rfl (Nat.le_of_ble_eq_true rfl) ⟨Nat.le_refl _, Nat.le_refl _⟩ hR1 ha (k_qJ (fun v2 I2 A2 hp H2 locs2 hR2 => ?_))
  obtain ⟨e2, s2, mo2, lo2⟩ := hp
  obtain ⟨x2, xs2⟩ := x1.lo lo2
  have hB2 : BOK I2 A2 := ⟨x2, mo2, by rw [xs2, s1, s2, ms1, hB.2.2]⟩
  show W p l e room_1 s m #[Value.ref b] below meth c H2 locs2 600000 7302250 (lw_Z below #[Value.ref b] s) (F0 m 485 a [.int v2, .int v1])
  exact lv_icmp_eq hC.1 hC.2.1 dL_law_485 (tgt := 580) (by decide) (fun _ => nx I2 A2 H2 locs2 hB2 hR2) (fun h => absurd (by first | rw [e1, e2, ms1, hB.2.2] | rw [e1, e2]) h)
set_option maxHeartbeats 2000000 in
theorem la_14 (hC : LCX p s m meth c b) (hX : va_X b L xs s s.heap) (hbl : b < s.heap.size) (hL : L ≤ 2560) {i : Nat} (hi : i + 5 ≤ L) (ha : a.size = 4) (h0 : a[0]? = some (.val (.ref b))) (h1 : a[1]? = some (.val (.ref (adr ads 0)))) (h2 : a[2]? = some (.val (.ref (adr ads 96)))) (h3 : a[3]? = some (.val (.int (nI i)))) (hB : BOK I A) (hR : RW D (fun q => s.heap.size ≤ q) s ads shp I A H locs)
    (nx : ∀ I' A' H' locs', BOK I' A' → RW D (fun q => s.heap.size ≤ q) s ads shp I' A' H' locs' → W p l e room_1 s m #[Value.ref b] below meth c H' locs' 600000 7302250 (lw_Z below #[Value.ref b] s) (F0 m 580 a [])) : W p l e room_1 s m #[Value.ref b] below meth c H locs 600000 7302250 (lw_Z below #[Value.ref b] s) (F0 m 490 a []) := by
  refine lv_aload_n hC.1 hC.2.1 dL_law_490 rfl h1 ?_
  refine l_ld hC hX hbl hL h0 h3 (k := 1) hR (by omega) dL_law_491 dL_law_492 dL_law_493 rfl dL_law_494 dL_law_495 ?_
  refine l_ld hC hX hbl hL h0 h3 (k := 2) hR (by omega) dL_law_496 dL_law_497 dL_law_498 rfl dL_law_499 dL_law_500 ?_
  refine l_ld hC hX hbl hL h0 h3 (k := 3) hR (by omega) dL_law_501 dL_law_502 dL_law_503 rfl dL_law_504 dL_law_505 ?_
  refine l_ld hC hX hbl hL h0 h3 (k := 4) hR (by omega) dL_law_506 dL_law_507 dL_law_508 rfl dL_law_509 dL_law_510 ?_
  refine w_callV hC (c_X8_point l D ads I A (xs (i + 1)) (xs (i + 2)) (xs (i + 3)) (xs (i + 4)) hB.1) dL_law_511 nm_X8_point rfl rfl wl_L_74 wi_X8_point ws_X8_point wn_X8 wc_X8_point ⟨by decide, by decide⟩ (as := [.inl (xs (i + 1)), .inl (xs (i + 2)), .inl (xs (i + 3)), .inl (xs (i + 4))]) (rest := []) rfl (Nat.le_of_ble_eq_true rfl) ⟨Nat.le_refl _, Nat.le_refl _⟩ hR ha (k_qJ (fun v1 I1 A1 hp H1 locs1 hR1 => ?_))
  obtain ⟨e1, s1, x1, hi1⟩ := hp
  obtain ⟨m1, ms1⟩ := hB.2.1.hi hi1
  refine lv_aload_n hC.1 hC.2.1 dL_law_514 rfl h2 ?_
  refine l_ld hC hX hbl hL h0 h3 (k := 1) hR1 (by omega) dL_law_515 dL_law_516 dL_law_517 rfl dL_law_518 dL_law_519 ?_
  refine l_ld hC hX hbl hL h0 h3 (k := 2) hR1 (by omega) dL_law_520 dL_law_521 dL_law_522 rfl dL_law_523 dL_law_524 ?_
  refine l_ld hC hX hbl hL h0 h3 (k := 3) hR1 (by omega) dL_law_525 dL_law_526 dL_law_527 rfl dL_law_528 dL_law_529 ?_
  refine l_ld hC hX hbl hL h0 h3 (k := 4) hR1 (by omega) dL_law_530 dL_law_531 dL_law_532 rfl dL_law_533 dL_law_534 ?_
  refine w_callV hC (c_X9_point l D ads I1 A1 (xs (i + 1)) (xs (i + 2)) (xs (i + 3)) (xs (i + 4)) m1) dL_law_535 nm_X9_point rfl rfl wl_L_78 wi_X9_point ws_X9_point wn_X9 wc_X9_point ⟨by decide, by decide⟩ (as := [.inl (xs (i + 1)), .inl (xs (i + 2)), .inl (xs (i + 3)), .inl (xs (i + 4))]) (rest := [.int v1]) rfl (Nat.le_of_ble_eq_true rfl) ⟨Nat.le_refl _, Nat.le_refl _⟩ hR1 ha (k_qJ (fun v2 I2 A2 hp H2 locs2 hR2 => ?_))
  obtain ⟨e2, s2, mo2, lo2⟩ := hp
  obtain ⟨x2, xs2⟩ := x1.lo lo2
  have hB2 : BOK I2 A2 := ⟨x2, mo2, by rw [xs2, s1, s2, ms1, hB.2.2]⟩
  show W p l e room_1 s m #[Value.ref b] below meth c H2 locs2 600000 7302250 (lw_Z below #[Value.ref b] s) (F0 m 538 a [.int v2, .int v1])
  exact lv_icmp_eq hC.1 hC.2.1 dL_law_538 (tgt := 580) (by decide) (fun _ => nx I2 A2 H2 locs2 hB2 hR2) (fun h => absurd (by first | rw [e1, e2, ms1, hB.2.2] | rw [e1, e2]) h)
set_option maxHeartbeats 2000000 in
theorem la_15 (hC : LCX p s m meth c b) (hX : va_X b L xs s s.heap) (hbl : b < s.heap.size) (hL : L ≤ 2560) {i : Nat} (hi : i + 5 ≤ L) (ha : a.size = 4) (h0 : a[0]? = some (.val (.ref b))) (h1 : a[1]? = some (.val (.ref (adr ads 0)))) (h2 : a[2]? = some (.val (.ref (adr ads 96)))) (h3 : a[3]? = some (.val (.int (nI i)))) (hB : BOK I A) (hR : RW D (fun q => s.heap.size ≤ q) s ads shp I A H locs)
    (nx : ∀ I' A' H' locs', BOK I' A' → RW D (fun q => s.heap.size ≤ q) s ads shp I' A' H' locs' → W p l e room_1 s m #[Value.ref b] below meth c H' locs' 600000 7302250 (lw_Z below #[Value.ref b] s) (F0 m 580 a [])) : W p l e room_1 s m #[Value.ref b] below meth c H locs 600000 7302250 (lw_Z below #[Value.ref b] s) (F0 m 543 a []) := by
  refine lv_aload_n hC.1 hC.2.1 dL_law_543 rfl h1 ?_
  refine w_callV hC (c_X8_keep l D ads I A  hB.1) dL_law_544 nm_X8_keep rfl rfl wl_L_79 wi_X8_keep ws_X8_keep wn_X8 wc_X8_keep ⟨by decide, by decide⟩ (as := []) (rest := []) rfl (Nat.le_of_ble_eq_true rfl) ⟨Nat.le_refl _, Nat.le_refl _⟩ hR ha (k_qJ (fun v1 I1 A1 hp H1 locs1 hR1 => ?_))
  obtain ⟨e1, s1, x1, hi1⟩ := hp
  obtain ⟨m1, ms1⟩ := hB.2.1.hi hi1
  refine lv_aload_n hC.1 hC.2.1 dL_law_547 rfl h2 ?_
  refine w_callV hC (c_X9_keep l D ads I1 A1  m1) dL_law_548 nm_X9_keep rfl rfl wl_L_83 wi_X9_keep ws_X9_keep wn_X9 wc_X9_keep ⟨by decide, by decide⟩ (as := []) (rest := [.int v1]) rfl (Nat.le_of_ble_eq_true rfl) ⟨Nat.le_refl _, Nat.le_refl _⟩ hR1 ha (k_qJ (fun v2 I2 A2 hp H2 locs2 hR2 => ?_))
  obtain ⟨e2, s2, mo2, lo2⟩ := hp
  obtain ⟨x2, xs2⟩ := x1.lo lo2
  have hB2 : BOK I2 A2 := ⟨x2, mo2, by rw [xs2, s1, s2, ms1, hB.2.2]⟩
  show W p l e room_1 s m #[Value.ref b] below meth c H2 locs2 600000 7302250 (lw_Z below #[Value.ref b] s) (F0 m 551 a [.int v2, .int v1])
  exact lv_icmp_eq hC.1 hC.2.1 dL_law_551 (tgt := 580) (by decide) (fun _ => nx I2 A2 H2 locs2 hB2 hR2) (fun h => absurd (by first | rw [e1, e2, ms1, hB.2.2] | rw [e1, e2]) h)
set_option maxHeartbeats 2000000 in
theorem la_16 (hC : LCX p s m meth c b) (hX : va_X b L xs s s.heap) (hbl : b < s.heap.size) (hL : L ≤ 2560) {i : Nat} (hi : i + 5 ≤ L) (ha : a.size = 4) (h0 : a[0]? = some (.val (.ref b))) (h1 : a[1]? = some (.val (.ref (adr ads 0)))) (h2 : a[2]? = some (.val (.ref (adr ads 96)))) (h3 : a[3]? = some (.val (.int (nI i)))) (hB : BOK I A) (hR : RW D (fun q => s.heap.size ≤ q) s ads shp I A H locs)
    (nx : ∀ I' A' H' locs', BOK I' A' → RW D (fun q => s.heap.size ≤ q) s ads shp I' A' H' locs' → W p l e room_1 s m #[Value.ref b] below meth c H' locs' 600000 7302250 (lw_Z below #[Value.ref b] s) (F0 m 580 a [])) : W p l e room_1 s m #[Value.ref b] below meth c H locs 600000 7302250 (lw_Z below #[Value.ref b] s) (F0 m 556 a []) := by
  refine lv_aload_n hC.1 hC.2.1 dL_law_556 rfl h1 ?_
  refine w_callV hC (c_X8_forget l D ads I A  hB.1) dL_law_557 nm_X8_forget rfl rfl wl_L_84 wi_X8_forget ws_X8_forget wn_X8 wc_X8_forget ⟨by decide, by decide⟩ (as := []) (rest := []) rfl (Nat.le_of_ble_eq_true rfl) ⟨Nat.le_refl _, Nat.le_refl _⟩ hR ha (k_qV (fun I1 A1 hp H1 locs1 hR1 => ?_))
  obtain ⟨s1, x1, hi1⟩ := hp
  obtain ⟨m1, ms1⟩ := hB.2.1.hi hi1
  refine lv_aload_n hC.1 hC.2.1 dL_law_560 rfl h2 ?_
  refine w_callV hC (c_X9_forget l D ads I1 A1  m1) dL_law_561 nm_X9_forget rfl rfl wl_L_87 wi_X9_forget ws_X9_forget wn_X9 wc_X9_forget ⟨by decide, by decide⟩ (as := []) (rest := []) rfl (Nat.le_of_ble_eq_true rfl) ⟨Nat.le_refl _, Nat.le_refl _⟩ hR1 ha (k_qV (fun I2 A2 hp H2 locs2 hR2 => ?_))
  obtain ⟨s2, mo2, lo2⟩ := hp
  obtain ⟨x2, xs2⟩ := x1.lo lo2
  have hB2 : BOK I2 A2 := ⟨x2, mo2, by rw [xs2, s1, s2, ms1, hB.2.2]⟩
  exact lv_goto hC.1 hC.2.1 dL_law_564 (tgt := 580) (by decide) (nx I2 A2 H2 locs2 hB2 hR2)
set_option maxHeartbeats 2000000 in
theorem la_17 (hC : LCX p s m meth c b) (hX : va_X b L xs s s.heap) (hbl : b < s.heap.size) (hL : L ≤ 2560) {i : Nat} (hi : i + 5 ≤ L) (ha : a.size = 4) (h0 : a[0]? = some (.val (.ref b))) (h1 : a[1]? = some (.val (.ref (adr ads 0)))) (h2 : a[2]? = some (.val (.ref (adr ads 96)))) (h3 : a[3]? = some (.val (.int (nI i)))) (hB : BOK I A) (hR : RW D (fun q => s.heap.size ≤ q) s ads shp I A H locs)
    (nx : ∀ I' A' H' locs', BOK I' A' → RW D (fun q => s.heap.size ≤ q) s ads shp I' A' H' locs' → W p l e room_1 s m #[Value.ref b] below meth c H' locs' 600000 7302250 (lw_Z below #[Value.ref b] s) (F0 m 580 a [])) : W p l e room_1 s m #[Value.ref b] below meth c H locs 600000 7302250 (lw_Z below #[Value.ref b] s) (F0 m 567 a []) := by
  refine lv_aload_n hC.1 hC.2.1 dL_law_567 rfl h1 ?_
  refine w_callV hC (c_X8_orders l D ads I A  hB.1) dL_law_568 nm_X8_orders rfl rfl wl_L_88 wi_X8_orders ws_X8_orders wn_X8 wc_X8_orders ⟨by decide, by decide⟩ (as := []) (rest := []) rfl (Nat.le_of_ble_eq_true rfl) ⟨Nat.le_refl _, Nat.le_refl _⟩ hR ha (k_qJ (fun v1 I1 A1 hp H1 locs1 hR1 => ?_))
  obtain ⟨e1, s1, x1, hi1⟩ := hp
  obtain ⟨m1, ms1⟩ := hB.2.1.hi hi1
  refine lv_aload_n hC.1 hC.2.1 dL_law_571 rfl h2 ?_
  refine w_callV hC (c_X9_orders l D ads I1 A1  m1) dL_law_572 nm_X9_orders rfl rfl wl_L_91 wi_X9_orders ws_X9_orders wn_X9 wc_X9_orders ⟨by decide, by decide⟩ (as := []) (rest := [.int v1]) rfl (Nat.le_of_ble_eq_true rfl) ⟨Nat.le_refl _, Nat.le_refl _⟩ hR1 ha (k_qJ (fun v2 I2 A2 hp H2 locs2 hR2 => ?_))
  obtain ⟨e2, s2, mo2, lo2⟩ := hp
  obtain ⟨x2, xs2⟩ := x1.lo lo2
  have hB2 : BOK I2 A2 := ⟨x2, mo2, by rw [xs2, s1, s2, ms1, hB.2.2]⟩
  show W p l e room_1 s m #[Value.ref b] below meth c H2 locs2 600000 7302250 (lw_Z below #[Value.ref b] s) (F0 m 575 a [.int v2, .int v1])
  exact lv_icmp_eq hC.1 hC.2.1 dL_law_575 (tgt := 580) (by decide) (fun _ => nx I2 A2 H2 locs2 hB2 hR2) (fun h => absurd (by first | rw [e1, e2, ms1, hB.2.2] | rw [e1, e2]) h)
end LW
