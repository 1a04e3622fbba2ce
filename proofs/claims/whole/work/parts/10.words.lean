/-! words of the tables -/
theorem fl_X2_15 : fldw RX2 15 2 1 ∈ gtbl := gt_of (List.mem_append_right _ (List.mem_of_getElem? (i := 28) (by decide +kernel))) (by decide +kernel)
theorem nm_X8_arePlaces : nmOk yX8_arePlaces 2 := ⟨by decide +kernel, by decide +kernel, by decide +kernel⟩
theorem wt_X8_arePlaces : Cond.static yX8_arePlaces ∈ gtbl := gt_of (List.mem_append_right _ (List.mem_of_getElem? (i := 294) (by decide +kernel))) (by decide +kernel)
theorem wn_X8 : Cond.initialized RX8 ∈ gtbl := gt_of (List.mem_append_right _ (List.mem_of_getElem? (i := 1) (by decide +kernel))) (by decide +kernel)
theorem wc_X8_arePlaces : Cond.code yX8_arePlaces cX8_arePlaces 2 (some .boolean) ∈ gtbl := gt_of (List.mem_append_right _ (List.mem_of_getElem? (i := 295) (by decide +kernel))) (by decide +kernel)
theorem fl_X2_9 : fldw RX2 9 2 0 ∈ gtbl := gt_of (List.mem_append_right _ (List.mem_of_getElem? (i := 27) (by decide +kernel))) (by decide +kernel)
theorem fl_X9_7 : fldw RX9 7 9 1 ∈ gtbl := gt_of (List.mem_append_right _ (List.mem_of_getElem? (i := 691) (by decide +kernel))) (by decide +kernel)
