set_option maxRecDepth 40000 in
theorem mtL_eq : mtL = mg0 ++ (mg1 ++ (mg2 ++ (mg3 ++ (mg4 ++ (mg5 ++ (mg6 ++ (mg7 ++ [m_L_law]))))))) := rfl
theorem mg_need {mi : MI} (h : mi ∈ mg0 ++ (mg1 ++ (mg2 ++ (mg3 ++ (mg4 ++ (mg5 ++ (mg6 ++ (mg7)))))))) : ∀ w ∈ need mi, w ∈ lw_tbl ∧ goodWord w = true := by
  intro w hw
  rcases List.mem_append.mp h with h | h
  · exact good_of_GoodIn nd_g0 w (List.mem_flatMap.mpr ⟨mi, h, hw⟩)
  · rcases List.mem_append.mp h with h | h
    · exact good_of_GoodIn nd_g1 w (List.mem_flatMap.mpr ⟨mi, h, hw⟩)
    · rcases List.mem_append.mp h with h | h
      · exact good_of_GoodIn nd_g2 w (List.mem_flatMap.mpr ⟨mi, h, hw⟩)
      · rcases List.mem_append.mp h with h | h
        · exact good_of_GoodIn nd_g3 w (List.mem_flatMap.mpr ⟨mi, h, hw⟩)
        · rcases List.mem_append.mp h with h | h
          · exact good_of_GoodIn nd_g4 w (List.mem_flatMap.mpr ⟨mi, h, hw⟩)
          · rcases List.mem_append.mp h with h | h
            · exact good_of_GoodIn nd_g5 w (List.mem_flatMap.mpr ⟨mi, h, hw⟩)
            · rcases List.mem_append.mp h with h | h
              · exact good_of_GoodIn nd_g6 w (List.mem_flatMap.mpr ⟨mi, h, hw⟩)
              · exact good_of_GoodIn nd_g7 w (List.mem_flatMap.mpr ⟨mi, h, hw⟩)
set_option maxRecDepth 20000 in
theorem rows_all : ∀ mi ∈ mtL, ((mTb mi).all fun c => c.all (rowOK mi)) = true := List.forall_mem_cons.mpr ⟨rw_X0_init, List.forall_mem_cons.mpr ⟨rw_X0_clear, List.forall_mem_cons.mpr ⟨rw_X0_startFromAll, List.forall_mem_cons.mpr ⟨rw_X0_startFromPlane, List.forall_mem_cons.mpr ⟨rw_X0_cutByConstraintsOf, List.forall_mem_cons.mpr ⟨rw_X0_cutByAll, List.forall_mem_cons.mpr ⟨rw_X0_cut, List.forall_mem_cons.mpr ⟨rw_X0_cutLine, List.forall_mem_cons.mpr ⟨rw_X0_cutEdges, List.forall_mem_cons.mpr ⟨rw_X0_settle, List.forall_mem_cons.mpr ⟨rw_X0_dropIdle, List.forall_mem_cons.mpr ⟨rw_X0_sortEdges, List.forall_mem_cons.mpr ⟨rw_X0_isBefore, List.forall_mem_cons.mpr ⟨rw_X0_isRay, List.forall_mem_cons.mpr ⟨rw_X0_weight, List.forall_mem_cons.mpr ⟨rw_X0_rayCount, List.forall_mem_cons.mpr ⟨rw_X0_allow, List.forall_mem_cons.mpr ⟨rw_X0_allowAll, List.forall_mem_cons.mpr ⟨rw_X1_init, List.forall_mem_cons.mpr ⟨rw_X1_count, List.forall_mem_cons.mpr ⟨rw_X1_clear, List.forall_mem_cons.mpr ⟨rw_X1_at, List.forall_mem_cons.mpr ⟨rw_X1_write, List.forall_mem_cons.mpr ⟨rw_X1_add, List.forall_mem_cons.mpr ⟨rw_X1_copyFrom, List.forall_mem_cons.mpr ⟨rw_X1_remove, List.forall_mem_cons.mpr ⟨rw_X1_swap, List.forall_mem_cons.mpr ⟨rw_X1_negate, List.forall_mem_cons.mpr ⟨rw_X1_product, List.forall_mem_cons.mpr ⟨rw_X1_mix, List.forall_mem_cons.mpr ⟨rw_X1_clearColumn, List.forall_mem_cons.mpr ⟨rw_X1_firstWith, List.forall_mem_cons.mpr ⟨rw_X1_isWithin, List.forall_mem_cons.mpr ⟨rw_X2_init, List.forall_mem_cons.mpr ⟨rw_X2_clear, List.forall_mem_cons.mpr ⟨rw_X2_isEmpty, List.forall_mem_cons.mpr ⟨rw_X2_hasPoint, List.forall_mem_cons.mpr ⟨rw_X2_degree, List.forall_mem_cons.mpr ⟨rw_X2_climbs, List.forall_mem_cons.mpr ⟨rw_X2_countOf, List.forall_mem_cons.mpr ⟨rw_X2_cellOf, List.forall_mem_cons.mpr ⟨rw_X3_init, List.forall_mem_cons.mpr ⟨rw_X3_say, List.forall_mem_cons.mpr ⟨rw_X3_hush, List.forall_mem_cons.mpr ⟨rw_X3_set, List.forall_mem_cons.mpr ⟨rw_X3_constrain, List.forall_mem_cons.mpr ⟨rw_X3_generate, List.forall_mem_cons.mpr ⟨rw_X3_combine, List.forall_mem_cons.mpr ⟨rw_X3_map, List.forall_mem_cons.mpr ⟨rw_X3_maximum, List.forall_mem_cons.mpr ⟨rw_X3_greatest, List.forall_mem_cons.mpr ⟨rw_X3_has, List.forall_mem_cons.mpr ⟨rw_X3_includes, List.forall_mem_cons.mpr ⟨rw_X3_dimension, List.forall_mem_cons.mpr ⟨rw_X3_rows, List.forall_mem_cons.mpr ⟨rw_X3_row, List.forall_mem_cons.mpr ⟨rw_X3_shapeAt, List.forall_mem_cons.mpr ⟨rw_X3_requireNumbers, List.forall_mem_cons.mpr ⟨rw_X3_requireGenerator, List.forall_mem_cons.mpr ⟨rw_X3_isKind, List.forall_mem_cons.mpr ⟨rw_X3_keepDraft, List.forall_mem_cons.mpr ⟨rw_X3_cutBySums, List.forall_mem_cons.mpr ⟨rw_X3_cutByPointSums, List.forall_mem_cons.mpr ⟨rw_X3_cutByDirections, List.forall_mem_cons.mpr ⟨rw_X3_cutByImages, List.forall_mem_cons.mpr ⟨rw_X3_cutByImagesOf, List.forall_mem_cons.mpr ⟨rw_X3_cutByOrigins, List.forall_mem_cons.mpr ⟨rw_X3_cutByOriginsOf, List.forall_mem_cons.mpr ⟨rw_X3_finishFromGenerators, List.forall_mem_cons.mpr ⟨rw_X3_finishFromConstraints, List.forall_mem_cons.mpr ⟨rw_X3_requireSmall, List.forall_mem_cons.mpr ⟨rw_X3_requirePlain, List.forall_mem_cons.mpr ⟨rw_X3_keepGreatest, List.forall_mem_cons.mpr ⟨rw_X3_commonDivisor, List.forall_mem_cons.mpr ⟨rw_X4_init, List.forall_mem_cons.mpr ⟨rw_X4_thrown, List.forall_mem_cons.mpr ⟨rw_X4_fail, List.forall_mem_cons.mpr ⟨rw_X4_isSlot, List.forall_mem_cons.mpr ⟨rw_X4_say, List.forall_mem_cons.mpr ⟨rw_X4_hush, List.forall_mem_cons.mpr ⟨rw_X4_divisor, List.forall_mem_cons.mpr ⟨rw_X4_lessen, List.forall_mem_cons.mpr ⟨rw_X4_dot, List.forall_mem_cons.mpr ⟨rw_X4_cross, List.forall_mem_cons.mpr ⟨rw_X4_keep, List.forall_mem_cons.mpr ⟨rw_X4_turn, List.forall_mem_cons.mpr ⟨rw_X4_offer, List.forall_mem_cons.mpr ⟨rw_X4_put, List.forall_mem_cons.mpr ⟨rw_X4_dual, List.forall_mem_cons.mpr ⟨rw_X4_oneWay, List.forall_mem_cons.mpr ⟨rw_X4_toConstraints, List.forall_mem_cons.mpr ⟨rw_X4_toGenerators, List.forall_mem_cons.mpr ⟨rw_X4_addGenerator, List.forall_mem_cons.mpr ⟨rw_X4_addConstraint, List.forall_mem_cons.mpr ⟨rw_X4_at, List.forall_mem_cons.mpr ⟨rw_X4_count, List.forall_mem_cons.mpr ⟨rw_X4_isEmpty, List.forall_mem_cons.mpr ⟨rw_X4_dimensionOf, List.forall_mem_cons.mpr ⟨rw_X4_takeGenerators, List.forall_mem_cons.mpr ⟨rw_X4_takeConstraints, List.forall_mem_cons.mpr ⟨rw_X4_begin, List.forall_mem_cons.mpr ⟨rw_X4_place, List.forall_mem_cons.mpr ⟨rw_X4_make, List.forall_mem_cons.mpr ⟨rw_X4_pivot, List.forall_mem_cons.mpr ⟨rw_X4_clear, List.forall_mem_cons.mpr ⟨rw_X4_isTight, List.forall_mem_cons.mpr ⟨rw_X4_load, List.forall_mem_cons.mpr ⟨rw_X4_rectify, List.forall_mem_cons.mpr ⟨rw_X4_flatten, List.forall_mem_cons.mpr ⟨rw_X4_settle, List.forall_mem_cons.mpr ⟨rw_X4_makePoint, List.forall_mem_cons.mpr ⟨rw_X4_cutsOut, List.forall_mem_cons.mpr ⟨rw_X4_addInequality, List.forall_mem_cons.mpr ⟨rw_X4_makeLines, List.forall_mem_cons.mpr ⟨rw_X4_makeAcross, List.forall_mem_cons.mpr ⟨rw_X4_makeEnds, List.forall_mem_cons.mpr ⟨rw_X4_isEnd, List.forall_mem_cons.mpr ⟨rw_X4_isAfter, List.forall_mem_cons.mpr ⟨rw_X4_sort, List.forall_mem_cons.mpr ⟨rw_X4_fault, List.forall_mem_cons.mpr ⟨rw_X4_store, List.forall_mem_cons.mpr ⟨rw_X4_hasPoint, List.forall_mem_cons.mpr ⟨rw_X4_ofConstraints, List.forall_mem_cons.mpr ⟨rw_X4_ofGenerators, List.forall_mem_cons.mpr ⟨rw_X4_drop, List.forall_mem_cons.mpr ⟨rw_X4_set, List.forall_mem_cons.mpr ⟨rw_X4_answer, List.forall_mem_cons.mpr ⟨rw_X4_constrain, List.forall_mem_cons.mpr ⟨rw_X4_generate, List.forall_mem_cons.mpr ⟨rw_X4_takeSums, List.forall_mem_cons.mpr ⟨rw_X4_combine, List.forall_mem_cons.mpr ⟨rw_X4_takeMapped, List.forall_mem_cons.mpr ⟨rw_X4_takeMappedBack, List.forall_mem_cons.mpr ⟨rw_X4_map, List.forall_mem_cons.mpr ⟨rw_X4_maximum, List.forall_mem_cons.mpr ⟨rw_X4_greatest, List.forall_mem_cons.mpr ⟨rw_X4_holds, List.forall_mem_cons.mpr ⟨rw_X4_has, List.forall_mem_cons.mpr ⟨rw_X4_includes, List.forall_mem_cons.mpr ⟨rw_X4_dimension, List.forall_mem_cons.mpr ⟨rw_X4_isKind, List.forall_mem_cons.mpr ⟨rw_X4_rows, List.forall_mem_cons.mpr ⟨rw_X4_row, List.forall_mem_cons.mpr ⟨rw_J13_compare_74951, List.forall_mem_cons.mpr ⟨rw_L_say, List.forall_mem_cons.mpr ⟨rw_L_set, List.forall_mem_cons.mpr ⟨rw_L_constrain, List.forall_mem_cons.mpr ⟨rw_L_generate, List.forall_mem_cons.mpr ⟨rw_L_combine, List.forall_mem_cons.mpr ⟨rw_L_map, List.forall_mem_cons.mpr ⟨rw_L_maximum, List.forall_mem_cons.mpr ⟨rw_L_greatest, List.forall_mem_cons.mpr ⟨rw_L_has, List.forall_mem_cons.mpr ⟨rw_L_includes, List.forall_mem_cons.mpr ⟨rw_L_dimension, List.forall_mem_cons.mpr ⟨rw_L_rows, List.forall_mem_cons.mpr ⟨rw_L_row, List.forall_mem_cons.mpr ⟨rw_L_law, fun _ h => absurd h List.not_mem_nil⟩⟩⟩⟩⟩⟩⟩⟩⟩⟩⟩⟩⟩⟩⟩⟩⟩⟩⟩⟩⟩⟩⟩⟩⟩⟩⟩⟩⟩⟩⟩⟩⟩⟩⟩⟩⟩⟩⟩⟩⟩⟩⟩⟩⟩⟩⟩⟩⟩⟩⟩⟩⟩⟩⟩⟩⟩⟩⟩⟩⟩⟩⟩⟩⟩⟩⟩⟩⟩⟩⟩⟩⟩⟩⟩⟩⟩⟩⟩⟩⟩⟩⟩⟩⟩⟩⟩⟩⟩⟩⟩⟩⟩⟩⟩⟩⟩⟩⟩⟩⟩⟩⟩⟩⟩⟩⟩⟩⟩⟩⟩⟩⟩⟩⟩⟩⟩⟩⟩⟩⟩⟩⟩⟩⟩⟩⟩⟩⟩⟩⟩⟩⟩⟩⟩⟩⟩⟩⟩⟩⟩⟩⟩⟩⟩⟩⟩⟩⟩⟩⟩⟩⟩⟩⟩⟩⟩⟩
theorem need_sub {mi : MI} {P : Cond → Prop} (h : ∀ w ∈ need mi, P w) : ∀ w ∈ needB mi, P w := fun w hw => h w (List.mem_append_right _ hw)
set_option maxRecDepth 40000 in
theorem tbl_ok : TblOK := by
  have hB : ∀ mi ∈ mtL, ∀ w ∈ needB mi, w ∈ lw_tbl ∧ goodWord w = true := by
    intro mi hmi
    rw [mtL_eq] at hmi
    by_cases h0 : mi ∈ mg0 ++ (mg1 ++ (mg2 ++ (mg3 ++ (mg4 ++ (mg5 ++ (mg6 ++ (mg7)))))))
    · exact need_sub (mg_need h0)
    · have h1 : mi = m_L_law := by
        simp only [List.mem_append, List.mem_singleton] at hmi h0
        grind
      subst h1
      exact good_of_GoodIn nd_L_law
  refine ⟨fun mi hmi => ⟨hB mi hmi, rows_all mi hmi, List.all_eq_true.mp all_fl mi hmi, List.all_eq_true.mp all_nm mi hmi, List.all_eq_true.mp all_th mi hmi⟩, ?_, ?_, ?_⟩
  · intro k mj hk hmj
    refine mg_need ?_
    have h1 := nth_get hmj
    rw [mtL_eq] at h1
    have h2 : (mg0 ++ (mg1 ++ (mg2 ++ (mg3 ++ (mg4 ++ (mg5 ++ (mg6 ++ (mg7))))))))[k]? = some mj := by
      rw [show (mg0 ++ (mg1 ++ (mg2 ++ (mg3 ++ (mg4 ++ (mg5 ++ (mg6 ++ (mg7 ++ [m_L_law])))))))) = (mg0 ++ (mg1 ++ (mg2 ++ (mg3 ++ (mg4 ++ (mg5 ++ (mg6 ++ (mg7)))))))) ++ [m_L_law] from rfl] at h1
      rw [List.getElem?_append_left (show k < 157 from hk)] at h1
      exact h1
    exact List.mem_of_getElem? h2
  · intro ci h
    match ci, h with
    | 0, _ => exact good_of_GoodIn lay_0
    | 1, _ => exact good_of_GoodIn lay_1
    | 2, _ => exact good_of_GoodIn lay_2
    | 3, _ => exact good_of_GoodIn lay_3
    | 4, _ => exact good_of_GoodIn lay_4
  · intro t ht
    have h1 : ([FieldType.int, .long, .boolean].all fun t => decide (Cond.arrayClass t ∈ lw_tbl)) = true := by decide +kernel
    simpa using List.all_eq_true.mp h1 t ht
theorem tx_0 : ((atE 0).filter goodWord).all (fun w => decide (w ∈ lw_tbl)) = true := by decide +kernel
theorem tx_1 : ((atE 1).filter goodWord).all (fun w => decide (w ∈ lw_tbl)) = true := by decide +kernel
theorem tx_2 : ((atE 2).filter goodWord).all (fun w => decide (w ∈ lw_tbl)) = true := by decide +kernel
theorem tx_3 : ((atE 3).filter goodWord).all (fun w => decide (w ∈ lw_tbl)) = true := by decide +kernel
theorem tx_4 : ((atE 4).filter goodWord).all (fun w => decide (w ∈ lw_tbl)) = true := by decide +kernel
theorem tbl_x : TblX := by
  intro E hE w hw
  have h : ((atE E).filter goodWord).all (fun w => decide (w ∈ lw_tbl)) = true := by
    match E, hE with
    | 0, _ => exact tx_0
    | 1, _ => exact tx_1
    | 2, _ => exact tx_2
    | 3, _ => exact tx_3
    | 4, _ => exact tx_4
  simpa using List.all_eq_true.mp h w hw
theorem claim_of_law (h : PureLaw) : Claimed_1_1 ∧ Claimed_1_2 := claim_of_pure tbl_ok tbl_x h
