theorem rw_X0_init : (t_X0_init.all fun c => c.all (rowOK m_X0_init)) = true := by decide +kernel
theorem rw_X0_clear : (t_X0_clear.all fun c => c.all (rowOK m_X0_clear)) = true := by decide +kernel
theorem rw_X0_startFromAll : (t_X0_startFromAll.all fun c => c.all (rowOK m_X0_startFromAll)) = true := by decide +kernel
theorem rw_X0_startFromPlane : (t_X0_startFromPlane.all fun c => c.all (rowOK m_X0_startFromPlane)) = true := by decide +kernel
theorem rw_X0_cutByConstraintsOf : (t_X0_cutByConstraintsOf.all fun c => c.all (rowOK m_X0_cutByConstraintsOf)) = true := by decide +kernel
theorem rw_X0_cutByAll : (t_X0_cutByAll.all fun c => c.all (rowOK m_X0_cutByAll)) = true := by decide +kernel
theorem rw_X0_cut : (t_X0_cut.all fun c => c.all (rowOK m_X0_cut)) = true := by decide +kernel
theorem rw_X0_cutLine_0 : (((t_X0_cutLine.drop 0).take 6).all fun c => c.all (rowOK m_X0_cutLine)) = true := by decide +kernel
theorem rw_X0_cutLine_6 : (((t_X0_cutLine.drop 6).take 6).all fun c => c.all (rowOK m_X0_cutLine)) = true := by decide +kernel
theorem rw_X0_cutLine_12 : (((t_X0_cutLine.drop 12).take 6).all fun c => c.all (rowOK m_X0_cutLine)) = true := by decide +kernel
theorem rw_X0_cutLine : (t_X0_cutLine.all fun c => c.all (rowOK m_X0_cutLine)) = true := by
  rw [show t_X0_cutLine = (t_X0_cutLine.drop 0).take 6 ++ (t_X0_cutLine.drop 6).take 6 ++ (t_X0_cutLine.drop 12).take 6 from rfl]
  simp only [List.all_append, rw_X0_cutLine_0, rw_X0_cutLine_6, rw_X0_cutLine_12, Bool.and_self]
theorem rw_X0_cutEdges_0 : (((t_X0_cutEdges.drop 0).take 6).all fun c => c.all (rowOK m_X0_cutEdges)) = true := by decide +kernel
theorem rw_X0_cutEdges_6 : (((t_X0_cutEdges.drop 6).take 6).all fun c => c.all (rowOK m_X0_cutEdges)) = true := by decide +kernel
theorem rw_X0_cutEdges_12 : (((t_X0_cutEdges.drop 12).take 6).all fun c => c.all (rowOK m_X0_cutEdges)) = true := by decide +kernel
theorem rw_X0_cutEdges : (t_X0_cutEdges.all fun c => c.all (rowOK m_X0_cutEdges)) = true := by
  rw [show t_X0_cutEdges = (t_X0_cutEdges.drop 0).take 6 ++ (t_X0_cutEdges.drop 6).take 6 ++ (t_X0_cutEdges.drop 12).take 6 from rfl]
  simp only [List.all_append, rw_X0_cutEdges_0, rw_X0_cutEdges_6, rw_X0_cutEdges_12, Bool.and_self]
theorem rw_X0_settle : (t_X0_settle.all fun c => c.all (rowOK m_X0_settle)) = true := by decide +kernel
theorem rw_X0_dropIdle : (t_X0_dropIdle.all fun c => c.all (rowOK m_X0_dropIdle)) = true := by decide +kernel
theorem rw_X0_sortEdges : (t_X0_sortEdges.all fun c => c.all (rowOK m_X0_sortEdges)) = true := by decide +kernel
theorem rw_X0_isBefore_0 : (((t_X0_isBefore.drop 0).take 6).all fun c => c.all (rowOK m_X0_isBefore)) = true := by decide +kernel
theorem rw_X0_isBefore_6 : (((t_X0_isBefore.drop 6).take 6).all fun c => c.all (rowOK m_X0_isBefore)) = true := by decide +kernel
theorem rw_X0_isBefore : (t_X0_isBefore.all fun c => c.all (rowOK m_X0_isBefore)) = true := by
  rw [show t_X0_isBefore = (t_X0_isBefore.drop 0).take 6 ++ (t_X0_isBefore.drop 6).take 6 from rfl]
  simp only [List.all_append, rw_X0_isBefore_0, rw_X0_isBefore_6, Bool.and_self]
theorem rw_X0_isRay : (t_X0_isRay.all fun c => c.all (rowOK m_X0_isRay)) = true := by decide +kernel
theorem rw_X0_weight : (t_X0_weight.all fun c => c.all (rowOK m_X0_weight)) = true := by decide +kernel
theorem rw_X0_rayCount : (t_X0_rayCount.all fun c => c.all (rowOK m_X0_rayCount)) = true := by decide +kernel
theorem rw_X0_allow : (t_X0_allow.all fun c => c.all (rowOK m_X0_allow)) = true := by decide +kernel
theorem rw_X0_allowAll_0 : (((t_X0_allowAll.drop 0).take 6).all fun c => c.all (rowOK m_X0_allowAll)) = true := by decide +kernel
theorem rw_X0_allowAll_6 : (((t_X0_allowAll.drop 6).take 6).all fun c => c.all (rowOK m_X0_allowAll)) = true := by decide +kernel
theorem rw_X0_allowAll : (t_X0_allowAll.all fun c => c.all (rowOK m_X0_allowAll)) = true := by
  rw [show t_X0_allowAll = (t_X0_allowAll.drop 0).take 6 ++ (t_X0_allowAll.drop 6).take 6 from rfl]
  simp only [List.all_append, rw_X0_allowAll_0, rw_X0_allowAll_6, Bool.and_self]
theorem rw_X1_init : (t_X1_init.all fun c => c.all (rowOK m_X1_init)) = true := by decide +kernel
theorem rw_X1_count : (t_X1_count.all fun c => c.all (rowOK m_X1_count)) = true := by decide +kernel
theorem rw_X1_clear : (t_X1_clear.all fun c => c.all (rowOK m_X1_clear)) = true := by decide +kernel
theorem rw_X1_at : (t_X1_at.all fun c => c.all (rowOK m_X1_at)) = true := by decide +kernel
theorem rw_X1_write : (t_X1_write.all fun c => c.all (rowOK m_X1_write)) = true := by decide +kernel
theorem rw_X1_add : (t_X1_add.all fun c => c.all (rowOK m_X1_add)) = true := by decide +kernel
theorem rw_X1_copyFrom : (t_X1_copyFrom.all fun c => c.all (rowOK m_X1_copyFrom)) = true := by decide +kernel
theorem rw_X1_remove : (t_X1_remove.all fun c => c.all (rowOK m_X1_remove)) = true := by decide +kernel
theorem rw_X1_swap : (t_X1_swap.all fun c => c.all (rowOK m_X1_swap)) = true := by decide +kernel
theorem rw_X1_negate : (t_X1_negate.all fun c => c.all (rowOK m_X1_negate)) = true := by decide +kernel
theorem rw_X1_product : (t_X1_product.all fun c => c.all (rowOK m_X1_product)) = true := by decide +kernel
theorem rw_X1_mix : (t_X1_mix.all fun c => c.all (rowOK m_X1_mix)) = true := by decide +kernel
theorem rw_X1_clearColumn : (t_X1_clearColumn.all fun c => c.all (rowOK m_X1_clearColumn)) = true := by decide +kernel
theorem rw_X1_firstWith : (t_X1_firstWith.all fun c => c.all (rowOK m_X1_firstWith)) = true := by decide +kernel
theorem rw_X1_isWithin : (t_X1_isWithin.all fun c => c.all (rowOK m_X1_isWithin)) = true := by decide +kernel
theorem rw_X2_init : (t_X2_init.all fun c => c.all (rowOK m_X2_init)) = true := by decide +kernel
theorem rw_X2_clear : (t_X2_clear.all fun c => c.all (rowOK m_X2_clear)) = true := by decide +kernel
theorem rw_X2_isEmpty : (t_X2_isEmpty.all fun c => c.all (rowOK m_X2_isEmpty)) = true := by decide +kernel
theorem rw_X2_hasPoint : (t_X2_hasPoint.all fun c => c.all (rowOK m_X2_hasPoint)) = true := by decide +kernel
theorem rw_X2_degree : (t_X2_degree.all fun c => c.all (rowOK m_X2_degree)) = true := by decide +kernel
theorem rw_X2_climbs : (t_X2_climbs.all fun c => c.all (rowOK m_X2_climbs)) = true := by decide +kernel
theorem rw_X2_countOf : (t_X2_countOf.all fun c => c.all (rowOK m_X2_countOf)) = true := by decide +kernel
theorem rw_X2_cellOf : (t_X2_cellOf.all fun c => c.all (rowOK m_X2_cellOf)) = true := by decide +kernel
theorem rw_X3_init : (t_X3_init.all fun c => c.all (rowOK m_X3_init)) = true := by decide +kernel
theorem rw_X3_say : (t_X3_say.all fun c => c.all (rowOK m_X3_say)) = true := by decide +kernel
theorem rw_X3_hush : (t_X3_hush.all fun c => c.all (rowOK m_X3_hush)) = true := by decide +kernel
theorem rw_X3_set : (t_X3_set.all fun c => c.all (rowOK m_X3_set)) = true := by decide +kernel
theorem rw_X3_constrain : (t_X3_constrain.all fun c => c.all (rowOK m_X3_constrain)) = true := by decide +kernel
theorem rw_X3_generate_0 : (((t_X3_generate.drop 0).take 6).all fun c => c.all (rowOK m_X3_generate)) = true := by decide +kernel
theorem rw_X3_generate_6 : (((t_X3_generate.drop 6).take 6).all fun c => c.all (rowOK m_X3_generate)) = true := by decide +kernel
theorem rw_X3_generate : (t_X3_generate.all fun c => c.all (rowOK m_X3_generate)) = true := by
  rw [show t_X3_generate = (t_X3_generate.drop 0).take 6 ++ (t_X3_generate.drop 6).take 6 from rfl]
  simp only [List.all_append, rw_X3_generate_0, rw_X3_generate_6, Bool.and_self]
theorem rw_X3_combine_0 : (((t_X3_combine.drop 0).take 6).all fun c => c.all (rowOK m_X3_combine)) = true := by decide +kernel
theorem rw_X3_combine_6 : (((t_X3_combine.drop 6).take 6).all fun c => c.all (rowOK m_X3_combine)) = true := by decide +kernel
theorem rw_X3_combine : (t_X3_combine.all fun c => c.all (rowOK m_X3_combine)) = true := by
  rw [show t_X3_combine = (t_X3_combine.drop 0).take 6 ++ (t_X3_combine.drop 6).take 6 from rfl]
  simp only [List.all_append, rw_X3_combine_0, rw_X3_combine_6, Bool.and_self]
theorem rw_X3_map : (t_X3_map.all fun c => c.all (rowOK m_X3_map)) = true := by decide +kernel
theorem rw_X3_maximum : (t_X3_maximum.all fun c => c.all (rowOK m_X3_maximum)) = true := by decide +kernel
theorem rw_X3_greatest : (t_X3_greatest.all fun c => c.all (rowOK m_X3_greatest)) = true := by decide +kernel
theorem rw_X3_has : (t_X3_has.all fun c => c.all (rowOK m_X3_has)) = true := by decide +kernel
theorem rw_X3_includes : (t_X3_includes.all fun c => c.all (rowOK m_X3_includes)) = true := by decide +kernel
theorem rw_X3_dimension : (t_X3_dimension.all fun c => c.all (rowOK m_X3_dimension)) = true := by decide +kernel
theorem rw_X3_rows : (t_X3_rows.all fun c => c.all (rowOK m_X3_rows)) = true := by decide +kernel
theorem rw_X3_row : (t_X3_row.all fun c => c.all (rowOK m_X3_row)) = true := by decide +kernel
theorem rw_X3_shapeAt : (t_X3_shapeAt.all fun c => c.all (rowOK m_X3_shapeAt)) = true := by decide +kernel
theorem rw_X3_requireNumbers : (t_X3_requireNumbers.all fun c => c.all (rowOK m_X3_requireNumbers)) = true := by decide +kernel
theorem rw_X3_requireGenerator : (t_X3_requireGenerator.all fun c => c.all (rowOK m_X3_requireGenerator)) = true := by decide +kernel
theorem rw_X3_isKind : (t_X3_isKind.all fun c => c.all (rowOK m_X3_isKind)) = true := by decide +kernel
theorem rw_X3_keepDraft : (t_X3_keepDraft.all fun c => c.all (rowOK m_X3_keepDraft)) = true := by decide +kernel
theorem rw_X3_cutBySums : (t_X3_cutBySums.all fun c => c.all (rowOK m_X3_cutBySums)) = true := by decide +kernel
theorem rw_X3_cutByPointSums : (t_X3_cutByPointSums.all fun c => c.all (rowOK m_X3_cutByPointSums)) = true := by decide +kernel
theorem rw_X3_cutByDirections : (t_X3_cutByDirections.all fun c => c.all (rowOK m_X3_cutByDirections)) = true := by decide +kernel
theorem rw_X3_cutByImages : (t_X3_cutByImages.all fun c => c.all (rowOK m_X3_cutByImages)) = true := by decide +kernel
theorem rw_X3_cutByImagesOf_0 : (((t_X3_cutByImagesOf.drop 0).take 6).all fun c => c.all (rowOK m_X3_cutByImagesOf)) = true := by decide +kernel
theorem rw_X3_cutByImagesOf_6 : (((t_X3_cutByImagesOf.drop 6).take 6).all fun c => c.all (rowOK m_X3_cutByImagesOf)) = true := by decide +kernel
theorem rw_X3_cutByImagesOf : (t_X3_cutByImagesOf.all fun c => c.all (rowOK m_X3_cutByImagesOf)) = true := by
  rw [show t_X3_cutByImagesOf = (t_X3_cutByImagesOf.drop 0).take 6 ++ (t_X3_cutByImagesOf.drop 6).take 6 from rfl]
  simp only [List.all_append, rw_X3_cutByImagesOf_0, rw_X3_cutByImagesOf_6, Bool.and_self]
theorem rw_X3_cutByOrigins : (t_X3_cutByOrigins.all fun c => c.all (rowOK m_X3_cutByOrigins)) = true := by decide +kernel
theorem rw_X3_cutByOriginsOf_0 : (((t_X3_cutByOriginsOf.drop 0).take 6).all fun c => c.all (rowOK m_X3_cutByOriginsOf)) = true := by decide +kernel
theorem rw_X3_cutByOriginsOf_6 : (((t_X3_cutByOriginsOf.drop 6).take 6).all fun c => c.all (rowOK m_X3_cutByOriginsOf)) = true := by decide +kernel
theorem rw_X3_cutByOriginsOf : (t_X3_cutByOriginsOf.all fun c => c.all (rowOK m_X3_cutByOriginsOf)) = true := by
  rw [show t_X3_cutByOriginsOf = (t_X3_cutByOriginsOf.drop 0).take 6 ++ (t_X3_cutByOriginsOf.drop 6).take 6 from rfl]
  simp only [List.all_append, rw_X3_cutByOriginsOf_0, rw_X3_cutByOriginsOf_6, Bool.and_self]
theorem rw_X3_finishFromGenerators : (t_X3_finishFromGenerators.all fun c => c.all (rowOK m_X3_finishFromGenerators)) = true := by decide +kernel
theorem rw_X3_finishFromConstraints : (t_X3_finishFromConstraints.all fun c => c.all (rowOK m_X3_finishFromConstraints)) = true := by decide +kernel
theorem rw_X3_requireSmall : (t_X3_requireSmall.all fun c => c.all (rowOK m_X3_requireSmall)) = true := by decide +kernel
theorem rw_X3_requirePlain : (t_X3_requirePlain.all fun c => c.all (rowOK m_X3_requirePlain)) = true := by decide +kernel
theorem rw_X3_keepGreatest : (t_X3_keepGreatest.all fun c => c.all (rowOK m_X3_keepGreatest)) = true := by decide +kernel
theorem rw_X3_commonDivisor : (t_X3_commonDivisor.all fun c => c.all (rowOK m_X3_commonDivisor)) = true := by decide +kernel
theorem rw_X4_init : (t_X4_init.all fun c => c.all (rowOK m_X4_init)) = true := by decide +kernel
theorem rw_X4_thrown : (t_X4_thrown.all fun c => c.all (rowOK m_X4_thrown)) = true := by decide +kernel
theorem rw_X4_fail : (t_X4_fail.all fun c => c.all (rowOK m_X4_fail)) = true := by decide +kernel
theorem rw_X4_isSlot : (t_X4_isSlot.all fun c => c.all (rowOK m_X4_isSlot)) = true := by decide +kernel
theorem rw_X4_say : (t_X4_say.all fun c => c.all (rowOK m_X4_say)) = true := by decide +kernel
theorem rw_X4_hush : (t_X4_hush.all fun c => c.all (rowOK m_X4_hush)) = true := by decide +kernel
theorem rw_X4_divisor : (t_X4_divisor.all fun c => c.all (rowOK m_X4_divisor)) = true := by decide +kernel
theorem rw_X4_lessen : (t_X4_lessen.all fun c => c.all (rowOK m_X4_lessen)) = true := by decide +kernel
theorem rw_X4_dot : (t_X4_dot.all fun c => c.all (rowOK m_X4_dot)) = true := by decide +kernel
theorem rw_X4_cross_0 : (((t_X4_cross.drop 0).take 6).all fun c => c.all (rowOK m_X4_cross)) = true := by decide +kernel
theorem rw_X4_cross_6 : (((t_X4_cross.drop 6).take 6).all fun c => c.all (rowOK m_X4_cross)) = true := by decide +kernel
theorem rw_X4_cross : (t_X4_cross.all fun c => c.all (rowOK m_X4_cross)) = true := by
  rw [show t_X4_cross = (t_X4_cross.drop 0).take 6 ++ (t_X4_cross.drop 6).take 6 from rfl]
  simp only [List.all_append, rw_X4_cross_0, rw_X4_cross_6, Bool.and_self]
theorem rw_X4_keep : (t_X4_keep.all fun c => c.all (rowOK m_X4_keep)) = true := by decide +kernel
theorem rw_X4_turn : (t_X4_turn.all fun c => c.all (rowOK m_X4_turn)) = true := by decide +kernel
theorem rw_X4_offer : (t_X4_offer.all fun c => c.all (rowOK m_X4_offer)) = true := by decide +kernel
theorem rw_X4_put : (t_X4_put.all fun c => c.all (rowOK m_X4_put)) = true := by decide +kernel
theorem rw_X4_dual_0 : (((t_X4_dual.drop 0).take 6).all fun c => c.all (rowOK m_X4_dual)) = true := by decide +kernel
theorem rw_X4_dual_6 : (((t_X4_dual.drop 6).take 6).all fun c => c.all (rowOK m_X4_dual)) = true := by decide +kernel
theorem rw_X4_dual_12 : (((t_X4_dual.drop 12).take 6).all fun c => c.all (rowOK m_X4_dual)) = true := by decide +kernel
theorem rw_X4_dual : (t_X4_dual.all fun c => c.all (rowOK m_X4_dual)) = true := by
  rw [show t_X4_dual = (t_X4_dual.drop 0).take 6 ++ (t_X4_dual.drop 6).take 6 ++ (t_X4_dual.drop 12).take 6 from rfl]
  simp only [List.all_append, rw_X4_dual_0, rw_X4_dual_6, rw_X4_dual_12, Bool.and_self]
theorem rw_X4_oneWay : (t_X4_oneWay.all fun c => c.all (rowOK m_X4_oneWay)) = true := by decide +kernel
theorem rw_X4_toConstraints : (t_X4_toConstraints.all fun c => c.all (rowOK m_X4_toConstraints)) = true := by decide +kernel
theorem rw_X4_toGenerators : (t_X4_toGenerators.all fun c => c.all (rowOK m_X4_toGenerators)) = true := by decide +kernel
theorem rw_X4_addGenerator : (t_X4_addGenerator.all fun c => c.all (rowOK m_X4_addGenerator)) = true := by decide +kernel
theorem rw_X4_addConstraint : (t_X4_addConstraint.all fun c => c.all (rowOK m_X4_addConstraint)) = true := by decide +kernel
theorem rw_X4_at : (t_X4_at.all fun c => c.all (rowOK m_X4_at)) = true := by decide +kernel
theorem rw_X4_count : (t_X4_count.all fun c => c.all (rowOK m_X4_count)) = true := by decide +kernel
theorem rw_X4_isEmpty : (t_X4_isEmpty.all fun c => c.all (rowOK m_X4_isEmpty)) = true := by decide +kernel
theorem rw_X4_dimensionOf : (t_X4_dimensionOf.all fun c => c.all (rowOK m_X4_dimensionOf)) = true := by decide +kernel
theorem rw_X4_takeGenerators : (t_X4_takeGenerators.all fun c => c.all (rowOK m_X4_takeGenerators)) = true := by decide +kernel
theorem rw_X4_takeConstraints : (t_X4_takeConstraints.all fun c => c.all (rowOK m_X4_takeConstraints)) = true := by decide +kernel
theorem rw_X4_begin : (t_X4_begin.all fun c => c.all (rowOK m_X4_begin)) = true := by decide +kernel
theorem rw_X4_place : (t_X4_place.all fun c => c.all (rowOK m_X4_place)) = true := by decide +kernel
theorem rw_X4_make_0 : (((t_X4_make.drop 0).take 6).all fun c => c.all (rowOK m_X4_make)) = true := by decide +kernel
theorem rw_X4_make_6 : (((t_X4_make.drop 6).take 6).all fun c => c.all (rowOK m_X4_make)) = true := by decide +kernel
theorem rw_X4_make : (t_X4_make.all fun c => c.all (rowOK m_X4_make)) = true := by
  rw [show t_X4_make = (t_X4_make.drop 0).take 6 ++ (t_X4_make.drop 6).take 6 from rfl]
  simp only [List.all_append, rw_X4_make_0, rw_X4_make_6, Bool.and_self]
theorem rw_X4_pivot : (t_X4_pivot.all fun c => c.all (rowOK m_X4_pivot)) = true := by decide +kernel
theorem rw_X4_clear : (t_X4_clear.all fun c => c.all (rowOK m_X4_clear)) = true := by decide +kernel
theorem rw_X4_isTight : (t_X4_isTight.all fun c => c.all (rowOK m_X4_isTight)) = true := by decide +kernel
theorem rw_X4_load : (t_X4_load.all fun c => c.all (rowOK m_X4_load)) = true := by decide +kernel
theorem rw_X4_rectify : (t_X4_rectify.all fun c => c.all (rowOK m_X4_rectify)) = true := by decide +kernel
theorem rw_X4_flatten : (t_X4_flatten.all fun c => c.all (rowOK m_X4_flatten)) = true := by decide +kernel
theorem rw_X4_settle_0 : (((t_X4_settle.drop 0).take 6).all fun c => c.all (rowOK m_X4_settle)) = true := by decide +kernel
theorem rw_X4_settle_6 : (((t_X4_settle.drop 6).take 6).all fun c => c.all (rowOK m_X4_settle)) = true := by decide +kernel
theorem rw_X4_settle : (t_X4_settle.all fun c => c.all (rowOK m_X4_settle)) = true := by
  rw [show t_X4_settle = (t_X4_settle.drop 0).take 6 ++ (t_X4_settle.drop 6).take 6 from rfl]
  simp only [List.all_append, rw_X4_settle_0, rw_X4_settle_6, Bool.and_self]
theorem rw_X4_makePoint : (t_X4_makePoint.all fun c => c.all (rowOK m_X4_makePoint)) = true := by decide +kernel
theorem rw_X4_cutsOut_0 : (((t_X4_cutsOut.drop 0).take 6).all fun c => c.all (rowOK m_X4_cutsOut)) = true := by decide +kernel
theorem rw_X4_cutsOut_6 : (((t_X4_cutsOut.drop 6).take 6).all fun c => c.all (rowOK m_X4_cutsOut)) = true := by decide +kernel
theorem rw_X4_cutsOut : (t_X4_cutsOut.all fun c => c.all (rowOK m_X4_cutsOut)) = true := by
  rw [show t_X4_cutsOut = (t_X4_cutsOut.drop 0).take 6 ++ (t_X4_cutsOut.drop 6).take 6 from rfl]
  simp only [List.all_append, rw_X4_cutsOut_0, rw_X4_cutsOut_6, Bool.and_self]
theorem rw_X4_addInequality : (t_X4_addInequality.all fun c => c.all (rowOK m_X4_addInequality)) = true := by decide +kernel
theorem rw_X4_makeLines_0 : (((t_X4_makeLines.drop 0).take 6).all fun c => c.all (rowOK m_X4_makeLines)) = true := by decide +kernel
theorem rw_X4_makeLines_6 : (((t_X4_makeLines.drop 6).take 6).all fun c => c.all (rowOK m_X4_makeLines)) = true := by decide +kernel
theorem rw_X4_makeLines : (t_X4_makeLines.all fun c => c.all (rowOK m_X4_makeLines)) = true := by
  rw [show t_X4_makeLines = (t_X4_makeLines.drop 0).take 6 ++ (t_X4_makeLines.drop 6).take 6 from rfl]
  simp only [List.all_append, rw_X4_makeLines_0, rw_X4_makeLines_6, Bool.and_self]
theorem rw_X4_makeAcross_0 : (((t_X4_makeAcross.drop 0).take 6).all fun c => c.all (rowOK m_X4_makeAcross)) = true := by decide +kernel
theorem rw_X4_makeAcross_6 : (((t_X4_makeAcross.drop 6).take 6).all fun c => c.all (rowOK m_X4_makeAcross)) = true := by decide +kernel
theorem rw_X4_makeAcross_12 : (((t_X4_makeAcross.drop 12).take 6).all fun c => c.all (rowOK m_X4_makeAcross)) = true := by decide +kernel
theorem rw_X4_makeAcross_18 : (((t_X4_makeAcross.drop 18).take 6).all fun c => c.all (rowOK m_X4_makeAcross)) = true := by decide +kernel
theorem rw_X4_makeAcross : (t_X4_makeAcross.all fun c => c.all (rowOK m_X4_makeAcross)) = true := by
  rw [show t_X4_makeAcross = (t_X4_makeAcross.drop 0).take 6 ++ (t_X4_makeAcross.drop 6).take 6 ++ (t_X4_makeAcross.drop 12).take 6 ++ (t_X4_makeAcross.drop 18).take 6 from rfl]
  simp only [List.all_append, rw_X4_makeAcross_0, rw_X4_makeAcross_6, rw_X4_makeAcross_12, rw_X4_makeAcross_18, Bool.and_self]
theorem rw_X4_makeEnds : (t_X4_makeEnds.all fun c => c.all (rowOK m_X4_makeEnds)) = true := by decide +kernel
theorem rw_X4_isEnd_0 : (((t_X4_isEnd.drop 0).take 6).all fun c => c.all (rowOK m_X4_isEnd)) = true := by decide +kernel
theorem rw_X4_isEnd_6 : (((t_X4_isEnd.drop 6).take 6).all fun c => c.all (rowOK m_X4_isEnd)) = true := by decide +kernel
theorem rw_X4_isEnd : (t_X4_isEnd.all fun c => c.all (rowOK m_X4_isEnd)) = true := by
  rw [show t_X4_isEnd = (t_X4_isEnd.drop 0).take 6 ++ (t_X4_isEnd.drop 6).take 6 from rfl]
  simp only [List.all_append, rw_X4_isEnd_0, rw_X4_isEnd_6, Bool.and_self]
theorem rw_X4_isAfter_0 : (((t_X4_isAfter.drop 0).take 6).all fun c => c.all (rowOK m_X4_isAfter)) = true := by decide +kernel
theorem rw_X4_isAfter_6 : (((t_X4_isAfter.drop 6).take 6).all fun c => c.all (rowOK m_X4_isAfter)) = true := by decide +kernel
theorem rw_X4_isAfter : (t_X4_isAfter.all fun c => c.all (rowOK m_X4_isAfter)) = true := by
  rw [show t_X4_isAfter = (t_X4_isAfter.drop 0).take 6 ++ (t_X4_isAfter.drop 6).take 6 from rfl]
  simp only [List.all_append, rw_X4_isAfter_0, rw_X4_isAfter_6, Bool.and_self]
theorem rw_X4_sort_0 : (((t_X4_sort.drop 0).take 6).all fun c => c.all (rowOK m_X4_sort)) = true := by decide +kernel
theorem rw_X4_sort_6 : (((t_X4_sort.drop 6).take 6).all fun c => c.all (rowOK m_X4_sort)) = true := by decide +kernel
theorem rw_X4_sort : (t_X4_sort.all fun c => c.all (rowOK m_X4_sort)) = true := by
  rw [show t_X4_sort = (t_X4_sort.drop 0).take 6 ++ (t_X4_sort.drop 6).take 6 from rfl]
  simp only [List.all_append, rw_X4_sort_0, rw_X4_sort_6, Bool.and_self]
theorem rw_X4_fault : (t_X4_fault.all fun c => c.all (rowOK m_X4_fault)) = true := by decide +kernel
theorem rw_X4_store : (t_X4_store.all fun c => c.all (rowOK m_X4_store)) = true := by decide +kernel
theorem rw_X4_hasPoint : (t_X4_hasPoint.all fun c => c.all (rowOK m_X4_hasPoint)) = true := by decide +kernel
theorem rw_X4_ofConstraints : (t_X4_ofConstraints.all fun c => c.all (rowOK m_X4_ofConstraints)) = true := by decide +kernel
theorem rw_X4_ofGenerators : (t_X4_ofGenerators.all fun c => c.all (rowOK m_X4_ofGenerators)) = true := by decide +kernel
theorem rw_X4_drop : (t_X4_drop.all fun c => c.all (rowOK m_X4_drop)) = true := by decide +kernel
theorem rw_X4_set : (t_X4_set.all fun c => c.all (rowOK m_X4_set)) = true := by decide +kernel
theorem rw_X4_answer : (t_X4_answer.all fun c => c.all (rowOK m_X4_answer)) = true := by decide +kernel
theorem rw_X4_constrain : (t_X4_constrain.all fun c => c.all (rowOK m_X4_constrain)) = true := by decide +kernel
theorem rw_X4_generate_0 : (((t_X4_generate.drop 0).take 6).all fun c => c.all (rowOK m_X4_generate)) = true := by decide +kernel
theorem rw_X4_generate_6 : (((t_X4_generate.drop 6).take 6).all fun c => c.all (rowOK m_X4_generate)) = true := by decide +kernel
theorem rw_X4_generate : (t_X4_generate.all fun c => c.all (rowOK m_X4_generate)) = true := by
  rw [show t_X4_generate = (t_X4_generate.drop 0).take 6 ++ (t_X4_generate.drop 6).take 6 from rfl]
  simp only [List.all_append, rw_X4_generate_0, rw_X4_generate_6, Bool.and_self]
theorem rw_X4_takeSums_0 : (((t_X4_takeSums.drop 0).take 6).all fun c => c.all (rowOK m_X4_takeSums)) = true := by decide +kernel
theorem rw_X4_takeSums_6 : (((t_X4_takeSums.drop 6).take 6).all fun c => c.all (rowOK m_X4_takeSums)) = true := by decide +kernel
theorem rw_X4_takeSums_12 : (((t_X4_takeSums.drop 12).take 6).all fun c => c.all (rowOK m_X4_takeSums)) = true := by decide +kernel
theorem rw_X4_takeSums : (t_X4_takeSums.all fun c => c.all (rowOK m_X4_takeSums)) = true := by
  rw [show t_X4_takeSums = (t_X4_takeSums.drop 0).take 6 ++ (t_X4_takeSums.drop 6).take 6 ++ (t_X4_takeSums.drop 12).take 6 from rfl]
  simp only [List.all_append, rw_X4_takeSums_0, rw_X4_takeSums_6, rw_X4_takeSums_12, Bool.and_self]
theorem rw_X4_combine_0 : (((t_X4_combine.drop 0).take 6).all fun c => c.all (rowOK m_X4_combine)) = true := by decide +kernel
theorem rw_X4_combine_6 : (((t_X4_combine.drop 6).take 6).all fun c => c.all (rowOK m_X4_combine)) = true := by decide +kernel
theorem rw_X4_combine : (t_X4_combine.all fun c => c.all (rowOK m_X4_combine)) = true := by
  rw [show t_X4_combine = (t_X4_combine.drop 0).take 6 ++ (t_X4_combine.drop 6).take 6 from rfl]
  simp only [List.all_append, rw_X4_combine_0, rw_X4_combine_6, Bool.and_self]
theorem rw_X4_takeMapped_0 : (((t_X4_takeMapped.drop 0).take 6).all fun c => c.all (rowOK m_X4_takeMapped)) = true := by decide +kernel
theorem rw_X4_takeMapped_6 : (((t_X4_takeMapped.drop 6).take 6).all fun c => c.all (rowOK m_X4_takeMapped)) = true := by decide +kernel
theorem rw_X4_takeMapped : (t_X4_takeMapped.all fun c => c.all (rowOK m_X4_takeMapped)) = true := by
  rw [show t_X4_takeMapped = (t_X4_takeMapped.drop 0).take 6 ++ (t_X4_takeMapped.drop 6).take 6 from rfl]
  simp only [List.all_append, rw_X4_takeMapped_0, rw_X4_takeMapped_6, Bool.and_self]
theorem rw_X4_takeMappedBack_0 : (((t_X4_takeMappedBack.drop 0).take 6).all fun c => c.all (rowOK m_X4_takeMappedBack)) = true := by decide +kernel
theorem rw_X4_takeMappedBack_6 : (((t_X4_takeMappedBack.drop 6).take 6).all fun c => c.all (rowOK m_X4_takeMappedBack)) = true := by decide +kernel
theorem rw_X4_takeMappedBack : (t_X4_takeMappedBack.all fun c => c.all (rowOK m_X4_takeMappedBack)) = true := by
  rw [show t_X4_takeMappedBack = (t_X4_takeMappedBack.drop 0).take 6 ++ (t_X4_takeMappedBack.drop 6).take 6 from rfl]
  simp only [List.all_append, rw_X4_takeMappedBack_0, rw_X4_takeMappedBack_6, Bool.and_self]
theorem rw_X4_map : (t_X4_map.all fun c => c.all (rowOK m_X4_map)) = true := by decide +kernel
theorem rw_X4_maximum_0 : (((t_X4_maximum.drop 0).take 6).all fun c => c.all (rowOK m_X4_maximum)) = true := by decide +kernel
theorem rw_X4_maximum_6 : (((t_X4_maximum.drop 6).take 6).all fun c => c.all (rowOK m_X4_maximum)) = true := by decide +kernel
theorem rw_X4_maximum_12 : (((t_X4_maximum.drop 12).take 6).all fun c => c.all (rowOK m_X4_maximum)) = true := by decide +kernel
theorem rw_X4_maximum : (t_X4_maximum.all fun c => c.all (rowOK m_X4_maximum)) = true := by
  rw [show t_X4_maximum = (t_X4_maximum.drop 0).take 6 ++ (t_X4_maximum.drop 6).take 6 ++ (t_X4_maximum.drop 12).take 6 from rfl]
  simp only [List.all_append, rw_X4_maximum_0, rw_X4_maximum_6, rw_X4_maximum_12, Bool.and_self]
theorem rw_X4_greatest : (t_X4_greatest.all fun c => c.all (rowOK m_X4_greatest)) = true := by decide +kernel
theorem rw_X4_holds_0 : (((t_X4_holds.drop 0).take 6).all fun c => c.all (rowOK m_X4_holds)) = true := by decide +kernel
theorem rw_X4_holds_6 : (((t_X4_holds.drop 6).take 6).all fun c => c.all (rowOK m_X4_holds)) = true := by decide +kernel
theorem rw_X4_holds : (t_X4_holds.all fun c => c.all (rowOK m_X4_holds)) = true := by
  rw [show t_X4_holds = (t_X4_holds.drop 0).take 6 ++ (t_X4_holds.drop 6).take 6 from rfl]
  simp only [List.all_append, rw_X4_holds_0, rw_X4_holds_6, Bool.and_self]
theorem rw_X4_has : (t_X4_has.all fun c => c.all (rowOK m_X4_has)) = true := by decide +kernel
theorem rw_X4_includes : (t_X4_includes.all fun c => c.all (rowOK m_X4_includes)) = true := by decide +kernel
theorem rw_X4_dimension : (t_X4_dimension.all fun c => c.all (rowOK m_X4_dimension)) = true := by decide +kernel
theorem rw_X4_isKind : (t_X4_isKind.all fun c => c.all (rowOK m_X4_isKind)) = true := by decide +kernel
theorem rw_X4_rows : (t_X4_rows.all fun c => c.all (rowOK m_X4_rows)) = true := by decide +kernel
theorem rw_X4_row : (t_X4_row.all fun c => c.all (rowOK m_X4_row)) = true := by decide +kernel
theorem rw_J13_compare_74951 : (t_J13_compare_74951.all fun c => c.all (rowOK m_J13_compare_74951)) = true := by decide +kernel
theorem rw_L_say : (t_L_say.all fun c => c.all (rowOK m_L_say)) = true := by decide +kernel
theorem rw_L_set : (t_L_set.all fun c => c.all (rowOK m_L_set)) = true := by decide +kernel
theorem rw_L_constrain : (t_L_constrain.all fun c => c.all (rowOK m_L_constrain)) = true := by decide +kernel
theorem rw_L_generate : (t_L_generate.all fun c => c.all (rowOK m_L_generate)) = true := by decide +kernel
theorem rw_L_combine : (t_L_combine.all fun c => c.all (rowOK m_L_combine)) = true := by decide +kernel
theorem rw_L_map : (t_L_map.all fun c => c.all (rowOK m_L_map)) = true := by decide +kernel
theorem rw_L_maximum : (t_L_maximum.all fun c => c.all (rowOK m_L_maximum)) = true := by decide +kernel
theorem rw_L_greatest : (t_L_greatest.all fun c => c.all (rowOK m_L_greatest)) = true := by decide +kernel
theorem rw_L_has : (t_L_has.all fun c => c.all (rowOK m_L_has)) = true := by decide +kernel
theorem rw_L_includes : (t_L_includes.all fun c => c.all (rowOK m_L_includes)) = true := by decide +kernel
theorem rw_L_dimension : (t_L_dimension.all fun c => c.all (rowOK m_L_dimension)) = true := by decide +kernel
theorem rw_L_rows : (t_L_rows.all fun c => c.all (rowOK m_L_rows)) = true := by decide +kernel
theorem rw_L_row : (t_L_row.all fun c => c.all (rowOK m_L_row)) = true := by decide +kernel
theorem rw_L_law_0 : (((t_L_law.drop 0).take 6).all fun c => c.all (rowOK m_L_law)) = true := by decide +kernel
theorem rw_L_law_6 : (((t_L_law.drop 6).take 6).all fun c => c.all (rowOK m_L_law)) = true := by decide +kernel
theorem rw_L_law_12 : (((t_L_law.drop 12).take 6).all fun c => c.all (rowOK m_L_law)) = true := by decide +kernel
theorem rw_L_law_18 : (((t_L_law.drop 18).take 6).all fun c => c.all (rowOK m_L_law)) = true := by decide +kernel
theorem rw_L_law_24 : (((t_L_law.drop 24).take 6).all fun c => c.all (rowOK m_L_law)) = true := by decide +kernel
theorem rw_L_law_30 : (((t_L_law.drop 30).take 6).all fun c => c.all (rowOK m_L_law)) = true := by decide +kernel
theorem rw_L_law_36 : (((t_L_law.drop 36).take 6).all fun c => c.all (rowOK m_L_law)) = true := by decide +kernel
theorem rw_L_law_42 : (((t_L_law.drop 42).take 6).all fun c => c.all (rowOK m_L_law)) = true := by decide +kernel
theorem rw_L_law_48 : (((t_L_law.drop 48).take 6).all fun c => c.all (rowOK m_L_law)) = true := by decide +kernel
theorem rw_L_law_54 : (((t_L_law.drop 54).take 6).all fun c => c.all (rowOK m_L_law)) = true := by decide +kernel
theorem rw_L_law_60 : (((t_L_law.drop 60).take 6).all fun c => c.all (rowOK m_L_law)) = true := by decide +kernel
theorem rw_L_law_66 : (((t_L_law.drop 66).take 6).all fun c => c.all (rowOK m_L_law)) = true := by decide +kernel
theorem rw_L_law : (t_L_law.all fun c => c.all (rowOK m_L_law)) = true := by
  rw [show t_L_law = (t_L_law.drop 0).take 6 ++ (t_L_law.drop 6).take 6 ++ (t_L_law.drop 12).take 6 ++ (t_L_law.drop 18).take 6 ++ (t_L_law.drop 24).take 6 ++ (t_L_law.drop 30).take 6 ++ (t_L_law.drop 36).take 6 ++ (t_L_law.drop 42).take 6 ++ (t_L_law.drop 48).take 6 ++ (t_L_law.drop 54).take 6 ++ (t_L_law.drop 60).take 6 ++ (t_L_law.drop 66).take 6 from rfl]
  simp only [List.all_append, rw_L_law_0, rw_L_law_6, rw_L_law_12, rw_L_law_18, rw_L_law_24, rw_L_law_30, rw_L_law_36, rw_L_law_42, rw_L_law_48, rw_L_law_54, rw_L_law_60, rw_L_law_66, Bool.and_self]
