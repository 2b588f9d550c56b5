theorem cl_X0 : xCL 0 RX0 TX0 3 := by
  refine ⟨rfl, rfl, fun w hw => List.mem_filter.mpr ⟨?_, ?_⟩, tyX0_ok, nmX0, by decide +kernel⟩
  · have h : ∀ w ∈ u_ws RX0 TX0 3, w ∈ lw_tbl := by
      have e : u_ws RX0 TX0 3 = [219, 221, 223].filterMap (fun i => lw_tbl[i]?) := by decide +kernel
      intro w hw
      rw [e] at hw
      obtain ⟨i, -, hi⟩ := List.mem_filterMap.mp hw
      exact List.mem_of_getElem? hi
    exact h w hw
  · have h : (u_ws RX0 TX0 3).all goodWord = true := by decide +kernel
    exact List.all_eq_true.mp h w hw
theorem cl_X1 : xCL 1 RX1 TX1 14 := by
  refine ⟨rfl, rfl, fun w hw => List.mem_filter.mpr ⟨?_, ?_⟩, tyX1_ok, nmX1, by decide +kernel⟩
  · have h : ∀ w ∈ u_ws RX1 TX1 14, w ∈ lw_tbl := by
      have e : u_ws RX1 TX1 14 = [291, 293, 295, 297, 299, 301, 303, 305, 307, 309, 311, 313, 315, 317].filterMap (fun i => lw_tbl[i]?) := by decide +kernel
      intro w hw
      rw [e] at hw
      obtain ⟨i, -, hi⟩ := List.mem_filterMap.mp hw
      exact List.mem_of_getElem? hi
    exact h w hw
  · have h : (u_ws RX1 TX1 14).all goodWord = true := by decide +kernel
    exact List.all_eq_true.mp h w hw
theorem cl_X2 : xCL 2 RX2 TX2 6 := by
  refine ⟨rfl, rfl, fun w hw => List.mem_filter.mpr ⟨?_, ?_⟩, tyX2_ok, nmX2, by decide +kernel⟩
  · have h : ∀ w ∈ u_ws RX2 TX2 6, w ∈ lw_tbl := by
      have e : u_ws RX2 TX2 6 = [388, 390, 392, 394, 396, 398].filterMap (fun i => lw_tbl[i]?) := by decide +kernel
      intro w hw
      rw [e] at hw
      obtain ⟨i, -, hi⟩ := List.mem_filterMap.mp hw
      exact List.mem_of_getElem? hi
    exact h w hw
  · have h : (u_ws RX2 TX2 6).all goodWord = true := by decide +kernel
    exact List.all_eq_true.mp h w hw
theorem cl_X3 : xCL 3 RX3 TX3 3 := by
  refine ⟨rfl, rfl, fun w hw => List.mem_filter.mpr ⟨?_, ?_⟩, tyX3_ok, nmX3, by decide +kernel⟩
  · have h : ∀ w ∈ u_ws RX3 TX3 3, w ∈ lw_tbl := by
      have e : u_ws RX3 TX3 3 = [170, 172, 174].filterMap (fun i => lw_tbl[i]?) := by decide +kernel
      intro w hw
      rw [e] at hw
      obtain ⟨i, -, hi⟩ := List.mem_filterMap.mp hw
      exact List.mem_of_getElem? hi
    exact h w hw
  · have h : (u_ws RX3 TX3 3).all goodWord = true := by decide +kernel
    exact List.all_eq_true.mp h w hw
theorem cl_X4 : xCL 4 RX4 TX4 11 := by
  refine ⟨rfl, rfl, fun w hw => List.mem_filter.mpr ⟨?_, ?_⟩, tyX4_ok, nmX4, by decide +kernel⟩
  · have h : ∀ w ∈ u_ws RX4 TX4 11, w ∈ lw_tbl := by
      have e : u_ws RX4 TX4 11 = [252, 254, 256, 258, 260, 262, 264, 266, 268, 270, 272].filterMap (fun i => lw_tbl[i]?) := by decide +kernel
      intro w hw
      rw [e] at hw
      obtain ⟨i, -, hi⟩ := List.mem_filterMap.mp hw
      exact List.mem_of_getElem? hi
    exact h w hw
  · have h : (u_ws RX4 TX4 11).all goodWord = true := by decide +kernel
    exact List.all_eq_true.mp h w hw
theorem cl_X5 : xCL 5 RX5 TX5 4 := by
  refine ⟨rfl, rfl, fun w hw => List.mem_filter.mpr ⟨?_, ?_⟩, tyX5_ok, nmX5, by decide +kernel⟩
  · have h : ∀ w ∈ u_ws RX5 TX5 4, w ∈ lw_tbl := by
      have e : u_ws RX5 TX5 4 = [198, 200, 202, 204].filterMap (fun i => lw_tbl[i]?) := by decide +kernel
      intro w hw
      rw [e] at hw
      obtain ⟨i, -, hi⟩ := List.mem_filterMap.mp hw
      exact List.mem_of_getElem? hi
    exact h w hw
  · have h : (u_ws RX5 TX5 4).all goodWord = true := by decide +kernel
    exact List.all_eq_true.mp h w hw
theorem cl_X6 : xCL 6 RX6 TX6 6 := by
  refine ⟨rfl, rfl, fun w hw => List.mem_filter.mpr ⟨?_, ?_⟩, tyX6_ok, nmX6, by decide +kernel⟩
  · have h : ∀ w ∈ u_ws RX6 TX6 6, w ∈ lw_tbl := by
      have e : u_ws RX6 TX6 6 = [95, 97, 99, 101, 103, 105].filterMap (fun i => lw_tbl[i]?) := by decide +kernel
      intro w hw
      rw [e] at hw
      obtain ⟨i, -, hi⟩ := List.mem_filterMap.mp hw
      exact List.mem_of_getElem? hi
    exact h w hw
  · have h : (u_ws RX6 TX6 6).all goodWord = true := by decide +kernel
    exact List.all_eq_true.mp h w hw
theorem cl_X7 : xCL 7 RX7 TX7 9 := by
  refine ⟨rfl, rfl, fun w hw => List.mem_filter.mpr ⟨?_, ?_⟩, tyX7_ok, nmX7, by decide +kernel⟩
  · have h : ∀ w ∈ u_ws RX7 TX7 9, w ∈ lw_tbl := by
      have e : u_ws RX7 TX7 9 = [141, 143, 145, 147, 149, 151, 153, 155, 157].filterMap (fun i => lw_tbl[i]?) := by decide +kernel
      intro w hw
      rw [e] at hw
      obtain ⟨i, -, hi⟩ := List.mem_filterMap.mp hw
      exact List.mem_of_getElem? hi
    exact h w hw
  · have h : (u_ws RX7 TX7 9).all goodWord = true := by decide +kernel
    exact List.all_eq_true.mp h w hw
theorem cl_X8 : xCL 8 RX8 TX8 12 := by
  refine ⟨rfl, rfl, fun w hw => List.mem_filter.mpr ⟨?_, ?_⟩, tyX8_ok, nmX8, by decide +kernel⟩
  · have h : ∀ w ∈ u_ws RX8 TX8 12, w ∈ lw_tbl := by
      have e : u_ws RX8 TX8 12 = [346, 348, 350, 352, 354, 356, 358, 360, 362, 364, 366, 368].filterMap (fun i => lw_tbl[i]?) := by decide +kernel
      intro w hw
      rw [e] at hw
      obtain ⟨i, -, hi⟩ := List.mem_filterMap.mp hw
      exact List.mem_of_getElem? hi
    exact h w hw
  · have h : (u_ws RX8 TX8 12).all goodWord = true := by decide +kernel
    exact List.all_eq_true.mp h w hw
theorem cl_X9 : xCL 9 RX9 TX9 9 := by
  refine ⟨rfl, rfl, fun w hw => List.mem_filter.mpr ⟨?_, ?_⟩, tyX9_ok, nmX9, by decide +kernel⟩
  · have h : ∀ w ∈ u_ws RX9 TX9 9, w ∈ lw_tbl := by
      have e : u_ws RX9 TX9 9 = [410, 412, 414, 416, 418, 420, 422, 424, 426].filterMap (fun i => lw_tbl[i]?) := by decide +kernel
      intro w hw
      rw [e] at hw
      obtain ⟨i, -, hi⟩ := List.mem_filterMap.mp hw
      exact List.mem_of_getElem? hi
    exact h w hw
  · have h : (u_ws RX9 TX9 9).all goodWord = true := by decide +kernel
    exact List.all_eq_true.mp h w hw
theorem cl_X10 : xCL 10 RX10 TX10 51 := by
  refine ⟨rfl, rfl, fun w hw => List.mem_filter.mpr ⟨?_, ?_⟩, tyX10_ok, nmX10, by decide +kernel⟩
  · have h : ∀ w ∈ u_ws RX10 TX10 51, w ∈ lw_tbl := by
      have e : u_ws RX10 TX10 51 = [893, 895, 897, 899, 901, 903, 905, 907, 909, 911, 913, 915, 917, 919, 921, 923, 925, 927, 929, 931, 933, 935, 937, 939, 941, 943, 945, 947, 949, 951, 953, 955, 957, 959, 961, 963, 965, 967, 969, 971, 973, 975, 977, 979, 981, 983, 985, 987, 989, 991, 993].filterMap (fun i => lw_tbl[i]?) := by decide +kernel
      intro w hw
      rw [e] at hw
      obtain ⟨i, -, hi⟩ := List.mem_filterMap.mp hw
      exact List.mem_of_getElem? hi
    exact h w hw
  · have h : (u_ws RX10 TX10 51).all goodWord = true := by decide +kernel
    exact List.all_eq_true.mp h w hw
abbrev mX0_init : xM := (yX0_init, cX0_init, 1, none, { frames := 1, cells := 1, slots := 81, locals := 20 })
abbrev mX0_begin : xM := (yX0_begin, cX0_begin, 3, none, { frames := 1, cells := 0, slots := 0, locals := 23 })
abbrev mX0_has : xM := (yX0_has, cX0_has, 2, (some .boolean), { frames := 0, cells := 0, slots := 0, locals := 0 })
abbrev mX0_set : xM := (yX0_set, cX0_set, 5, none, { frames := 1, cells := 0, slots := 0, locals := 21 })
abbrev mX0_soleLetter : xM := (yX0_soleLetter, cX0_soleLetter, 10, (some .int), { frames := 1, cells := 0, slots := 0, locals := 21 })
abbrev mX1_init : xM := (yX1_init, cX1_init, 10, none, { frames := 2, cells := 17, slots := 52951, locals := 40 })
abbrev mX1_settle : xM := (yX1_settle, cX1_settle, 8, (some .int), { frames := 5, cells := 0, slots := 0, locals := 138 })
abbrev mX1_waysOf : xM := (yX1_waysOf, cX1_waysOf, 2, (some .long), { frames := 0, cells := 0, slots := 0, locals := 0 })
abbrev mX1_costOf : xM := (yX1_costOf, cX1_costOf, 4, (some .int), { frames := 1, cells := 0, slots := 0, locals := 21 })
abbrev mX1_stepsOf : xM := (yX1_stepsOf, cX1_stepsOf, 4, (some .int), { frames := 1, cells := 0, slots := 0, locals := 21 })
abbrev mX1_pickOf : xM := (yX1_pickOf, cX1_pickOf, 2, (some .int), { frames := 0, cells := 0, slots := 0, locals := 0 })
abbrev mX1_weightOf : xM := (yX1_weightOf, cX1_weightOf, 2, (some .long), { frames := 0, cells := 0, slots := 0, locals := 0 })
abbrev mX1_spanOf : xM := (yX1_spanOf, cX1_spanOf, 3, (some .int), { frames := 0, cells := 0, slots := 0, locals := 0 })
abbrev mX1_cellOfPart : xM := (yX1_cellOfPart, cX1_cellOfPart, 6, (some .int), { frames := 1, cells := 0, slots := 0, locals := 22 })
abbrev mX1_askBelow : xM := (yX1_askBelow, cX1_askBelow, 9, none, { frames := 3, cells := 0, slots := 0, locals := 73 })
abbrev mX1_askParts : xM := (yX1_askParts, cX1_askParts, 5, none, { frames := 2, cells := 0, slots := 0, locals := 47 })
abbrev mX1_settleCell : xM := (yX1_settleCell, cX1_settleCell, 8, none, { frames := 4, cells := 0, slots := 0, locals := 111 })
abbrev mX1_gainOfParts : xM := (yX1_gainOfParts, cX1_gainOfParts, 14, none, { frames := 3, cells := 0, slots := 0, locals := 72 })
abbrev mX1_keep : xM := (yX1_keep, cX1_keep, 5, none, { frames := 1, cells := 0, slots := 0, locals := 21 })
abbrev mX1_times : xM := (yX1_times, cX1_times, 4, (some .long), { frames := 0, cells := 0, slots := 0, locals := 0 })
abbrev mX2_init : xM := (yX2_init, cX2_init, 1, none, { frames := 1, cells := 2, slots := 8400, locals := 20 })
abbrev mX2_empty : xM := (yX2_empty, cX2_empty, 1, none, { frames := 1, cells := 0, slots := 0, locals := 22 })
abbrev mX2_begin : xM := (yX2_begin, cX2_begin, 3, none, { frames := 0, cells := 0, slots := 0, locals := 0 })
abbrev mX2_add : xM := (yX2_add, cX2_add, 3, none, { frames := 0, cells := 0, slots := 0, locals := 0 })
abbrev mX2_letterOf : xM := (yX2_letterOf, cX2_letterOf, 4, (some .int), { frames := 0, cells := 0, slots := 0, locals := 0 })
abbrev mX2_paint : xM := (yX2_paint, cX2_paint, 8, none, { frames := 2, cells := 0, slots := 0, locals := 46 })
abbrev mX3_init : xM := (yX3_init, cX3_init, 2, none, { frames := 3, cells := 205, slots := 1384, locals := 60 })
abbrev mX3_isFull : xM := (yX3_isFull, cX3_isFull, 1, (some .boolean), { frames := 0, cells := 0, slots := 0, locals := 0 })
abbrev mX3_has : xM := (yX3_has, cX3_has, 2, (some .boolean), { frames := 0, cells := 0, slots := 0, locals := 0 })
abbrev mX3_empty : xM := (yX3_empty, cX3_empty, 1, none, { frames := 1, cells := 0, slots := 0, locals := 20 })
abbrev mX3_addFill : xM := (yX3_addFill, cX3_addFill, 4, (some .int), { frames := 2, cells := 0, slots := 0, locals := 46 })
abbrev mX3_addSplit : xM := (yX3_addSplit, cX3_addSplit, 4, (some .int), { frames := 2, cells := 0, slots := 0, locals := 46 })
abbrev mX3_addRepeat : xM := (yX3_addRepeat, cX3_addRepeat, 6, (some .int), { frames := 2, cells := 0, slots := 0, locals := 46 })
abbrev mX4_init : xM := (yX4_init, cX4_init, 1, none, { frames := 1, cells := 9, slots := 200, locals := 20 })
abbrev mX4_begin : xM := (yX4_begin, cX4_begin, 1, none, { frames := 1, cells := 0, slots := 0, locals := 24 })
abbrev mX4_gain : xM := (yX4_gain, cX4_gain, 7, none, { frames := 2, cells := 0, slots := 0, locals := 46 })
abbrev mX4_tie : xM := (yX4_tie, cX4_tie, 6, none, { frames := 0, cells := 0, slots := 0, locals := 0 })
abbrev mX4_waysOf : xM := (yX4_waysOf, cX4_waysOf, 2, (some .long), { frames := 0, cells := 0, slots := 0, locals := 0 })
abbrev mX4_settle : xM := (yX4_settle, cX4_settle, 1, none, { frames := 3, cells := 0, slots := 0, locals := 91 })
abbrev mX4_findEndless : xM := (yX4_findEndless, cX4_findEndless, 4, none, { frames := 1, cells := 0, slots := 0, locals := 23 })
abbrev mX4_tiedTo : xM := (yX4_tiedTo, cX4_tiedTo, 4, (some .int), { frames := 0, cells := 0, slots := 0, locals := 0 })
abbrev mX4_sumTies : xM := (yX4_sumTies, cX4_sumTies, 4, none, { frames := 2, cells := 0, slots := 0, locals := 68 })
abbrev mX4_lightenByTies : xM := (yX4_lightenByTies, cX4_lightenByTies, 6, none, { frames := 0, cells := 0, slots := 0, locals := 0 })
abbrev mX4_pickAmongTies : xM := (yX4_pickAmongTies, cX4_pickAmongTies, 5, none, { frames := 0, cells := 0, slots := 0, locals := 0 })
abbrev mX4_plus : xM := (yX4_plus, cX4_plus, 4, (some .long), { frames := 1, cells := 0, slots := 0, locals := 23 })
abbrev mX5_init : xM := (yX5_init, cX5_init, 1, none, { frames := 1, cells := 3, slots := 60, locals := 20 })
abbrev mX5_lay : xM := (yX5_lay, cX5_lay, 6, (some .boolean), { frames := 2, cells := 0, slots := 0, locals := 48 })
abbrev mX5_laySplit : xM := (yX5_laySplit, cX5_laySplit, 7, (some .boolean), { frames := 1, cells := 0, slots := 0, locals := 22 })
abbrev mX5_layRepeat : xM := (yX5_layRepeat, cX5_layRepeat, 6, (some .boolean), { frames := 1, cells := 0, slots := 0, locals := 22 })
abbrev mX5_laidOneAfterAnother : xM := (yX5_laidOneAfterAnother, cX5_laidOneAfterAnother, 3, (some .boolean), { frames := 0, cells := 0, slots := 0, locals := 0 })
abbrev mX6_init : xM := (yX6_init, cX6_init, 1, none, { frames := 1, cells := 3, slots := 18, locals := 20 })
abbrev mX6_empty : xM := (yX6_empty, cX6_empty, 1, none, { frames := 0, cells := 0, slots := 0, locals := 0 })
abbrev mX6_add : xM := (yX6_add, cX6_add, 4, none, { frames := 0, cells := 0, slots := 0, locals := 0 })
abbrev mX6_copy : xM := (yX6_copy, cX6_copy, 3, none, { frames := 1, cells := 0, slots := 0, locals := 23 })
abbrev mX7_init : xM := (yX7_init, cX7_init, 1, none, { frames := 2, cells := 4, slots := 24, locals := 40 })
abbrev mX7_begin : xM := (yX7_begin, cX7_begin, 4, none, { frames := 1, cells := 0, slots := 0, locals := 23 })
abbrev mX7_limit : xM := (yX7_limit, cX7_limit, 4, none, { frames := 0, cells := 0, slots := 0, locals := 0 })
abbrev mX7_admits : xM := (yX7_admits, cX7_admits, 3, (some .boolean), { frames := 1, cells := 0, slots := 0, locals := 22 })
abbrev mX7_isAlongY : xM := (yX7_isAlongY, cX7_isAlongY, 1, (some .boolean), { frames := 0, cells := 0, slots := 0, locals := 0 })
abbrev mX7_isRepeat : xM := (yX7_isRepeat, cX7_isRepeat, 1, (some .boolean), { frames := 0, cells := 0, slots := 0, locals := 0 })
abbrev mX7_weight : xM := (yX7_weight, cX7_weight, 1, (some .long), { frames := 0, cells := 0, slots := 0, locals := 0 })
abbrev mX8_init : xM := (yX8_init, cX8_init, 3, none, { frames := 1, cells := 9, slots := 2847, locals := 20 })
abbrev mX8_begin : xM := (yX8_begin, cX8_begin, 4, none, { frames := 1, cells := 0, slots := 0, locals := 27 })
abbrev mX8_push : xM := (yX8_push, cX8_push, 8, none, { frames := 0, cells := 0, slots := 0, locals := 0 })
abbrev mX8_next : xM := (yX8_next, cX8_next, 1, (some .boolean), { frames := 0, cells := 0, slots := 0, locals := 0 })
abbrev mX8_spread : xM := (yX8_spread, cX8_spread, 7, none, { frames := 3, cells := 0, slots := 0, locals := 73 })
abbrev mX8_grow : xM := (yX8_grow, cX8_grow, 8, (some .int), { frames := 4, cells := 0, slots := 0, locals := 99 })
abbrev mX8_choose : xM := (yX8_choose, cX8_choose, 4, (some .int), { frames := 3, cells := 0, slots := 0, locals := 73 })
abbrev mX9_init : xM := (yX9_init, cX9_init, 1, none, { frames := 4, cells := 264, slots := 127136, locals := 81 })
abbrev mX9_fill : xM := (yX9_fill, cX9_fill, 4, (some .int), { frames := 3, cells := 0, slots := 0, locals := 69 })
abbrev mX9_part : xM := (yX9_part, cX9_part, 4, (some .int), { frames := 2, cells := 0, slots := 0, locals := 42 })
abbrev mX9_split : xM := (yX9_split, cX9_split, 4, (some .int), { frames := 3, cells := 0, slots := 0, locals := 69 })
abbrev mX9_repeat : xM := (yX9_repeat, cX9_repeat, 6, (some .int), { frames := 3, cells := 0, slots := 0, locals := 71 })
abbrev mX9_only : xM := (yX9_only, cX9_only, 5, (some .int), { frames := 1, cells := 0, slots := 0, locals := 23 })
abbrev mX9_clear : xM := (yX9_clear, cX9_clear, 2, (some .int), { frames := 2, cells := 0, slots := 0, locals := 42 })
abbrev mX9_rule : xM := (yX9_rule, cX9_rule, 4, (some .int), { frames := 1, cells := 0, slots := 0, locals := 21 })
abbrev mX9_holds : xM := (yX9_holds, cX9_holds, 4, (some .int), { frames := 3, cells := 0, slots := 0, locals := 73 })
abbrev mX9_piece : xM := (yX9_piece, cX9_piece, 6, (some .int), { frames := 3, cells := 0, slots := 0, locals := 73 })
abbrev mX9_draw : xM := (yX9_draw, cX9_draw, 6, (some .int), { frames := 5, cells := 0, slots := 0, locals := 126 })
abbrev mX9_at : xM := (yX9_at, cX9_at, 3, (some .int), { frames := 1, cells := 0, slots := 0, locals := 23 })
abbrev mX9_step : xM := (yX9_step, cX9_step, 2, (some .int), { frames := 0, cells := 0, slots := 0, locals := 0 })
abbrev mX9_drawn : xM := (yX9_drawn, cX9_drawn, 1, (some .int), { frames := 0, cells := 0, slots := 0, locals := 0 })
abbrev mX9_fault : xM := (yX9_fault, cX9_fault, 1, (some .int), { frames := 0, cells := 0, slots := 0, locals := 0 })
abbrev mX9_take : xM := (yX9_take, cX9_take, 3, (some .int), { frames := 2, cells := 0, slots := 0, locals := 45 })
abbrev mX9_ways : xM := (yX9_ways, cX9_ways, 4, (some .long), { frames := 6, cells := 0, slots := 0, locals := 165 })
abbrev mX9_least : xM := (yX9_least, cX9_least, 4, (some .int), { frames := 6, cells := 0, slots := 0, locals := 165 })
abbrev mX9_board : xM := (yX9_board, cX9_board, 3, (some .int), { frames := 2, cells := 0, slots := 0, locals := 45 })
abbrev mX9_put : xM := (yX9_put, cX9_put, 4, (some .int), { frames := 1, cells := 0, slots := 0, locals := 22 })
abbrev mX9_parses : xM := (yX9_parses, cX9_parses, 1, (some .long), { frames := 7, cells := 0, slots := 0, locals := 185 })
abbrev mX9_best : xM := (yX9_best, cX9_best, 1, (some .int), { frames := 7, cells := 0, slots := 0, locals := 185 })
abbrev mX9_bestStep : xM := (yX9_bestStep, cX9_bestStep, 4, (some .int), { frames := 7, cells := 0, slots := 0, locals := 185 })
abbrev mX9_stands : xM := (yX9_stands, cX9_stands, 7, (some .long), { frames := 6, cells := 0, slots := 0, locals := 165 })
abbrev mX9_count : xM := (yX9_count, cX9_count, 2, (some .int), { frames := 0, cells := 0, slots := 0, locals := 0 })
abbrev mX9_settleBoard : xM := (yX9_settleBoard, cX9_settleBoard, 1, (some .int), { frames := 6, cells := 0, slots := 0, locals := 165 })
abbrev mX9_forgetParses : xM := (yX9_forgetParses, cX9_forgetParses, 1, none, { frames := 0, cells := 0, slots := 0, locals := 0 })
abbrev mX9_isName : xM := (yX9_isName, cX9_isName, 1, (some .boolean), { frames := 1, cells := 0, slots := 0, locals := 22 })
abbrev mX9_isCost : xM := (yX9_isCost, cX9_isCost, 1, (some .boolean), { frames := 1, cells := 0, slots := 0, locals := 22 })
abbrev mX9_isScope : xM := (yX9_isScope, cX9_isScope, 2, (some .boolean), { frames := 1, cells := 0, slots := 0, locals := 22 })
abbrev mX9_isWithin : xM := (yX9_isWithin, cX9_isWithin, 3, (some .boolean), { frames := 0, cells := 0, slots := 0, locals := 0 })
abbrev mX10_init : xM := (yX10_init, cX10_init, 1, none, { frames := 1, cells := 35, slots := 245135, locals := 23 })
abbrev mX10_in : xM := (yX10_in, cX10_in, 6, (some .boolean), { frames := 0, cells := 0, slots := 0, locals := 0 })
abbrev mX10_isName : xM := (yX10_isName, cX10_isName, 1, (some .boolean), { frames := 1, cells := 0, slots := 0, locals := 25 })
abbrev mX10_add : xM := (yX10_add, cX10_add, 6, (some .int), { frames := 1, cells := 0, slots := 0, locals := 20 })
abbrev mX10_addPart : xM := (yX10_addPart, cX10_addPart, 6, none, { frames := 0, cells := 0, slots := 0, locals := 0 })
abbrev mX10_fill : xM := (yX10_fill, cX10_fill, 4, (some .int), { frames := 2, cells := 0, slots := 0, locals := 45 })
abbrev mX10_part : xM := (yX10_part, cX10_part, 4, (some .int), { frames := 2, cells := 0, slots := 0, locals := 45 })
abbrev mX10_split : xM := (yX10_split, cX10_split, 6, (some .int), { frames := 2, cells := 0, slots := 0, locals := 45 })
abbrev mX10_repeat : xM := (yX10_repeat, cX10_repeat, 7, (some .int), { frames := 2, cells := 0, slots := 0, locals := 45 })
abbrev mX10_isRule : xM := (yX10_isRule, cX10_isRule, 2, (some .boolean), { frames := 1, cells := 0, slots := 0, locals := 25 })
abbrev mX10_isLength : xM := (yX10_isLength, cX10_isLength, 1, (some .boolean), { frames := 1, cells := 0, slots := 0, locals := 25 })
abbrev mX10_only : xM := (yX10_only, cX10_only, 6, (some .int), { frames := 2, cells := 0, slots := 0, locals := 46 })
abbrev mX10_clear : xM := (yX10_clear, cX10_clear, 2, (some .int), { frames := 1, cells := 0, slots := 0, locals := 20 })
abbrev mX10_rule : xM := (yX10_rule, cX10_rule, 3, (some .int), { frames := 2, cells := 0, slots := 0, locals := 46 })
abbrev mX10_isAlongY : xM := (yX10_isAlongY, cX10_isAlongY, 2, (some .boolean), { frames := 0, cells := 0, slots := 0, locals := 0 })
abbrev mX10_layRepeat : xM := (yX10_layRepeat, cX10_layRepeat, 7, (some .boolean), { frames := 0, cells := 0, slots := 0, locals := 0 })
abbrev mX10_laySplit : xM := (yX10_laySplit, cX10_laySplit, 9, (some .boolean), { frames := 0, cells := 0, slots := 0, locals := 0 })
abbrev mX10_lay : xM := (yX10_lay, cX10_lay, 6, (some .boolean), { frames := 1, cells := 0, slots := 0, locals := 28 })
abbrev mX10_holds : xM := (yX10_holds, cX10_holds, 4, (some .int), { frames := 2, cells := 0, slots := 0, locals := 53 })
abbrev mX10_piece : xM := (yX10_piece, cX10_piece, 6, (some .int), { frames := 2, cells := 0, slots := 0, locals := 53 })
abbrev mX10_put : xM := (yX10_put, cX10_put, 6, none, { frames := 0, cells := 0, slots := 0, locals := 0 })
abbrev mX10_picked : xM := (yX10_picked, cX10_picked, 8, (some .int), { frames := 2, cells := 0, slots := 0, locals := 53 })
abbrev mX10_putPieces : xM := (yX10_putPieces, cX10_putPieces, 10, none, { frames := 1, cells := 0, slots := 0, locals := 25 })
abbrev mX10_draw : xM := (yX10_draw, cX10_draw, 12, (some .int), { frames := 3, cells := 0, slots := 0, locals := 80 })
abbrev mX10_fillDraft : xM := (yX10_fillDraft, cX10_fillDraft, 8, none, { frames := 0, cells := 0, slots := 0, locals := 0 })
abbrev mX10_at : xM := (yX10_at, cX10_at, 3, (some .int), { frames := 1, cells := 0, slots := 0, locals := 25 })
abbrev mX10_step : xM := (yX10_step, cX10_step, 2, (some .int), { frames := 1, cells := 0, slots := 0, locals := 25 })
abbrev mX10_drawn : xM := (yX10_drawn, cX10_drawn, 1, (some .int), { frames := 0, cells := 0, slots := 0, locals := 0 })
abbrev mX10_fault : xM := (yX10_fault, cX10_fault, 1, (some .int), { frames := 0, cells := 0, slots := 0, locals := 0 })
abbrev mX10_take : xM := (yX10_take, cX10_take, 3, (some .int), { frames := 1, cells := 0, slots := 0, locals := 23 })
abbrev mX10_boards : xM := (yX10_boards, cX10_boards, 4, none, { frames := 0, cells := 0, slots := 0, locals := 0 })
abbrev mX10_board : xM := (yX10_board, cX10_board, 3, (some .int), { frames := 1, cells := 0, slots := 0, locals := 25 })
abbrev mX10_isPlace : xM := (yX10_isPlace, cX10_isPlace, 2, (some .boolean), { frames := 1, cells := 0, slots := 0, locals := 25 })
abbrev mX10_put_ : xM := (yX10_put_, cX10_put_, 4, (some .int), { frames := 2, cells := 0, slots := 0, locals := 46 })
abbrev mX10_place : xM := (yX10_place, cX10_place, 5, (some .int), { frames := 0, cells := 0, slots := 0, locals := 0 })
abbrev mX10_isAll : xM := (yX10_isAll, cX10_isAll, 9, (some .boolean), { frames := 0, cells := 0, slots := 0, locals := 0 })
abbrev mX10_plus : xM := (yX10_plus, cX10_plus, 4, (some .long), { frames := 0, cells := 0, slots := 0, locals := 0 })
abbrev mX10_mult : xM := (yX10_mult, cX10_mult, 4, (some .long), { frames := 0, cells := 0, slots := 0, locals := 0 })
abbrev mX10_count : xM := (yX10_count, cX10_count, 12, none, { frames := 2, cells := 0, slots := 0, locals := 53 })
abbrev mX10_findMade : xM := (yX10_findMade, cX10_findMade, 3, none, { frames := 0, cells := 0, slots := 0, locals := 0 })
abbrev mX10_isEndless : xM := (yX10_isEndless, cX10_isEndless, 4, (some .boolean), { frames := 0, cells := 0, slots := 0, locals := 0 })
abbrev mX10_sum : xM := (yX10_sum, cX10_sum, 7, none, { frames := 1, cells := 0, slots := 0, locals := 23 })
abbrev mX10_tries : xM := (yX10_tries, cX10_tries, 11, (some .boolean), { frames := 2, cells := 0, slots := 0, locals := 53 })
abbrev mX10_improve : xM := (yX10_improve, cX10_improve, 9, (some .boolean), { frames := 3, cells := 0, slots := 0, locals := 83 })
abbrev mX10_work : xM := (yX10_work, cX10_work, 7, none, { frames := 4, cells := 0, slots := 0, locals := 111 })
abbrev mX10_workScopes : xM := (yX10_workScopes, cX10_workScopes, 3, none, { frames := 5, cells := 0, slots := 0, locals := 137 })
abbrev mX10_forget : xM := (yX10_forget, cX10_forget, 1, none, { frames := 0, cells := 0, slots := 0, locals := 0 })
abbrev mX10_workBoard : xM := (yX10_workBoard, cX10_workBoard, 5, none, { frames := 5, cells := 0, slots := 0, locals := 137 })
abbrev mX10_ways : xM := (yX10_ways, cX10_ways, 4, (some .long), { frames := 6, cells := 0, slots := 0, locals := 159 })
abbrev mX10_least : xM := (yX10_least, cX10_least, 5, (some .int), { frames := 6, cells := 0, slots := 0, locals := 159 })
abbrev mX10_parses : xM := (yX10_parses, cX10_parses, 1, (some .long), { frames := 6, cells := 0, slots := 0, locals := 161 })
abbrev mX10_best : xM := (yX10_best, cX10_best, 2, (some .int), { frames := 6, cells := 0, slots := 0, locals := 161 })
abbrev mX10_bestStep : xM := (yX10_bestStep, cX10_bestStep, 10, (some .int), { frames := 6, cells := 0, slots := 0, locals := 161 })
abbrev mX10_stands : xM := (yX10_stands, cX10_stands, 5, (some .long), { frames := 6, cells := 0, slots := 0, locals := 161 })
abbrev mX10_count_ : xM := (yX10_count_, cX10_count_, 2, (some .int), { frames := 0, cells := 0, slots := 0, locals := 0 })
abbrev mJ7_rangeCheck_23922 : xM := (yJ7_rangeCheck_23922, cJ7_rangeCheck_23922, 3, none, { frames := 0, cells := 0, slots := 0, locals := 0 })
abbrev mJ7_fill_d0a16 : xM := (yJ7_fill_d0a16, cJ7_fill_d0a16, 5, none, { frames := 0, cells := 0, slots := 0, locals := 0 })
abbrev mJ7_fill_53178 : xM := (yJ7_fill_53178, cJ7_fill_53178, 4, none, { frames := 0, cells := 0, slots := 0, locals := 0 })
abbrev mJ7_fill_031fb : xM := (yJ7_fill_031fb, cJ7_fill_031fb, 4, none, { frames := 0, cells := 0, slots := 0, locals := 0 })
abbrev mJ7_fill_eb02e : xM := (yJ7_fill_eb02e, cJ7_fill_eb02e, 5, none, { frames := 1, cells := 0, slots := 0, locals := 22 })
abbrev mL_law : xM := (yL_law, cL_law, 4, some .boolean, room_1)
theorem okM_X0_init : xOKM mX0_init 0 := ⟨x_in (i := 211) (by decide +kernel) rfl, x_in (i := 51) (by decide +kernel) rfl, by decide +kernel, by decide +kernel⟩
theorem inst_X0_init : Cond.instanceMethod yX0_init ∈ xT := x_in (i := 210) (by decide +kernel) rfl
theorem okM_X0_begin : xOKM mX0_begin 2 := ⟨x_in (i := 642) (by decide +kernel) rfl, x_in (i := 51) (by decide +kernel) rfl, by decide +kernel, by decide +kernel⟩
theorem inst_X0_begin : Cond.instanceMethod yX0_begin ∈ xT := x_in (i := 640) (by decide +kernel) rfl
theorem sel_X0_begin : Cond.selects RX0 yX0_begin yX0_begin ∈ xT := x_in (i := 641) (by decide +kernel) rfl
theorem okM_X0_has : xOKM mX0_has 1 := ⟨x_in (i := 653) (by decide +kernel) rfl, x_in (i := 51) (by decide +kernel) rfl, by decide +kernel, by decide +kernel⟩
theorem inst_X0_has : Cond.instanceMethod yX0_has ∈ xT := x_in (i := 651) (by decide +kernel) rfl
theorem sel_X0_has : Cond.selects RX0 yX0_has yX0_has ∈ xT := x_in (i := 652) (by decide +kernel) rfl
theorem okM_X0_set : xOKM mX0_set 3 := ⟨x_in (i := 649) (by decide +kernel) rfl, x_in (i := 51) (by decide +kernel) rfl, by decide +kernel, by decide +kernel⟩
theorem inst_X0_set : Cond.instanceMethod yX0_set ∈ xT := x_in (i := 647) (by decide +kernel) rfl
theorem sel_X0_set : Cond.selects RX0 yX0_set yX0_set ∈ xT := x_in (i := 648) (by decide +kernel) rfl
theorem okM_X0_soleLetter : xOKM mX0_soleLetter 4 := ⟨x_in (i := 693) (by decide +kernel) rfl, x_in (i := 51) (by decide +kernel) rfl, by decide +kernel, by decide +kernel⟩
theorem inst_X0_soleLetter : Cond.instanceMethod yX0_soleLetter ∈ xT := x_in (i := 691) (by decide +kernel) rfl
theorem sel_X0_soleLetter : Cond.selects RX0 yX0_soleLetter yX0_soleLetter ∈ xT := x_in (i := 692) (by decide +kernel) rfl
theorem okM_X1_init : xOKM mX1_init 4 := ⟨x_in (i := 231) (by decide +kernel) rfl, x_in (i := 52) (by decide +kernel) rfl, by decide +kernel, by decide +kernel⟩
theorem inst_X1_init : Cond.instanceMethod yX1_init ∈ xT := x_in (i := 230) (by decide +kernel) rfl
theorem okM_X1_settle : xOKM mX1_settle 5 := ⟨x_in (i := 663) (by decide +kernel) rfl, x_in (i := 52) (by decide +kernel) rfl, by decide +kernel, by decide +kernel⟩
theorem inst_X1_settle : Cond.instanceMethod yX1_settle ∈ xT := x_in (i := 661) (by decide +kernel) rfl
theorem sel_X1_settle : Cond.selects RX1 yX1_settle yX1_settle ∈ xT := x_in (i := 662) (by decide +kernel) rfl
theorem okM_X1_waysOf : xOKM mX1_waysOf 1 := ⟨x_in (i := 731) (by decide +kernel) rfl, x_in (i := 52) (by decide +kernel) rfl, by decide +kernel, by decide +kernel⟩
theorem inst_X1_waysOf : Cond.instanceMethod yX1_waysOf ∈ xT := x_in (i := 729) (by decide +kernel) rfl
theorem sel_X1_waysOf : Cond.selects RX1 yX1_waysOf yX1_waysOf ∈ xT := x_in (i := 730) (by decide +kernel) rfl
theorem okM_X1_costOf : xOKM mX1_costOf 1 := ⟨x_in (i := 785) (by decide +kernel) rfl, x_in (i := 52) (by decide +kernel) rfl, by decide +kernel, by decide +kernel⟩
theorem inst_X1_costOf : Cond.instanceMethod yX1_costOf ∈ xT := x_in (i := 783) (by decide +kernel) rfl
theorem sel_X1_costOf : Cond.selects RX1 yX1_costOf yX1_costOf ∈ xT := x_in (i := 784) (by decide +kernel) rfl
theorem okM_X1_stepsOf : xOKM mX1_stepsOf 1 := ⟨x_in (i := 815) (by decide +kernel) rfl, x_in (i := 52) (by decide +kernel) rfl, by decide +kernel, by decide +kernel⟩
theorem inst_X1_stepsOf : Cond.instanceMethod yX1_stepsOf ∈ xT := x_in (i := 813) (by decide +kernel) rfl
theorem sel_X1_stepsOf : Cond.selects RX1 yX1_stepsOf yX1_stepsOf ∈ xT := x_in (i := 814) (by decide +kernel) rfl
theorem okM_X1_pickOf : xOKM mX1_pickOf 1 := ⟨x_in (i := 821) (by decide +kernel) rfl, x_in (i := 52) (by decide +kernel) rfl, by decide +kernel, by decide +kernel⟩
theorem inst_X1_pickOf : Cond.instanceMethod yX1_pickOf ∈ xT := x_in (i := 819) (by decide +kernel) rfl
theorem sel_X1_pickOf : Cond.selects RX1 yX1_pickOf yX1_pickOf ∈ xT := x_in (i := 820) (by decide +kernel) rfl
theorem okM_X1_weightOf : xOKM mX1_weightOf 1 := ⟨x_in (i := 740) (by decide +kernel) rfl, x_in (i := 52) (by decide +kernel) rfl, by decide +kernel, by decide +kernel⟩
theorem inst_X1_weightOf : Cond.instanceMethod yX1_weightOf ∈ xT := x_in (i := 739) (by decide +kernel) rfl
theorem sel_X1_weightOf : Cond.selects RX1 yX1_weightOf yX1_weightOf ∈ xT := x_in (i := 12) (by decide +kernel) rfl
theorem okM_X1_spanOf : xOKM mX1_spanOf 2 := ⟨x_in (i := 670) (by decide +kernel) rfl, x_in (i := 52) (by decide +kernel) rfl, by decide +kernel, by decide +kernel⟩
theorem inst_X1_spanOf : Cond.instanceMethod yX1_spanOf ∈ xT := x_in (i := 669) (by decide +kernel) rfl
theorem sel_X1_spanOf : Cond.selects RX1 yX1_spanOf yX1_spanOf ∈ xT := x_in (i := 6) (by decide +kernel) rfl
theorem okM_X1_cellOfPart : xOKM mX1_cellOfPart 3 := ⟨x_in (i := 685) (by decide +kernel) rfl, x_in (i := 52) (by decide +kernel) rfl, by decide +kernel, by decide +kernel⟩
theorem inst_X1_cellOfPart : Cond.instanceMethod yX1_cellOfPart ∈ xT := x_in (i := 684) (by decide +kernel) rfl
theorem sel_X1_cellOfPart : Cond.selects RX1 yX1_cellOfPart yX1_cellOfPart ∈ xT := x_in (i := 9) (by decide +kernel) rfl
theorem okM_X1_askBelow : xOKM mX1_askBelow 1 := ⟨x_in (i := 675) (by decide +kernel) rfl, x_in (i := 52) (by decide +kernel) rfl, by decide +kernel, by decide +kernel⟩
theorem inst_X1_askBelow : Cond.instanceMethod yX1_askBelow ∈ xT := x_in (i := 674) (by decide +kernel) rfl
theorem sel_X1_askBelow : Cond.selects RX1 yX1_askBelow yX1_askBelow ∈ xT := x_in (i := 7) (by decide +kernel) rfl
theorem okM_X1_askParts : xOKM mX1_askParts 2 := ⟨x_in (i := 681) (by decide +kernel) rfl, x_in (i := 52) (by decide +kernel) rfl, by decide +kernel, by decide +kernel⟩
theorem inst_X1_askParts : Cond.instanceMethod yX1_askParts ∈ xT := x_in (i := 680) (by decide +kernel) rfl
theorem sel_X1_askParts : Cond.selects RX1 yX1_askParts yX1_askParts ∈ xT := x_in (i := 8) (by decide +kernel) rfl
theorem okM_X1_settleCell : xOKM mX1_settleCell 1 := ⟨x_in (i := 689) (by decide +kernel) rfl, x_in (i := 52) (by decide +kernel) rfl, by decide +kernel, by decide +kernel⟩
theorem inst_X1_settleCell : Cond.instanceMethod yX1_settleCell ∈ xT := x_in (i := 688) (by decide +kernel) rfl
theorem sel_X1_settleCell : Cond.selects RX1 yX1_settleCell yX1_settleCell ∈ xT := x_in (i := 10) (by decide +kernel) rfl
theorem okM_X1_gainOfParts : xOKM mX1_gainOfParts 3 := ⟨x_in (i := 727) (by decide +kernel) rfl, x_in (i := 52) (by decide +kernel) rfl, by decide +kernel, by decide +kernel⟩
theorem inst_X1_gainOfParts : Cond.instanceMethod yX1_gainOfParts ∈ xT := x_in (i := 726) (by decide +kernel) rfl
theorem sel_X1_gainOfParts : Cond.selects RX1 yX1_gainOfParts yX1_gainOfParts ∈ xT := x_in (i := 11) (by decide +kernel) rfl
theorem okM_X1_keep : xOKM mX1_keep 2 := ⟨x_in (i := 772) (by decide +kernel) rfl, x_in (i := 52) (by decide +kernel) rfl, by decide +kernel, by decide +kernel⟩
theorem inst_X1_keep : Cond.instanceMethod yX1_keep ∈ xT := x_in (i := 771) (by decide +kernel) rfl
theorem sel_X1_keep : Cond.selects RX1 yX1_keep yX1_keep ∈ xT := x_in (i := 18) (by decide +kernel) rfl
theorem okM_X1_times : xOKM mX1_times 2 := ⟨x_in (i := 735) (by decide +kernel) rfl, x_in (i := 52) (by decide +kernel) rfl, by decide +kernel, by decide +kernel⟩
theorem stat_X1_times : Cond.static yX1_times ∈ xT := x_in (i := 734) (by decide +kernel) rfl
theorem okM_X2_init : xOKM mX2_init 0 := ⟨x_in (i := 375) (by decide +kernel) rfl, x_in (i := 55) (by decide +kernel) rfl, by decide +kernel, by decide +kernel⟩
theorem inst_X2_init : Cond.instanceMethod yX2_init ∈ xT := x_in (i := 374) (by decide +kernel) rfl
theorem okM_X2_empty : xOKM mX2_empty 0 := ⟨x_in (i := 519) (by decide +kernel) rfl, x_in (i := 55) (by decide +kernel) rfl, by decide +kernel, by decide +kernel⟩
theorem inst_X2_empty : Cond.instanceMethod yX2_empty ∈ xT := x_in (i := 517) (by decide +kernel) rfl
theorem sel_X2_empty : Cond.selects RX2 yX2_empty yX2_empty ∈ xT := x_in (i := 518) (by decide +kernel) rfl
theorem okM_X2_begin : xOKM mX2_begin 2 := ⟨x_in (i := 523) (by decide +kernel) rfl, x_in (i := 55) (by decide +kernel) rfl, by decide +kernel, by decide +kernel⟩
theorem inst_X2_begin : Cond.instanceMethod yX2_begin ∈ xT := x_in (i := 521) (by decide +kernel) rfl
theorem sel_X2_begin : Cond.selects RX2 yX2_begin yX2_begin ∈ xT := x_in (i := 522) (by decide +kernel) rfl
theorem okM_X2_add : xOKM mX2_add 2 := ⟨x_in (i := 599) (by decide +kernel) rfl, x_in (i := 55) (by decide +kernel) rfl, by decide +kernel, by decide +kernel⟩
theorem inst_X2_add : Cond.instanceMethod yX2_add ∈ xT := x_in (i := 597) (by decide +kernel) rfl
theorem sel_X2_add : Cond.selects RX2 yX2_add yX2_add ∈ xT := x_in (i := 598) (by decide +kernel) rfl
theorem okM_X2_letterOf : xOKM mX2_letterOf 2 := ⟨x_in (i := 622) (by decide +kernel) rfl, x_in (i := 55) (by decide +kernel) rfl, by decide +kernel, by decide +kernel⟩
theorem inst_X2_letterOf : Cond.instanceMethod yX2_letterOf ∈ xT := x_in (i := 620) (by decide +kernel) rfl
theorem sel_X2_letterOf : Cond.selects RX2 yX2_letterOf yX2_letterOf ∈ xT := x_in (i := 621) (by decide +kernel) rfl
theorem okM_X2_paint : xOKM mX2_paint 5 := ⟨x_in (i := 603) (by decide +kernel) rfl, x_in (i := 55) (by decide +kernel) rfl, by decide +kernel, by decide +kernel⟩
theorem inst_X2_paint : Cond.instanceMethod yX2_paint ∈ xT := x_in (i := 601) (by decide +kernel) rfl
theorem sel_X2_paint : Cond.selects RX2 yX2_paint yX2_paint ∈ xT := x_in (i := 602) (by decide +kernel) rfl
theorem okM_X3_init : xOKM mX3_init 0 := ⟨x_in (i := 72) (by decide +kernel) rfl, x_in (i := 47) (by decide +kernel) rfl, by decide +kernel, by decide +kernel⟩
theorem inst_X3_init : Cond.instanceMethod yX3_init ∈ xT := x_in (i := 71) (by decide +kernel) rfl
theorem okM_X3_isFull : xOKM mX3_isFull 0 := ⟨x_in (i := 445) (by decide +kernel) rfl, x_in (i := 47) (by decide +kernel) rfl, by decide +kernel, by decide +kernel⟩
theorem inst_X3_isFull : Cond.instanceMethod yX3_isFull ∈ xT := x_in (i := 443) (by decide +kernel) rfl
theorem sel_X3_isFull : Cond.selects RX3 yX3_isFull yX3_isFull ∈ xT := x_in (i := 444) (by decide +kernel) rfl
theorem okM_X3_has : xOKM mX3_has 1 := ⟨x_in (i := 506) (by decide +kernel) rfl, x_in (i := 47) (by decide +kernel) rfl, by decide +kernel, by decide +kernel⟩
theorem inst_X3_has : Cond.instanceMethod yX3_has ∈ xT := x_in (i := 504) (by decide +kernel) rfl
theorem sel_X3_has : Cond.selects RX3 yX3_has yX3_has ∈ xT := x_in (i := 505) (by decide +kernel) rfl
theorem okM_X3_empty : xOKM mX3_empty 0 := ⟨x_in (i := 515) (by decide +kernel) rfl, x_in (i := 47) (by decide +kernel) rfl, by decide +kernel, by decide +kernel⟩
theorem inst_X3_empty : Cond.instanceMethod yX3_empty ∈ xT := x_in (i := 513) (by decide +kernel) rfl
theorem sel_X3_empty : Cond.selects RX3 yX3_empty yX3_empty ∈ xT := x_in (i := 514) (by decide +kernel) rfl
theorem okM_X3_addFill : xOKM mX3_addFill 3 := ⟨x_in (i := 453) (by decide +kernel) rfl, x_in (i := 47) (by decide +kernel) rfl, by decide +kernel, by decide +kernel⟩
theorem inst_X3_addFill : Cond.instanceMethod yX3_addFill ∈ xT := x_in (i := 451) (by decide +kernel) rfl
theorem sel_X3_addFill : Cond.selects RX3 yX3_addFill yX3_addFill ∈ xT := x_in (i := 452) (by decide +kernel) rfl
theorem okM_X3_addSplit : xOKM mX3_addSplit 3 := ⟨x_in (i := 482) (by decide +kernel) rfl, x_in (i := 47) (by decide +kernel) rfl, by decide +kernel, by decide +kernel⟩
theorem inst_X3_addSplit : Cond.instanceMethod yX3_addSplit ∈ xT := x_in (i := 480) (by decide +kernel) rfl
theorem sel_X3_addSplit : Cond.selects RX3 yX3_addSplit yX3_addSplit ∈ xT := x_in (i := 481) (by decide +kernel) rfl
theorem okM_X3_addRepeat : xOKM mX3_addRepeat 5 := ⟨x_in (i := 497) (by decide +kernel) rfl, x_in (i := 47) (by decide +kernel) rfl, by decide +kernel, by decide +kernel⟩
theorem inst_X3_addRepeat : Cond.instanceMethod yX3_addRepeat ∈ xT := x_in (i := 495) (by decide +kernel) rfl
theorem sel_X3_addRepeat : Cond.selects RX3 yX3_addRepeat yX3_addRepeat ∈ xT := x_in (i := 496) (by decide +kernel) rfl
theorem okM_X4_init : xOKM mX4_init 0 := ⟨x_in (i := 237) (by decide +kernel) rfl, x_in (i := 53) (by decide +kernel) rfl, by decide +kernel, by decide +kernel⟩
theorem inst_X4_init : Cond.instanceMethod yX4_init ∈ xT := x_in (i := 236) (by decide +kernel) rfl
theorem okM_X4_begin : xOKM mX4_begin 0 := ⟨x_in (i := 697) (by decide +kernel) rfl, x_in (i := 53) (by decide +kernel) rfl, by decide +kernel, by decide +kernel⟩
theorem inst_X4_begin : Cond.instanceMethod yX4_begin ∈ xT := x_in (i := 695) (by decide +kernel) rfl
theorem sel_X4_begin : Cond.selects RX4 yX4_begin yX4_begin ∈ xT := x_in (i := 696) (by decide +kernel) rfl
theorem okM_X4_gain : xOKM mX4_gain 4 := ⟨x_in (i := 711) (by decide +kernel) rfl, x_in (i := 53) (by decide +kernel) rfl, by decide +kernel, by decide +kernel⟩
theorem inst_X4_gain : Cond.instanceMethod yX4_gain ∈ xT := x_in (i := 709) (by decide +kernel) rfl
theorem sel_X4_gain : Cond.selects RX4 yX4_gain yX4_gain ∈ xT := x_in (i := 710) (by decide +kernel) rfl
theorem okM_X4_tie : xOKM mX4_tie 4 := ⟨x_in (i := 723) (by decide +kernel) rfl, x_in (i := 53) (by decide +kernel) rfl, by decide +kernel, by decide +kernel⟩
theorem inst_X4_tie : Cond.instanceMethod yX4_tie ∈ xT := x_in (i := 721) (by decide +kernel) rfl
theorem sel_X4_tie : Cond.selects RX4 yX4_tie yX4_tie ∈ xT := x_in (i := 722) (by decide +kernel) rfl
theorem okM_X4_waysOf : xOKM mX4_waysOf 1 := ⟨x_in (i := 776) (by decide +kernel) rfl, x_in (i := 53) (by decide +kernel) rfl, by decide +kernel, by decide +kernel⟩
theorem inst_X4_waysOf : Cond.instanceMethod yX4_waysOf ∈ xT := x_in (i := 774) (by decide +kernel) rfl
theorem sel_X4_waysOf : Cond.selects RX4 yX4_waysOf yX4_waysOf ∈ xT := x_in (i := 775) (by decide +kernel) rfl
theorem okM_X4_settle : xOKM mX4_settle 0 := ⟨x_in (i := 745) (by decide +kernel) rfl, x_in (i := 53) (by decide +kernel) rfl, by decide +kernel, by decide +kernel⟩
theorem inst_X4_settle : Cond.instanceMethod yX4_settle ∈ xT := x_in (i := 743) (by decide +kernel) rfl
theorem sel_X4_settle : Cond.selects RX4 yX4_settle yX4_settle ∈ xT := x_in (i := 744) (by decide +kernel) rfl
theorem okM_X4_findEndless : xOKM mX4_findEndless 0 := ⟨x_in (i := 752) (by decide +kernel) rfl, x_in (i := 53) (by decide +kernel) rfl, by decide +kernel, by decide +kernel⟩
theorem inst_X4_findEndless : Cond.instanceMethod yX4_findEndless ∈ xT := x_in (i := 751) (by decide +kernel) rfl
theorem sel_X4_findEndless : Cond.selects RX4 yX4_findEndless yX4_findEndless ∈ xT := x_in (i := 13) (by decide +kernel) rfl
theorem okM_X4_tiedTo : xOKM mX4_tiedTo 1 := ⟨x_in (i := 756) (by decide +kernel) rfl, x_in (i := 53) (by decide +kernel) rfl, by decide +kernel, by decide +kernel⟩
theorem inst_X4_tiedTo : Cond.instanceMethod yX4_tiedTo ∈ xT := x_in (i := 755) (by decide +kernel) rfl
theorem sel_X4_tiedTo : Cond.selects RX4 yX4_tiedTo yX4_tiedTo ∈ xT := x_in (i := 14) (by decide +kernel) rfl
theorem okM_X4_sumTies : xOKM mX4_sumTies 0 := ⟨x_in (i := 760) (by decide +kernel) rfl, x_in (i := 53) (by decide +kernel) rfl, by decide +kernel, by decide +kernel⟩
theorem inst_X4_sumTies : Cond.instanceMethod yX4_sumTies ∈ xT := x_in (i := 759) (by decide +kernel) rfl
theorem sel_X4_sumTies : Cond.selects RX4 yX4_sumTies yX4_sumTies ∈ xT := x_in (i := 15) (by decide +kernel) rfl
theorem okM_X4_lightenByTies : xOKM mX4_lightenByTies 0 := ⟨x_in (i := 764) (by decide +kernel) rfl, x_in (i := 53) (by decide +kernel) rfl, by decide +kernel, by decide +kernel⟩
theorem inst_X4_lightenByTies : Cond.instanceMethod yX4_lightenByTies ∈ xT := x_in (i := 763) (by decide +kernel) rfl
theorem sel_X4_lightenByTies : Cond.selects RX4 yX4_lightenByTies yX4_lightenByTies ∈ xT := x_in (i := 16) (by decide +kernel) rfl
theorem okM_X4_pickAmongTies : xOKM mX4_pickAmongTies 0 := ⟨x_in (i := 768) (by decide +kernel) rfl, x_in (i := 53) (by decide +kernel) rfl, by decide +kernel, by decide +kernel⟩
theorem inst_X4_pickAmongTies : Cond.instanceMethod yX4_pickAmongTies ∈ xT := x_in (i := 767) (by decide +kernel) rfl
theorem sel_X4_pickAmongTies : Cond.selects RX4 yX4_pickAmongTies yX4_pickAmongTies ∈ xT := x_in (i := 17) (by decide +kernel) rfl
theorem okM_X4_plus : xOKM mX4_plus 2 := ⟨x_in (i := 715) (by decide +kernel) rfl, x_in (i := 53) (by decide +kernel) rfl, by decide +kernel, by decide +kernel⟩
theorem stat_X4_plus : Cond.static yX4_plus ∈ xT := x_in (i := 714) (by decide +kernel) rfl
theorem okM_X5_init : xOKM mX5_init 0 := ⟨x_in (i := 181) (by decide +kernel) rfl, x_in (i := 50) (by decide +kernel) rfl, by decide +kernel, by decide +kernel⟩
theorem inst_X5_init : Cond.instanceMethod yX5_init ∈ xT := x_in (i := 180) (by decide +kernel) rfl
theorem okM_X5_lay : xOKM mX5_lay 3 := ⟨x_in (i := 538) (by decide +kernel) rfl, x_in (i := 50) (by decide +kernel) rfl, by decide +kernel, by decide +kernel⟩
theorem inst_X5_lay : Cond.instanceMethod yX5_lay ∈ xT := x_in (i := 536) (by decide +kernel) rfl
theorem sel_X5_lay : Cond.selects RX5 yX5_lay yX5_lay ∈ xT := x_in (i := 537) (by decide +kernel) rfl
theorem okM_X5_laySplit : xOKM mX5_laySplit 2 := ⟨x_in (i := 563) (by decide +kernel) rfl, x_in (i := 50) (by decide +kernel) rfl, by decide +kernel, by decide +kernel⟩
theorem inst_X5_laySplit : Cond.instanceMethod yX5_laySplit ∈ xT := x_in (i := 562) (by decide +kernel) rfl
theorem sel_X5_laySplit : Cond.selects RX5 yX5_laySplit yX5_laySplit ∈ xT := x_in (i := 3) (by decide +kernel) rfl
theorem okM_X5_layRepeat : xOKM mX5_layRepeat 2 := ⟨x_in (i := 555) (by decide +kernel) rfl, x_in (i := 50) (by decide +kernel) rfl, by decide +kernel, by decide +kernel⟩
theorem inst_X5_layRepeat : Cond.instanceMethod yX5_layRepeat ∈ xT := x_in (i := 554) (by decide +kernel) rfl
theorem sel_X5_layRepeat : Cond.selects RX5 yX5_layRepeat yX5_layRepeat ∈ xT := x_in (i := 1) (by decide +kernel) rfl
theorem okM_X5_laidOneAfterAnother : xOKM mX5_laidOneAfterAnother 0 := ⟨x_in (i := 559) (by decide +kernel) rfl, x_in (i := 50) (by decide +kernel) rfl, by decide +kernel, by decide +kernel⟩
theorem inst_X5_laidOneAfterAnother : Cond.instanceMethod yX5_laidOneAfterAnother ∈ xT := x_in (i := 558) (by decide +kernel) rfl
theorem sel_X5_laidOneAfterAnother : Cond.selects RX5 yX5_laidOneAfterAnother yX5_laidOneAfterAnother ∈ xT := x_in (i := 2) (by decide +kernel) rfl
theorem okM_X6_init : xOKM mX6_init 0 := ⟨x_in (i := 80) (by decide +kernel) rfl, x_in (i := 48) (by decide +kernel) rfl, by decide +kernel, by decide +kernel⟩
theorem inst_X6_init : Cond.instanceMethod yX6_init ∈ xT := x_in (i := 79) (by decide +kernel) rfl
theorem okM_X6_empty : xOKM mX6_empty 0 := ⟨x_in (i := 462) (by decide +kernel) rfl, x_in (i := 48) (by decide +kernel) rfl, by decide +kernel, by decide +kernel⟩
theorem inst_X6_empty : Cond.instanceMethod yX6_empty ∈ xT := x_in (i := 460) (by decide +kernel) rfl
theorem sel_X6_empty : Cond.selects RX6 yX6_empty yX6_empty ∈ xT := x_in (i := 461) (by decide +kernel) rfl
theorem okM_X6_add : xOKM mX6_add 3 := ⟨x_in (i := 474) (by decide +kernel) rfl, x_in (i := 48) (by decide +kernel) rfl, by decide +kernel, by decide +kernel⟩
theorem inst_X6_add : Cond.instanceMethod yX6_add ∈ xT := x_in (i := 472) (by decide +kernel) rfl
theorem sel_X6_add : Cond.selects RX6 yX6_add yX6_add ∈ xT := x_in (i := 473) (by decide +kernel) rfl
theorem okM_X6_copy : xOKM mX6_copy 1 := ⟨x_in (i := 486) (by decide +kernel) rfl, x_in (i := 48) (by decide +kernel) rfl, by decide +kernel, by decide +kernel⟩
theorem inst_X6_copy : Cond.instanceMethod yX6_copy ∈ xT := x_in (i := 484) (by decide +kernel) rfl
theorem sel_X6_copy : Cond.selects RX6 yX6_copy yX6_copy ∈ xT := x_in (i := 485) (by decide +kernel) rfl
theorem okM_X7_init : xOKM mX7_init 0 := ⟨x_in (i := 112) (by decide +kernel) rfl, x_in (i := 49) (by decide +kernel) rfl, by decide +kernel, by decide +kernel⟩
theorem inst_X7_init : Cond.instanceMethod yX7_init ∈ xT := x_in (i := 111) (by decide +kernel) rfl
theorem okM_X7_begin : xOKM mX7_begin 3 := ⟨x_in (i := 458) (by decide +kernel) rfl, x_in (i := 49) (by decide +kernel) rfl, by decide +kernel, by decide +kernel⟩
theorem inst_X7_begin : Cond.instanceMethod yX7_begin ∈ xT := x_in (i := 456) (by decide +kernel) rfl
theorem sel_X7_begin : Cond.selects RX7 yX7_begin yX7_begin ∈ xT := x_in (i := 457) (by decide +kernel) rfl
theorem okM_X7_limit : xOKM mX7_limit 3 := ⟨x_in (i := 466) (by decide +kernel) rfl, x_in (i := 49) (by decide +kernel) rfl, by decide +kernel, by decide +kernel⟩
theorem inst_X7_limit : Cond.instanceMethod yX7_limit ∈ xT := x_in (i := 464) (by decide +kernel) rfl
theorem sel_X7_limit : Cond.selects RX7 yX7_limit yX7_limit ∈ xT := x_in (i := 465) (by decide +kernel) rfl
theorem okM_X7_admits : xOKM mX7_admits 2 := ⟨x_in (i := 542) (by decide +kernel) rfl, x_in (i := 49) (by decide +kernel) rfl, by decide +kernel, by decide +kernel⟩
theorem inst_X7_admits : Cond.instanceMethod yX7_admits ∈ xT := x_in (i := 540) (by decide +kernel) rfl
theorem sel_X7_admits : Cond.selects RX7 yX7_admits yX7_admits ∈ xT := x_in (i := 541) (by decide +kernel) rfl
theorem okM_X7_isAlongY : xOKM mX7_isAlongY 0 := ⟨x_in (i := 547) (by decide +kernel) rfl, x_in (i := 49) (by decide +kernel) rfl, by decide +kernel, by decide +kernel⟩
theorem inst_X7_isAlongY : Cond.instanceMethod yX7_isAlongY ∈ xT := x_in (i := 545) (by decide +kernel) rfl
theorem sel_X7_isAlongY : Cond.selects RX7 yX7_isAlongY yX7_isAlongY ∈ xT := x_in (i := 546) (by decide +kernel) rfl
theorem okM_X7_isRepeat : xOKM mX7_isRepeat 0 := ⟨x_in (i := 551) (by decide +kernel) rfl, x_in (i := 49) (by decide +kernel) rfl, by decide +kernel, by decide +kernel⟩
theorem inst_X7_isRepeat : Cond.instanceMethod yX7_isRepeat ∈ xT := x_in (i := 549) (by decide +kernel) rfl
theorem sel_X7_isRepeat : Cond.selects RX7 yX7_isRepeat yX7_isRepeat ∈ xT := x_in (i := 550) (by decide +kernel) rfl
theorem okM_X7_weight : xOKM mX7_weight 0 := ⟨x_in (i := 706) (by decide +kernel) rfl, x_in (i := 49) (by decide +kernel) rfl, by decide +kernel, by decide +kernel⟩
theorem inst_X7_weight : Cond.instanceMethod yX7_weight ∈ xT := x_in (i := 704) (by decide +kernel) rfl
theorem sel_X7_weight : Cond.selects RX7 yX7_weight yX7_weight ∈ xT := x_in (i := 705) (by decide +kernel) rfl
theorem okM_X8_init : xOKM mX8_init 2 := ⟨x_in (i := 324) (by decide +kernel) rfl, x_in (i := 54) (by decide +kernel) rfl, by decide +kernel, by decide +kernel⟩
theorem inst_X8_init : Cond.instanceMethod yX8_init ∈ xT := x_in (i := 323) (by decide +kernel) rfl
theorem okM_X8_begin : xOKM mX8_begin 3 := ⟨x_in (i := 580) (by decide +kernel) rfl, x_in (i := 54) (by decide +kernel) rfl, by decide +kernel, by decide +kernel⟩
theorem inst_X8_begin : Cond.instanceMethod yX8_begin ∈ xT := x_in (i := 578) (by decide +kernel) rfl
theorem sel_X8_begin : Cond.selects RX8 yX8_begin yX8_begin ∈ xT := x_in (i := 579) (by decide +kernel) rfl
theorem okM_X8_push : xOKM mX8_push 7 := ⟨x_in (i := 584) (by decide +kernel) rfl, x_in (i := 54) (by decide +kernel) rfl, by decide +kernel, by decide +kernel⟩
theorem inst_X8_push : Cond.instanceMethod yX8_push ∈ xT := x_in (i := 583) (by decide +kernel) rfl
theorem sel_X8_push : Cond.selects RX8 yX8_push yX8_push ∈ xT := x_in (i := 4) (by decide +kernel) rfl
theorem okM_X8_next : xOKM mX8_next 0 := ⟨x_in (i := 588) (by decide +kernel) rfl, x_in (i := 54) (by decide +kernel) rfl, by decide +kernel, by decide +kernel⟩
theorem inst_X8_next : Cond.instanceMethod yX8_next ∈ xT := x_in (i := 586) (by decide +kernel) rfl
theorem sel_X8_next : Cond.selects RX8 yX8_next yX8_next ∈ xT := x_in (i := 587) (by decide +kernel) rfl
theorem okM_X8_spread : xOKM mX8_spread 1 := ⟨x_in (i := 613) (by decide +kernel) rfl, x_in (i := 54) (by decide +kernel) rfl, by decide +kernel, by decide +kernel⟩
theorem inst_X8_spread : Cond.instanceMethod yX8_spread ∈ xT := x_in (i := 611) (by decide +kernel) rfl
theorem sel_X8_spread : Cond.selects RX8 yX8_spread yX8_spread ∈ xT := x_in (i := 612) (by decide +kernel) rfl
theorem okM_X8_grow : xOKM mX8_grow 4 := ⟨x_in (i := 575) (by decide +kernel) rfl, x_in (i := 54) (by decide +kernel) rfl, by decide +kernel, by decide +kernel⟩
theorem inst_X8_grow : Cond.instanceMethod yX8_grow ∈ xT := x_in (i := 573) (by decide +kernel) rfl
theorem sel_X8_grow : Cond.selects RX8 yX8_grow yX8_grow ∈ xT := x_in (i := 574) (by decide +kernel) rfl
theorem okM_X8_choose : xOKM mX8_choose 0 := ⟨x_in (i := 592) (by decide +kernel) rfl, x_in (i := 54) (by decide +kernel) rfl, by decide +kernel, by decide +kernel⟩
theorem inst_X8_choose : Cond.instanceMethod yX8_choose ∈ xT := x_in (i := 591) (by decide +kernel) rfl
theorem sel_X8_choose : Cond.selects RX8 yX8_choose yX8_choose ∈ xT := x_in (i := 5) (by decide +kernel) rfl
theorem okM_X9_init : xOKM mX9_init 0 := ⟨x_in (i := 64) (by decide +kernel) rfl, x_in (i := 46) (by decide +kernel) rfl, by decide +kernel, by decide +kernel⟩
theorem inst_X9_init : Cond.instanceMethod yX9_init ∈ xT := x_in (i := 63) (by decide +kernel) rfl
theorem okM_X9_fill : xOKM mX9_fill 3 := ⟨x_in (i := 432) (by decide +kernel) rfl, x_in (i := 46) (by decide +kernel) rfl, by decide +kernel, by decide +kernel⟩
theorem inst_X9_fill : Cond.instanceMethod yX9_fill ∈ xT := x_in (i := 430) (by decide +kernel) rfl
theorem sel_X9_fill : Cond.selects RX9 yX9_fill yX9_fill ∈ xT := x_in (i := 431) (by decide +kernel) rfl
theorem okM_X9_part : xOKM mX9_part 3 := ⟨x_in (i := 470) (by decide +kernel) rfl, x_in (i := 46) (by decide +kernel) rfl, by decide +kernel, by decide +kernel⟩
theorem inst_X9_part : Cond.instanceMethod yX9_part ∈ xT := x_in (i := 468) (by decide +kernel) rfl
theorem sel_X9_part : Cond.selects RX9 yX9_part yX9_part ∈ xT := x_in (i := 469) (by decide +kernel) rfl
theorem okM_X9_split : xOKM mX9_split 3 := ⟨x_in (i := 478) (by decide +kernel) rfl, x_in (i := 46) (by decide +kernel) rfl, by decide +kernel, by decide +kernel⟩
theorem inst_X9_split : Cond.instanceMethod yX9_split ∈ xT := x_in (i := 476) (by decide +kernel) rfl
theorem sel_X9_split : Cond.selects RX9 yX9_split yX9_split ∈ xT := x_in (i := 477) (by decide +kernel) rfl
theorem okM_X9_repeat : xOKM mX9_repeat 5 := ⟨x_in (i := 493) (by decide +kernel) rfl, x_in (i := 46) (by decide +kernel) rfl, by decide +kernel, by decide +kernel⟩
theorem inst_X9_repeat : Cond.instanceMethod yX9_repeat ∈ xT := x_in (i := 491) (by decide +kernel) rfl
theorem sel_X9_repeat : Cond.selects RX9 yX9_repeat yX9_repeat ∈ xT := x_in (i := 492) (by decide +kernel) rfl
theorem okM_X9_only : xOKM mX9_only 4 := ⟨x_in (i := 502) (by decide +kernel) rfl, x_in (i := 46) (by decide +kernel) rfl, by decide +kernel, by decide +kernel⟩
theorem inst_X9_only : Cond.instanceMethod yX9_only ∈ xT := x_in (i := 500) (by decide +kernel) rfl
theorem sel_X9_only : Cond.selects RX9 yX9_only yX9_only ∈ xT := x_in (i := 501) (by decide +kernel) rfl
theorem okM_X9_clear : xOKM mX9_clear 0 := ⟨x_in (i := 511) (by decide +kernel) rfl, x_in (i := 46) (by decide +kernel) rfl, by decide +kernel, by decide +kernel⟩
theorem inst_X9_clear : Cond.instanceMethod yX9_clear ∈ xT := x_in (i := 509) (by decide +kernel) rfl
theorem sel_X9_clear : Cond.selects RX9 yX9_clear yX9_clear ∈ xT := x_in (i := 510) (by decide +kernel) rfl
theorem okM_X9_rule : xOKM mX9_rule 2 := ⟨x_in (i := 527) (by decide +kernel) rfl, x_in (i := 46) (by decide +kernel) rfl, by decide +kernel, by decide +kernel⟩
theorem inst_X9_rule : Cond.instanceMethod yX9_rule ∈ xT := x_in (i := 525) (by decide +kernel) rfl
theorem sel_X9_rule : Cond.selects RX9 yX9_rule yX9_rule ∈ xT := x_in (i := 526) (by decide +kernel) rfl
theorem okM_X9_holds : xOKM mX9_holds 3 := ⟨x_in (i := 531) (by decide +kernel) rfl, x_in (i := 46) (by decide +kernel) rfl, by decide +kernel, by decide +kernel⟩
theorem inst_X9_holds : Cond.instanceMethod yX9_holds ∈ xT := x_in (i := 529) (by decide +kernel) rfl
theorem sel_X9_holds : Cond.selects RX9 yX9_holds yX9_holds ∈ xT := x_in (i := 530) (by decide +kernel) rfl
theorem okM_X9_piece : xOKM mX9_piece 5 := ⟨x_in (i := 567) (by decide +kernel) rfl, x_in (i := 46) (by decide +kernel) rfl, by decide +kernel, by decide +kernel⟩
theorem inst_X9_piece : Cond.instanceMethod yX9_piece ∈ xT := x_in (i := 565) (by decide +kernel) rfl
theorem sel_X9_piece : Cond.selects RX9 yX9_piece yX9_piece ∈ xT := x_in (i := 566) (by decide +kernel) rfl
theorem okM_X9_draw : xOKM mX9_draw 3 := ⟨x_in (i := 571) (by decide +kernel) rfl, x_in (i := 46) (by decide +kernel) rfl, by decide +kernel, by decide +kernel⟩
theorem inst_X9_draw : Cond.instanceMethod yX9_draw ∈ xT := x_in (i := 569) (by decide +kernel) rfl
theorem sel_X9_draw : Cond.selects RX9 yX9_draw yX9_draw ∈ xT := x_in (i := 570) (by decide +kernel) rfl
theorem okM_X9_at : xOKM mX9_at 2 := ⟨x_in (i := 618) (by decide +kernel) rfl, x_in (i := 46) (by decide +kernel) rfl, by decide +kernel, by decide +kernel⟩
theorem inst_X9_at : Cond.instanceMethod yX9_at ∈ xT := x_in (i := 616) (by decide +kernel) rfl
theorem sel_X9_at : Cond.selects RX9 yX9_at yX9_at ∈ xT := x_in (i := 617) (by decide +kernel) rfl
theorem okM_X9_step : xOKM mX9_step 1 := ⟨x_in (i := 626) (by decide +kernel) rfl, x_in (i := 46) (by decide +kernel) rfl, by decide +kernel, by decide +kernel⟩
theorem inst_X9_step : Cond.instanceMethod yX9_step ∈ xT := x_in (i := 624) (by decide +kernel) rfl
theorem sel_X9_step : Cond.selects RX9 yX9_step yX9_step ∈ xT := x_in (i := 625) (by decide +kernel) rfl
theorem okM_X9_drawn : xOKM mX9_drawn 0 := ⟨x_in (i := 630) (by decide +kernel) rfl, x_in (i := 46) (by decide +kernel) rfl, by decide +kernel, by decide +kernel⟩
theorem inst_X9_drawn : Cond.instanceMethod yX9_drawn ∈ xT := x_in (i := 628) (by decide +kernel) rfl
theorem sel_X9_drawn : Cond.selects RX9 yX9_drawn yX9_drawn ∈ xT := x_in (i := 629) (by decide +kernel) rfl
theorem okM_X9_fault : xOKM mX9_fault 0 := ⟨x_in (i := 634) (by decide +kernel) rfl, x_in (i := 46) (by decide +kernel) rfl, by decide +kernel, by decide +kernel⟩
theorem inst_X9_fault : Cond.instanceMethod yX9_fault ∈ xT := x_in (i := 632) (by decide +kernel) rfl
theorem sel_X9_fault : Cond.selects RX9 yX9_fault yX9_fault ∈ xT := x_in (i := 633) (by decide +kernel) rfl
theorem okM_X9_take : xOKM mX9_take 0 := ⟨x_in (i := 638) (by decide +kernel) rfl, x_in (i := 46) (by decide +kernel) rfl, by decide +kernel, by decide +kernel⟩
theorem inst_X9_take : Cond.instanceMethod yX9_take ∈ xT := x_in (i := 636) (by decide +kernel) rfl
theorem sel_X9_take : Cond.selects RX9 yX9_take yX9_take ∈ xT := x_in (i := 637) (by decide +kernel) rfl
theorem okM_X9_ways : xOKM mX9_ways 3 := ⟨x_in (i := 657) (by decide +kernel) rfl, x_in (i := 46) (by decide +kernel) rfl, by decide +kernel, by decide +kernel⟩
theorem inst_X9_ways : Cond.instanceMethod yX9_ways ∈ xT := x_in (i := 655) (by decide +kernel) rfl
theorem sel_X9_ways : Cond.selects RX9 yX9_ways yX9_ways ∈ xT := x_in (i := 656) (by decide +kernel) rfl
theorem okM_X9_least : xOKM mX9_least 3 := ⟨x_in (i := 781) (by decide +kernel) rfl, x_in (i := 46) (by decide +kernel) rfl, by decide +kernel, by decide +kernel⟩
theorem inst_X9_least : Cond.instanceMethod yX9_least ∈ xT := x_in (i := 779) (by decide +kernel) rfl
theorem sel_X9_least : Cond.selects RX9 yX9_least yX9_least ∈ xT := x_in (i := 780) (by decide +kernel) rfl
theorem okM_X9_board : xOKM mX9_board 2 := ⟨x_in (i := 790) (by decide +kernel) rfl, x_in (i := 46) (by decide +kernel) rfl, by decide +kernel, by decide +kernel⟩
theorem inst_X9_board : Cond.instanceMethod yX9_board ∈ xT := x_in (i := 788) (by decide +kernel) rfl
theorem sel_X9_board : Cond.selects RX9 yX9_board yX9_board ∈ xT := x_in (i := 789) (by decide +kernel) rfl
theorem okM_X9_put : xOKM mX9_put 2 := ⟨x_in (i := 794) (by decide +kernel) rfl, x_in (i := 46) (by decide +kernel) rfl, by decide +kernel, by decide +kernel⟩
theorem inst_X9_put : Cond.instanceMethod yX9_put ∈ xT := x_in (i := 792) (by decide +kernel) rfl
theorem sel_X9_put : Cond.selects RX9 yX9_put yX9_put ∈ xT := x_in (i := 793) (by decide +kernel) rfl
theorem okM_X9_parses : xOKM mX9_parses 0 := ⟨x_in (i := 799) (by decide +kernel) rfl, x_in (i := 46) (by decide +kernel) rfl, by decide +kernel, by decide +kernel⟩
theorem inst_X9_parses : Cond.instanceMethod yX9_parses ∈ xT := x_in (i := 797) (by decide +kernel) rfl
theorem sel_X9_parses : Cond.selects RX9 yX9_parses yX9_parses ∈ xT := x_in (i := 798) (by decide +kernel) rfl
theorem okM_X9_best : xOKM mX9_best 0 := ⟨x_in (i := 807) (by decide +kernel) rfl, x_in (i := 46) (by decide +kernel) rfl, by decide +kernel, by decide +kernel⟩
theorem inst_X9_best : Cond.instanceMethod yX9_best ∈ xT := x_in (i := 805) (by decide +kernel) rfl
theorem sel_X9_best : Cond.selects RX9 yX9_best yX9_best ∈ xT := x_in (i := 806) (by decide +kernel) rfl
theorem okM_X9_bestStep : xOKM mX9_bestStep 1 := ⟨x_in (i := 811) (by decide +kernel) rfl, x_in (i := 46) (by decide +kernel) rfl, by decide +kernel, by decide +kernel⟩
theorem inst_X9_bestStep : Cond.instanceMethod yX9_bestStep ∈ xT := x_in (i := 809) (by decide +kernel) rfl
theorem sel_X9_bestStep : Cond.selects RX9 yX9_bestStep yX9_bestStep ∈ xT := x_in (i := 810) (by decide +kernel) rfl
theorem okM_X9_stands : xOKM mX9_stands 4 := ⟨x_in (i := 826) (by decide +kernel) rfl, x_in (i := 46) (by decide +kernel) rfl, by decide +kernel, by decide +kernel⟩
theorem inst_X9_stands : Cond.instanceMethod yX9_stands ∈ xT := x_in (i := 824) (by decide +kernel) rfl
theorem sel_X9_stands : Cond.selects RX9 yX9_stands yX9_stands ∈ xT := x_in (i := 825) (by decide +kernel) rfl
theorem okM_X9_count : xOKM mX9_count 1 := ⟨x_in (i := 830) (by decide +kernel) rfl, x_in (i := 46) (by decide +kernel) rfl, by decide +kernel, by decide +kernel⟩
theorem inst_X9_count : Cond.instanceMethod yX9_count ∈ xT := x_in (i := 828) (by decide +kernel) rfl
theorem sel_X9_count : Cond.selects RX9 yX9_count yX9_count ∈ xT := x_in (i := 829) (by decide +kernel) rfl
theorem okM_X9_settleBoard : xOKM mX9_settleBoard 0 := ⟨x_in (i := 803) (by decide +kernel) rfl, x_in (i := 46) (by decide +kernel) rfl, by decide +kernel, by decide +kernel⟩
theorem inst_X9_settleBoard : Cond.instanceMethod yX9_settleBoard ∈ xT := x_in (i := 802) (by decide +kernel) rfl
theorem sel_X9_settleBoard : Cond.selects RX9 yX9_settleBoard yX9_settleBoard ∈ xT := x_in (i := 19) (by decide +kernel) rfl
theorem okM_X9_forgetParses : xOKM mX9_forgetParses 0 := ⟨x_in (i := 449) (by decide +kernel) rfl, x_in (i := 46) (by decide +kernel) rfl, by decide +kernel, by decide +kernel⟩
theorem inst_X9_forgetParses : Cond.instanceMethod yX9_forgetParses ∈ xT := x_in (i := 448) (by decide +kernel) rfl
theorem sel_X9_forgetParses : Cond.selects RX9 yX9_forgetParses yX9_forgetParses ∈ xT := x_in (i := 0) (by decide +kernel) rfl
theorem okM_X9_isName : xOKM mX9_isName 1 := ⟨x_in (i := 435) (by decide +kernel) rfl, x_in (i := 46) (by decide +kernel) rfl, by decide +kernel, by decide +kernel⟩
theorem stat_X9_isName : Cond.static yX9_isName ∈ xT := x_in (i := 434) (by decide +kernel) rfl
theorem okM_X9_isCost : xOKM mX9_isCost 1 := ⟨x_in (i := 441) (by decide +kernel) rfl, x_in (i := 46) (by decide +kernel) rfl, by decide +kernel, by decide +kernel⟩
theorem stat_X9_isCost : Cond.static yX9_isCost ∈ xT := x_in (i := 440) (by decide +kernel) rfl
theorem okM_X9_isScope : xOKM mX9_isScope 2 := ⟨x_in (i := 534) (by decide +kernel) rfl, x_in (i := 46) (by decide +kernel) rfl, by decide +kernel, by decide +kernel⟩
theorem stat_X9_isScope : Cond.static yX9_isScope ∈ xT := x_in (i := 533) (by decide +kernel) rfl
theorem okM_X9_isWithin : xOKM mX9_isWithin 3 := ⟨x_in (i := 438) (by decide +kernel) rfl, x_in (i := 46) (by decide +kernel) rfl, by decide +kernel, by decide +kernel⟩
theorem stat_X9_isWithin : Cond.static yX9_isWithin ∈ xT := x_in (i := 437) (by decide +kernel) rfl
theorem okM_X10_init : xOKM mX10_init 0 := ⟨x_in (i := 835) (by decide +kernel) rfl, x_in (i := 56) (by decide +kernel) rfl, by decide +kernel, by decide +kernel⟩
theorem inst_X10_init : Cond.instanceMethod yX10_init ∈ xT := x_in (i := 834) (by decide +kernel) rfl
theorem okM_X10_in : xOKM mX10_in 3 := ⟨x_in (i := 1007) (by decide +kernel) rfl, x_in (i := 56) (by decide +kernel) rfl, by decide +kernel, by decide +kernel⟩
theorem stat_X10_in : Cond.static yX10_in ∈ xT := x_in (i := 1006) (by decide +kernel) rfl
theorem okM_X10_isName : xOKM mX10_isName 1 := ⟨x_in (i := 1003) (by decide +kernel) rfl, x_in (i := 56) (by decide +kernel) rfl, by decide +kernel, by decide +kernel⟩
theorem stat_X10_isName : Cond.static yX10_isName ∈ xT := x_in (i := 1002) (by decide +kernel) rfl
theorem okM_X10_add : xOKM mX10_add 4 := ⟨x_in (i := 1013) (by decide +kernel) rfl, x_in (i := 56) (by decide +kernel) rfl, by decide +kernel, by decide +kernel⟩
theorem inst_X10_add : Cond.instanceMethod yX10_add ∈ xT := x_in (i := 1012) (by decide +kernel) rfl
theorem sel_X10_add : Cond.selects RX10 yX10_add yX10_add ∈ xT := x_in (i := 21) (by decide +kernel) rfl
theorem okM_X10_addPart : xOKM mX10_addPart 4 := ⟨x_in (i := 1031) (by decide +kernel) rfl, x_in (i := 56) (by decide +kernel) rfl, by decide +kernel, by decide +kernel⟩
theorem inst_X10_addPart : Cond.instanceMethod yX10_addPart ∈ xT := x_in (i := 1030) (by decide +kernel) rfl
theorem sel_X10_addPart : Cond.selects RX10 yX10_addPart yX10_addPart ∈ xT := x_in (i := 23) (by decide +kernel) rfl
theorem okM_X10_fill : xOKM mX10_fill 3 := ⟨x_in (i := 1000) (by decide +kernel) rfl, x_in (i := 56) (by decide +kernel) rfl, by decide +kernel, by decide +kernel⟩
theorem inst_X10_fill : Cond.instanceMethod yX10_fill ∈ xT := x_in (i := 998) (by decide +kernel) rfl
theorem sel_X10_fill : Cond.selects RX10 yX10_fill yX10_fill ∈ xT := x_in (i := 999) (by decide +kernel) rfl
theorem okM_X10_part : xOKM mX10_part 3 := ⟨x_in (i := 1021) (by decide +kernel) rfl, x_in (i := 56) (by decide +kernel) rfl, by decide +kernel, by decide +kernel⟩
theorem inst_X10_part : Cond.instanceMethod yX10_part ∈ xT := x_in (i := 1019) (by decide +kernel) rfl
theorem sel_X10_part : Cond.selects RX10 yX10_part yX10_part ∈ xT := x_in (i := 1020) (by decide +kernel) rfl
theorem okM_X10_split : xOKM mX10_split 3 := ⟨x_in (i := 1027) (by decide +kernel) rfl, x_in (i := 56) (by decide +kernel) rfl, by decide +kernel, by decide +kernel⟩
theorem inst_X10_split : Cond.instanceMethod yX10_split ∈ xT := x_in (i := 1025) (by decide +kernel) rfl
theorem sel_X10_split : Cond.selects RX10 yX10_split yX10_split ∈ xT := x_in (i := 1026) (by decide +kernel) rfl
theorem okM_X10_repeat : xOKM mX10_repeat 5 := ⟨x_in (i := 1035) (by decide +kernel) rfl, x_in (i := 56) (by decide +kernel) rfl, by decide +kernel, by decide +kernel⟩
theorem inst_X10_repeat : Cond.instanceMethod yX10_repeat ∈ xT := x_in (i := 1033) (by decide +kernel) rfl
theorem sel_X10_repeat : Cond.selects RX10 yX10_repeat yX10_repeat ∈ xT := x_in (i := 1034) (by decide +kernel) rfl
theorem okM_X10_isRule : xOKM mX10_isRule 1 := ⟨x_in (i := 1043) (by decide +kernel) rfl, x_in (i := 56) (by decide +kernel) rfl, by decide +kernel, by decide +kernel⟩
theorem inst_X10_isRule : Cond.instanceMethod yX10_isRule ∈ xT := x_in (i := 1042) (by decide +kernel) rfl
theorem sel_X10_isRule : Cond.selects RX10 yX10_isRule yX10_isRule ∈ xT := x_in (i := 24) (by decide +kernel) rfl
theorem okM_X10_isLength : xOKM mX10_isLength 1 := ⟨x_in (i := 1046) (by decide +kernel) rfl, x_in (i := 56) (by decide +kernel) rfl, by decide +kernel, by decide +kernel⟩
theorem stat_X10_isLength : Cond.static yX10_isLength ∈ xT := x_in (i := 1045) (by decide +kernel) rfl
theorem okM_X10_only : xOKM mX10_only 4 := ⟨x_in (i := 1039) (by decide +kernel) rfl, x_in (i := 56) (by decide +kernel) rfl, by decide +kernel, by decide +kernel⟩
theorem inst_X10_only : Cond.instanceMethod yX10_only ∈ xT := x_in (i := 1037) (by decide +kernel) rfl
theorem sel_X10_only : Cond.selects RX10 yX10_only yX10_only ∈ xT := x_in (i := 1038) (by decide +kernel) rfl
theorem okM_X10_clear : xOKM mX10_clear 0 := ⟨x_in (i := 1050) (by decide +kernel) rfl, x_in (i := 56) (by decide +kernel) rfl, by decide +kernel, by decide +kernel⟩
theorem inst_X10_clear : Cond.instanceMethod yX10_clear ∈ xT := x_in (i := 1048) (by decide +kernel) rfl
theorem sel_X10_clear : Cond.selects RX10 yX10_clear yX10_clear ∈ xT := x_in (i := 1049) (by decide +kernel) rfl
theorem okM_X10_rule : xOKM mX10_rule 2 := ⟨x_in (i := 1054) (by decide +kernel) rfl, x_in (i := 56) (by decide +kernel) rfl, by decide +kernel, by decide +kernel⟩
theorem inst_X10_rule : Cond.instanceMethod yX10_rule ∈ xT := x_in (i := 1052) (by decide +kernel) rfl
theorem sel_X10_rule : Cond.selects RX10 yX10_rule yX10_rule ∈ xT := x_in (i := 1053) (by decide +kernel) rfl
theorem okM_X10_isAlongY : xOKM mX10_isAlongY 1 := ⟨x_in (i := 1066) (by decide +kernel) rfl, x_in (i := 56) (by decide +kernel) rfl, by decide +kernel, by decide +kernel⟩
theorem inst_X10_isAlongY : Cond.instanceMethod yX10_isAlongY ∈ xT := x_in (i := 1065) (by decide +kernel) rfl
theorem sel_X10_isAlongY : Cond.selects RX10 yX10_isAlongY yX10_isAlongY ∈ xT := x_in (i := 26) (by decide +kernel) rfl
theorem okM_X10_layRepeat : xOKM mX10_layRepeat 2 := ⟨x_in (i := 1074) (by decide +kernel) rfl, x_in (i := 56) (by decide +kernel) rfl, by decide +kernel, by decide +kernel⟩
theorem inst_X10_layRepeat : Cond.instanceMethod yX10_layRepeat ∈ xT := x_in (i := 1073) (by decide +kernel) rfl
theorem sel_X10_layRepeat : Cond.selects RX10 yX10_layRepeat yX10_layRepeat ∈ xT := x_in (i := 28) (by decide +kernel) rfl
theorem okM_X10_laySplit : xOKM mX10_laySplit 2 := ⟨x_in (i := 1070) (by decide +kernel) rfl, x_in (i := 56) (by decide +kernel) rfl, by decide +kernel, by decide +kernel⟩
theorem inst_X10_laySplit : Cond.instanceMethod yX10_laySplit ∈ xT := x_in (i := 1069) (by decide +kernel) rfl
theorem sel_X10_laySplit : Cond.selects RX10 yX10_laySplit yX10_laySplit ∈ xT := x_in (i := 27) (by decide +kernel) rfl
theorem okM_X10_lay : xOKM mX10_lay 3 := ⟨x_in (i := 1062) (by decide +kernel) rfl, x_in (i := 56) (by decide +kernel) rfl, by decide +kernel, by decide +kernel⟩
theorem inst_X10_lay : Cond.instanceMethod yX10_lay ∈ xT := x_in (i := 1061) (by decide +kernel) rfl
theorem sel_X10_lay : Cond.selects RX10 yX10_lay yX10_lay ∈ xT := x_in (i := 25) (by decide +kernel) rfl
theorem okM_X10_holds : xOKM mX10_holds 3 := ⟨x_in (i := 1058) (by decide +kernel) rfl, x_in (i := 56) (by decide +kernel) rfl, by decide +kernel, by decide +kernel⟩
theorem inst_X10_holds : Cond.instanceMethod yX10_holds ∈ xT := x_in (i := 1056) (by decide +kernel) rfl
theorem sel_X10_holds : Cond.selects RX10 yX10_holds yX10_holds ∈ xT := x_in (i := 1057) (by decide +kernel) rfl
theorem okM_X10_piece : xOKM mX10_piece 5 := ⟨x_in (i := 1078) (by decide +kernel) rfl, x_in (i := 56) (by decide +kernel) rfl, by decide +kernel, by decide +kernel⟩
theorem inst_X10_piece : Cond.instanceMethod yX10_piece ∈ xT := x_in (i := 1076) (by decide +kernel) rfl
theorem sel_X10_piece : Cond.selects RX10 yX10_piece yX10_piece ∈ xT := x_in (i := 1077) (by decide +kernel) rfl
theorem okM_X10_put : xOKM mX10_put 5 := ⟨x_in (i := 1086) (by decide +kernel) rfl, x_in (i := 56) (by decide +kernel) rfl, by decide +kernel, by decide +kernel⟩
theorem inst_X10_put : Cond.instanceMethod yX10_put ∈ xT := x_in (i := 1085) (by decide +kernel) rfl
theorem sel_X10_put : Cond.selects RX10 yX10_put yX10_put ∈ xT := x_in (i := 29) (by decide +kernel) rfl
theorem okM_X10_picked : xOKM mX10_picked 4 := ⟨x_in (i := 1090) (by decide +kernel) rfl, x_in (i := 56) (by decide +kernel) rfl, by decide +kernel, by decide +kernel⟩
theorem inst_X10_picked : Cond.instanceMethod yX10_picked ∈ xT := x_in (i := 1089) (by decide +kernel) rfl
theorem sel_X10_picked : Cond.selects RX10 yX10_picked yX10_picked ∈ xT := x_in (i := 30) (by decide +kernel) rfl
theorem okM_X10_putPieces : xOKM mX10_putPieces 7 := ⟨x_in (i := 1099) (by decide +kernel) rfl, x_in (i := 56) (by decide +kernel) rfl, by decide +kernel, by decide +kernel⟩
theorem inst_X10_putPieces : Cond.instanceMethod yX10_putPieces ∈ xT := x_in (i := 1098) (by decide +kernel) rfl
theorem sel_X10_putPieces : Cond.selects RX10 yX10_putPieces yX10_putPieces ∈ xT := x_in (i := 32) (by decide +kernel) rfl
theorem okM_X10_draw : xOKM mX10_draw 3 := ⟨x_in (i := 1082) (by decide +kernel) rfl, x_in (i := 56) (by decide +kernel) rfl, by decide +kernel, by decide +kernel⟩
theorem inst_X10_draw : Cond.instanceMethod yX10_draw ∈ xT := x_in (i := 1080) (by decide +kernel) rfl
theorem sel_X10_draw : Cond.selects RX10 yX10_draw yX10_draw ∈ xT := x_in (i := 1081) (by decide +kernel) rfl
theorem okM_X10_fillDraft : xOKM mX10_fillDraft 5 := ⟨x_in (i := 1095) (by decide +kernel) rfl, x_in (i := 56) (by decide +kernel) rfl, by decide +kernel, by decide +kernel⟩
theorem inst_X10_fillDraft : Cond.instanceMethod yX10_fillDraft ∈ xT := x_in (i := 1094) (by decide +kernel) rfl
theorem sel_X10_fillDraft : Cond.selects RX10 yX10_fillDraft yX10_fillDraft ∈ xT := x_in (i := 31) (by decide +kernel) rfl
theorem okM_X10_at : xOKM mX10_at 2 := ⟨x_in (i := 1103) (by decide +kernel) rfl, x_in (i := 56) (by decide +kernel) rfl, by decide +kernel, by decide +kernel⟩
theorem inst_X10_at : Cond.instanceMethod yX10_at ∈ xT := x_in (i := 1101) (by decide +kernel) rfl
theorem sel_X10_at : Cond.selects RX10 yX10_at yX10_at ∈ xT := x_in (i := 1102) (by decide +kernel) rfl
theorem okM_X10_step : xOKM mX10_step 1 := ⟨x_in (i := 1107) (by decide +kernel) rfl, x_in (i := 56) (by decide +kernel) rfl, by decide +kernel, by decide +kernel⟩
theorem inst_X10_step : Cond.instanceMethod yX10_step ∈ xT := x_in (i := 1105) (by decide +kernel) rfl
theorem sel_X10_step : Cond.selects RX10 yX10_step yX10_step ∈ xT := x_in (i := 1106) (by decide +kernel) rfl
theorem okM_X10_drawn : xOKM mX10_drawn 0 := ⟨x_in (i := 1111) (by decide +kernel) rfl, x_in (i := 56) (by decide +kernel) rfl, by decide +kernel, by decide +kernel⟩
theorem inst_X10_drawn : Cond.instanceMethod yX10_drawn ∈ xT := x_in (i := 1109) (by decide +kernel) rfl
theorem sel_X10_drawn : Cond.selects RX10 yX10_drawn yX10_drawn ∈ xT := x_in (i := 1110) (by decide +kernel) rfl
theorem okM_X10_fault : xOKM mX10_fault 0 := ⟨x_in (i := 1115) (by decide +kernel) rfl, x_in (i := 56) (by decide +kernel) rfl, by decide +kernel, by decide +kernel⟩
theorem inst_X10_fault : Cond.instanceMethod yX10_fault ∈ xT := x_in (i := 1113) (by decide +kernel) rfl
theorem sel_X10_fault : Cond.selects RX10 yX10_fault yX10_fault ∈ xT := x_in (i := 1114) (by decide +kernel) rfl
theorem okM_X10_take : xOKM mX10_take 0 := ⟨x_in (i := 1119) (by decide +kernel) rfl, x_in (i := 56) (by decide +kernel) rfl, by decide +kernel, by decide +kernel⟩
theorem inst_X10_take : Cond.instanceMethod yX10_take ∈ xT := x_in (i := 1117) (by decide +kernel) rfl
theorem sel_X10_take : Cond.selects RX10 yX10_take yX10_take ∈ xT := x_in (i := 1118) (by decide +kernel) rfl
theorem okM_X10_boards : xOKM mX10_boards 2 := ⟨x_in (i := 841) (by decide +kernel) rfl, x_in (i := 56) (by decide +kernel) rfl, by decide +kernel, by decide +kernel⟩
theorem inst_X10_boards : Cond.instanceMethod yX10_boards ∈ xT := x_in (i := 840) (by decide +kernel) rfl
theorem sel_X10_boards : Cond.selects RX10 yX10_boards yX10_boards ∈ xT := x_in (i := 20) (by decide +kernel) rfl
theorem okM_X10_board : xOKM mX10_board 2 := ⟨x_in (i := 1123) (by decide +kernel) rfl, x_in (i := 56) (by decide +kernel) rfl, by decide +kernel, by decide +kernel⟩
theorem inst_X10_board : Cond.instanceMethod yX10_board ∈ xT := x_in (i := 1121) (by decide +kernel) rfl
theorem sel_X10_board : Cond.selects RX10 yX10_board yX10_board ∈ xT := x_in (i := 1122) (by decide +kernel) rfl
theorem okM_X10_isPlace : xOKM mX10_isPlace 1 := ⟨x_in (i := 1131) (by decide +kernel) rfl, x_in (i := 56) (by decide +kernel) rfl, by decide +kernel, by decide +kernel⟩
theorem inst_X10_isPlace : Cond.instanceMethod yX10_isPlace ∈ xT := x_in (i := 1130) (by decide +kernel) rfl
theorem sel_X10_isPlace : Cond.selects RX10 yX10_isPlace yX10_isPlace ∈ xT := x_in (i := 33) (by decide +kernel) rfl
theorem okM_X10_put_ : xOKM mX10_put_ 2 := ⟨x_in (i := 1127) (by decide +kernel) rfl, x_in (i := 56) (by decide +kernel) rfl, by decide +kernel, by decide +kernel⟩
theorem inst_X10_put_ : Cond.instanceMethod yX10_put_ ∈ xT := x_in (i := 1125) (by decide +kernel) rfl
theorem sel_X10_put_ : Cond.selects RX10 yX10_put_ yX10_put_ ∈ xT := x_in (i := 1126) (by decide +kernel) rfl
theorem okM_X10_place : xOKM mX10_place 4 := ⟨x_in (i := 1150) (by decide +kernel) rfl, x_in (i := 56) (by decide +kernel) rfl, by decide +kernel, by decide +kernel⟩
theorem inst_X10_place : Cond.instanceMethod yX10_place ∈ xT := x_in (i := 1149) (by decide +kernel) rfl
theorem sel_X10_place : Cond.selects RX10 yX10_place yX10_place ∈ xT := x_in (i := 36) (by decide +kernel) rfl
theorem okM_X10_isAll : xOKM mX10_isAll 5 := ⟨x_in (i := 1159) (by decide +kernel) rfl, x_in (i := 56) (by decide +kernel) rfl, by decide +kernel, by decide +kernel⟩
theorem inst_X10_isAll : Cond.instanceMethod yX10_isAll ∈ xT := x_in (i := 1158) (by decide +kernel) rfl
theorem sel_X10_isAll : Cond.selects RX10 yX10_isAll yX10_isAll ∈ xT := x_in (i := 38) (by decide +kernel) rfl
theorem okM_X10_plus : xOKM mX10_plus 2 := ⟨x_in (i := 1162) (by decide +kernel) rfl, x_in (i := 56) (by decide +kernel) rfl, by decide +kernel, by decide +kernel⟩
theorem stat_X10_plus : Cond.static yX10_plus ∈ xT := x_in (i := 1161) (by decide +kernel) rfl
theorem okM_X10_mult : xOKM mX10_mult 2 := ⟨x_in (i := 1167) (by decide +kernel) rfl, x_in (i := 56) (by decide +kernel) rfl, by decide +kernel, by decide +kernel⟩
theorem stat_X10_mult : Cond.static yX10_mult ∈ xT := x_in (i := 1166) (by decide +kernel) rfl
theorem okM_X10_count : xOKM mX10_count 5 := ⟨x_in (i := 1155) (by decide +kernel) rfl, x_in (i := 56) (by decide +kernel) rfl, by decide +kernel, by decide +kernel⟩
theorem inst_X10_count : Cond.instanceMethod yX10_count ∈ xT := x_in (i := 1154) (by decide +kernel) rfl
theorem sel_X10_count : Cond.selects RX10 yX10_count yX10_count ∈ xT := x_in (i := 37) (by decide +kernel) rfl
theorem okM_X10_findMade : xOKM mX10_findMade 0 := ⟨x_in (i := 1175) (by decide +kernel) rfl, x_in (i := 56) (by decide +kernel) rfl, by decide +kernel, by decide +kernel⟩
theorem inst_X10_findMade : Cond.instanceMethod yX10_findMade ∈ xT := x_in (i := 1174) (by decide +kernel) rfl
theorem sel_X10_findMade : Cond.selects RX10 yX10_findMade yX10_findMade ∈ xT := x_in (i := 40) (by decide +kernel) rfl
theorem okM_X10_isEndless : xOKM mX10_isEndless 1 := ⟨x_in (i := 1179) (by decide +kernel) rfl, x_in (i := 56) (by decide +kernel) rfl, by decide +kernel, by decide +kernel⟩
theorem inst_X10_isEndless : Cond.instanceMethod yX10_isEndless ∈ xT := x_in (i := 1178) (by decide +kernel) rfl
theorem sel_X10_isEndless : Cond.selects RX10 yX10_isEndless yX10_isEndless ∈ xT := x_in (i := 41) (by decide +kernel) rfl
theorem okM_X10_sum : xOKM mX10_sum 1 := ⟨x_in (i := 1171) (by decide +kernel) rfl, x_in (i := 56) (by decide +kernel) rfl, by decide +kernel, by decide +kernel⟩
theorem inst_X10_sum : Cond.instanceMethod yX10_sum ∈ xT := x_in (i := 1170) (by decide +kernel) rfl
theorem sel_X10_sum : Cond.selects RX10 yX10_sum yX10_sum ∈ xT := x_in (i := 39) (by decide +kernel) rfl
theorem okM_X10_tries : xOKM mX10_tries 5 := ⟨x_in (i := 1187) (by decide +kernel) rfl, x_in (i := 56) (by decide +kernel) rfl, by decide +kernel, by decide +kernel⟩
theorem inst_X10_tries : Cond.instanceMethod yX10_tries ∈ xT := x_in (i := 1186) (by decide +kernel) rfl
theorem sel_X10_tries : Cond.selects RX10 yX10_tries yX10_tries ∈ xT := x_in (i := 43) (by decide +kernel) rfl
theorem okM_X10_improve : xOKM mX10_improve 5 := ⟨x_in (i := 1183) (by decide +kernel) rfl, x_in (i := 56) (by decide +kernel) rfl, by decide +kernel, by decide +kernel⟩
theorem inst_X10_improve : Cond.instanceMethod yX10_improve ∈ xT := x_in (i := 1182) (by decide +kernel) rfl
theorem sel_X10_improve : Cond.selects RX10 yX10_improve yX10_improve ∈ xT := x_in (i := 42) (by decide +kernel) rfl
theorem okM_X10_work : xOKM mX10_work 4 := ⟨x_in (i := 1146) (by decide +kernel) rfl, x_in (i := 56) (by decide +kernel) rfl, by decide +kernel, by decide +kernel⟩
theorem inst_X10_work : Cond.instanceMethod yX10_work ∈ xT := x_in (i := 1145) (by decide +kernel) rfl
theorem sel_X10_work : Cond.selects RX10 yX10_work yX10_work ∈ xT := x_in (i := 35) (by decide +kernel) rfl
theorem okM_X10_workScopes : xOKM mX10_workScopes 0 := ⟨x_in (i := 1142) (by decide +kernel) rfl, x_in (i := 56) (by decide +kernel) rfl, by decide +kernel, by decide +kernel⟩
theorem inst_X10_workScopes : Cond.instanceMethod yX10_workScopes ∈ xT := x_in (i := 1141) (by decide +kernel) rfl
theorem sel_X10_workScopes : Cond.selects RX10 yX10_workScopes yX10_workScopes ∈ xT := x_in (i := 34) (by decide +kernel) rfl
theorem okM_X10_forget : xOKM mX10_forget 0 := ⟨x_in (i := 1017) (by decide +kernel) rfl, x_in (i := 56) (by decide +kernel) rfl, by decide +kernel, by decide +kernel⟩
theorem inst_X10_forget : Cond.instanceMethod yX10_forget ∈ xT := x_in (i := 1016) (by decide +kernel) rfl
theorem sel_X10_forget : Cond.selects RX10 yX10_forget yX10_forget ∈ xT := x_in (i := 22) (by decide +kernel) rfl
theorem okM_X10_workBoard : xOKM mX10_workBoard 0 := ⟨x_in (i := 1199) (by decide +kernel) rfl, x_in (i := 56) (by decide +kernel) rfl, by decide +kernel, by decide +kernel⟩
theorem inst_X10_workBoard : Cond.instanceMethod yX10_workBoard ∈ xT := x_in (i := 1198) (by decide +kernel) rfl
theorem sel_X10_workBoard : Cond.selects RX10 yX10_workBoard yX10_workBoard ∈ xT := x_in (i := 44) (by decide +kernel) rfl
theorem okM_X10_ways : xOKM mX10_ways 3 := ⟨x_in (i := 1136) (by decide +kernel) rfl, x_in (i := 56) (by decide +kernel) rfl, by decide +kernel, by decide +kernel⟩
theorem inst_X10_ways : Cond.instanceMethod yX10_ways ∈ xT := x_in (i := 1134) (by decide +kernel) rfl
theorem sel_X10_ways : Cond.selects RX10 yX10_ways yX10_ways ∈ xT := x_in (i := 1135) (by decide +kernel) rfl
theorem okM_X10_least : xOKM mX10_least 3 := ⟨x_in (i := 1191) (by decide +kernel) rfl, x_in (i := 56) (by decide +kernel) rfl, by decide +kernel, by decide +kernel⟩
theorem inst_X10_least : Cond.instanceMethod yX10_least ∈ xT := x_in (i := 1189) (by decide +kernel) rfl
theorem sel_X10_least : Cond.selects RX10 yX10_least yX10_least ∈ xT := x_in (i := 1190) (by decide +kernel) rfl
theorem okM_X10_parses : xOKM mX10_parses 0 := ⟨x_in (i := 1195) (by decide +kernel) rfl, x_in (i := 56) (by decide +kernel) rfl, by decide +kernel, by decide +kernel⟩
theorem inst_X10_parses : Cond.instanceMethod yX10_parses ∈ xT := x_in (i := 1193) (by decide +kernel) rfl
theorem sel_X10_parses : Cond.selects RX10 yX10_parses yX10_parses ∈ xT := x_in (i := 1194) (by decide +kernel) rfl
theorem okM_X10_best : xOKM mX10_best 0 := ⟨x_in (i := 1203) (by decide +kernel) rfl, x_in (i := 56) (by decide +kernel) rfl, by decide +kernel, by decide +kernel⟩
theorem inst_X10_best : Cond.instanceMethod yX10_best ∈ xT := x_in (i := 1201) (by decide +kernel) rfl
theorem sel_X10_best : Cond.selects RX10 yX10_best yX10_best ∈ xT := x_in (i := 1202) (by decide +kernel) rfl
theorem okM_X10_bestStep : xOKM mX10_bestStep 1 := ⟨x_in (i := 1207) (by decide +kernel) rfl, x_in (i := 56) (by decide +kernel) rfl, by decide +kernel, by decide +kernel⟩
theorem inst_X10_bestStep : Cond.instanceMethod yX10_bestStep ∈ xT := x_in (i := 1205) (by decide +kernel) rfl
theorem sel_X10_bestStep : Cond.selects RX10 yX10_bestStep yX10_bestStep ∈ xT := x_in (i := 1206) (by decide +kernel) rfl
theorem okM_X10_stands : xOKM mX10_stands 4 := ⟨x_in (i := 1211) (by decide +kernel) rfl, x_in (i := 56) (by decide +kernel) rfl, by decide +kernel, by decide +kernel⟩
theorem inst_X10_stands : Cond.instanceMethod yX10_stands ∈ xT := x_in (i := 1209) (by decide +kernel) rfl
theorem sel_X10_stands : Cond.selects RX10 yX10_stands yX10_stands ∈ xT := x_in (i := 1210) (by decide +kernel) rfl
theorem okM_X10_count_ : xOKM mX10_count_ 1 := ⟨x_in (i := 1215) (by decide +kernel) rfl, x_in (i := 56) (by decide +kernel) rfl, by decide +kernel, by decide +kernel⟩
theorem inst_X10_count_ : Cond.instanceMethod yX10_count_ ∈ xT := x_in (i := 1213) (by decide +kernel) rfl
theorem sel_X10_count_ : Cond.selects RX10 yX10_count_ yX10_count_ ∈ xT := x_in (i := 1214) (by decide +kernel) rfl
theorem okM_J7_rangeCheck_23922 : xOKM mJ7_rangeCheck_23922 3 := ⟨x_in (i := 609) (by decide +kernel) rfl, x_in (i := 57) (by decide +kernel) rfl, by decide +kernel, by decide +kernel⟩
theorem stat_J7_rangeCheck_23922 : Cond.static yJ7_rangeCheck_23922 ∈ xT := x_in (i := 608) (by decide +kernel) rfl
theorem okM_J7_fill_d0a16 : xOKM mJ7_fill_d0a16 2 := ⟨x_in (i := 700) (by decide +kernel) rfl, x_in (i := 57) (by decide +kernel) rfl, by decide +kernel, by decide +kernel⟩
theorem stat_J7_fill_d0a16 : Cond.static yJ7_fill_d0a16 ∈ xT := x_in (i := 699) (by decide +kernel) rfl
theorem okM_J7_fill_53178 : xOKM mJ7_fill_53178 2 := ⟨x_in (i := 666) (by decide +kernel) rfl, x_in (i := 57) (by decide +kernel) rfl, by decide +kernel, by decide +kernel⟩
theorem stat_J7_fill_53178 : Cond.static yJ7_fill_53178 ∈ xT := x_in (i := 665) (by decide +kernel) rfl
theorem okM_J7_fill_031fb : xOKM mJ7_fill_031fb 2 := ⟨x_in (i := 645) (by decide +kernel) rfl, x_in (i := 57) (by decide +kernel) rfl, by decide +kernel, by decide +kernel⟩
theorem stat_J7_fill_031fb : Cond.static yJ7_fill_031fb ∈ xT := x_in (i := 644) (by decide +kernel) rfl
theorem okM_J7_fill_eb02e : xOKM mJ7_fill_eb02e 4 := ⟨x_in (i := 606) (by decide +kernel) rfl, x_in (i := 57) (by decide +kernel) rfl, by decide +kernel, by decide +kernel⟩
theorem stat_J7_fill_eb02e : Cond.static yJ7_fill_eb02e ∈ xT := x_in (i := 605) (by decide +kernel) rfl
theorem lk_X0_3 : Cond.methodLink RX0 3 objectInit ∈ xT := x_in (i := 212) (by decide +kernel) rfl
theorem fl_X0_9 : xFL RX0 9 0 0 true (.array .byte) := ⟨RX0, TX0, 3, cl_X0, by decide, x_in (i := 213) (by decide +kernel) rfl, rfl, rfl⟩
theorem fl_X0_15 : xFL RX0 15 0 1 false .int := ⟨RX0, TX0, 3, cl_X0, by decide, x_in (i := 215) (by decide +kernel) rfl, rfl, rfl⟩
theorem fl_X0_19 : xFL RX0 19 0 2 false .int := ⟨RX0, TX0, 3, cl_X0, by decide, x_in (i := 217) (by decide +kernel) rfl, rfl, rfl⟩
theorem lk_X0_22 : Cond.methodLink RX0 22 yJ7_fill_031fb ∈ xT := x_in (i := 643) (by decide +kernel) rfl
theorem lk_X0_28 : Cond.methodLink RX0 28 yX0_has ∈ xT := x_in (i := 650) (by decide +kernel) rfl
theorem lk_X1_3 : Cond.methodLink RX1 3 objectInit ∈ xT := x_in (i := 232) (by decide +kernel) rfl
theorem nl_X1_9 : xNL RX1 9 4 := ⟨RX4, TX4, 11, cl_X4, x_in (i := 233) (by decide +kernel) rfl, x_in (i := 234) (by decide +kernel) rfl, x_in (i := 53) (by decide +kernel) rfl, by decide +kernel⟩
theorem nk_X1_11 : (RX1, 11, yX4_init, "HouseFronts") ∈ xNest := by decide +kernel
theorem fl_X1_12 : xFL RX1 12 1 12 true (.object "HouseFronts$Knot") := ⟨RX1, TX1, 14, cl_X1, by decide, x_in (i := 288) (by decide +kernel) rfl, rfl, rfl⟩
theorem fl_X1_18 : xFL RX1 18 1 13 false .boolean := ⟨RX1, TX1, 14, cl_X1, by decide, x_in (i := 289) (by decide +kernel) rfl, rfl, rfl⟩
theorem fl_X1_22 : xFL RX1 22 1 0 true (.object "HouseFronts$Grammar") := ⟨RX1, TX1, 14, cl_X1, by decide, x_in (i := 276) (by decide +kernel) rfl, rfl, rfl⟩
theorem fl_X1_26 : xFL RX1 26 1 1 true (.object "HouseFronts$Layout") := ⟨RX1, TX1, 14, cl_X1, by decide, x_in (i := 277) (by decide +kernel) rfl, rfl, rfl⟩
theorem fl_X1_30 : xFL RX1 30 1 2 true (.object "HouseFronts$Board") := ⟨RX1, TX1, 14, cl_X1, by decide, x_in (i := 278) (by decide +kernel) rfl, rfl, rfl⟩
theorem fl_X1_34 : xFL RX1 34 1 3 true .boolean := ⟨RX1, TX1, 14, cl_X1, by decide, x_in (i := 279) (by decide +kernel) rfl, rfl, rfl⟩
theorem fl_X1_37 : xFL RX1 37 1 4 true .int := ⟨RX1, TX1, 14, cl_X1, by decide, x_in (i := 280) (by decide +kernel) rfl, rfl, rfl⟩
theorem fl_X1_41 : xFL RX1 41 1 5 true (.array .int) := ⟨RX1, TX1, 14, cl_X1, by decide, x_in (i := 281) (by decide +kernel) rfl, rfl, rfl⟩
theorem fl_X1_45 : xFL RX1 45 1 6 true (.array .int) := ⟨RX1, TX1, 14, cl_X1, by decide, x_in (i := 282) (by decide +kernel) rfl, rfl, rfl⟩
theorem fl_X1_48 : xFL RX1 48 1 7 true (.array .int) := ⟨RX1, TX1, 14, cl_X1, by decide, x_in (i := 283) (by decide +kernel) rfl, rfl, rfl⟩
theorem fl_X1_51 : xFL RX1 51 1 8 true (.array .int) := ⟨RX1, TX1, 14, cl_X1, by decide, x_in (i := 284) (by decide +kernel) rfl, rfl, rfl⟩
theorem fl_X1_54 : xFL RX1 54 1 9 true (.array .long) := ⟨RX1, TX1, 14, cl_X1, by decide, x_in (i := 285) (by decide +kernel) rfl, rfl, rfl⟩
theorem fl_X1_58 : xFL RX1 58 1 10 true (.array .long) := ⟨RX1, TX1, 14, cl_X1, by decide, x_in (i := 286) (by decide +kernel) rfl, rfl, rfl⟩
theorem fl_X1_61 : xFL RX1 61 1 11 true (.array .byte) := ⟨RX1, TX1, 14, cl_X1, by decide, x_in (i := 287) (by decide +kernel) rfl, rfl, rfl⟩
theorem lk_X1_65 : Cond.methodLink RX1 65 yJ7_fill_53178 ∈ xT := x_in (i := 664) (by decide +kernel) rfl
theorem lk_X1_71 : Cond.methodLink RX1 71 yX1_spanOf ∈ xT := x_in (i := 667) (by decide +kernel) rfl
theorem nk_X1_75 : (RX1, 75, yX9_isName, "HouseFronts") ∈ xNest := by decide +kernel
theorem lk_X1_79 : Cond.methodLink RX1 79 yX1_askBelow ∈ xT := x_in (i := 672) (by decide +kernel) rfl
theorem lk_X1_83 : Cond.methodLink RX1 83 yX1_settleCell ∈ xT := x_in (i := 686) (by decide +kernel) rfl
theorem lk_X1_86 : Cond.methodLink RX1 86 yX1_weightOf ∈ xT := x_in (i := 737) (by decide +kernel) rfl
theorem kc_X1_90 : Cond.constantLong RX1 90 (1048576 : Int64) ∈ xT := x_in (i := 786) (by decide +kernel) rfl
theorem kc_X1_92 : Cond.constantLong RX1 92 (-9 : Int64) ∈ xT := x_in (i := 741) (by decide +kernel) rfl
theorem fl_X1_94 : xFL RX1 94 5 1 true (.array .int) := ⟨RX5, TX5, 4, cl_X5, by decide, x_in (i := 188) (by decide +kernel) rfl, rfl, rfl⟩
theorem fl_X1_99 : xFL RX1 99 5 2 true (.array .int) := ⟨RX5, TX5, 4, cl_X5, by decide, x_in (i := 192) (by decide +kernel) rfl, rfl, rfl⟩
theorem fl_X1_100 : xFL RX1 100 3 2 false .int := ⟨RX3, TX3, 3, cl_X3, by decide, x_in (i := 169) (by decide +kernel) rfl, rfl, rfl⟩
theorem fl_X1_105 : xFL RX1 105 3 0 true (.array (.object "HouseFronts$Rule")) := ⟨RX3, TX3, 3, cl_X3, by decide, x_in (i := 163) (by decide +kernel) rfl, rfl, rfl⟩
theorem fl_X1_109 : xFL RX1 109 7 1 false .int := ⟨RX7, TX7, 9, cl_X7, by decide, x_in (i := 123) (by decide +kernel) rfl, rfl, rfl⟩
theorem lk_X1_114 : Cond.methodLink RX1 114 yX5_lay ∈ xT := x_in (i := 676) (by decide +kernel) rfl
theorem lk_X1_118 : Cond.methodLink RX1 118 yX7_isAlongY ∈ xT := x_in (i := 677) (by decide +kernel) rfl
theorem lk_X1_122 : Cond.methodLink RX1 122 yX1_askParts ∈ xT := x_in (i := 678) (by decide +kernel) rfl
theorem fl_X1_126 : xFL RX1 126 5 3 false .int := ⟨RX5, TX5, 4, cl_X5, by decide, x_in (i := 197) (by decide +kernel) rfl, rfl, rfl⟩
theorem lk_X1_127 : Cond.methodLink RX1 127 yX1_cellOfPart ∈ xT := x_in (i := 682) (by decide +kernel) rfl
theorem fl_X1_131 : xFL RX1 131 5 0 true (.array .int) := ⟨RX5, TX5, 4, cl_X5, by decide, x_in (i := 185) (by decide +kernel) rfl, rfl, rfl⟩
theorem lk_X1_133 : Cond.methodLink RX1 133 yX0_soleLetter ∈ xT := x_in (i := 690) (by decide +kernel) rfl
theorem lk_X1_139 : Cond.methodLink RX1 139 yX4_begin ∈ xT := x_in (i := 694) (by decide +kernel) rfl
theorem fl_X1_141 : xFL RX1 141 7 2 false .int := ⟨RX7, TX7, 9, cl_X7, by decide, x_in (i := 128) (by decide +kernel) rfl, rfl, rfl⟩
theorem fl_X1_144 : xFL RX1 144 7 4 false .int := ⟨RX7, TX7, 9, cl_X7, by decide, x_in (i := 136) (by decide +kernel) rfl, rfl, rfl⟩
theorem lk_X1_147 : Cond.methodLink RX1 147 yX7_weight ∈ xT := x_in (i := 703) (by decide +kernel) rfl
theorem lk_X1_151 : Cond.methodLink RX1 151 yX4_gain ∈ xT := x_in (i := 708) (by decide +kernel) rfl
theorem lk_X1_155 : Cond.methodLink RX1 155 yX4_tie ∈ xT := x_in (i := 720) (by decide +kernel) rfl
theorem lk_X1_159 : Cond.methodLink RX1 159 yX1_gainOfParts ∈ xT := x_in (i := 724) (by decide +kernel) rfl
theorem lk_X1_163 : Cond.methodLink RX1 163 yX4_settle ∈ xT := x_in (i := 742) (by decide +kernel) rfl
theorem lk_X1_166 : Cond.methodLink RX1 166 yX1_keep ∈ xT := x_in (i := 769) (by decide +kernel) rfl
theorem lk_X1_170 : Cond.methodLink RX1 170 yX1_waysOf ∈ xT := x_in (i := 728) (by decide +kernel) rfl
theorem kc_X1_173 : Cond.constantLong RX1 173 (-10 : Int64) ∈ xT := x_in (i := 732) (by decide +kernel) rfl
theorem lk_X1_175 : Cond.methodLink RX1 175 yX1_times ∈ xT := x_in (i := 733) (by decide +kernel) rfl
theorem lk_X1_179 : Cond.methodLink RX1 179 yX4_waysOf ∈ xT := x_in (i := 773) (by decide +kernel) rfl
theorem fl_X1_180 : xFL RX1 180 4 3 true (.array .long) := ⟨RX4, TX4, 11, cl_X4, by decide, x_in (i := 243) (by decide +kernel) rfl, rfl, rfl⟩
theorem fl_X1_182 : xFL RX1 182 4 4 true (.array .int) := ⟨RX4, TX4, 11, cl_X4, by decide, x_in (i := 245) (by decide +kernel) rfl, rfl, rfl⟩
theorem kc_X1_185 : Cond.constantLong RX1 185 (1000000000000000000 : Int64) ∈ xT := x_in (i := 736) (by decide +kernel) rfl
theorem lk_X2_3 : Cond.methodLink RX2 3 objectInit ∈ xT := x_in (i := 376) (by decide +kernel) rfl
theorem fl_X2_9 : xFL RX2 9 2 0 true (.array .byte) := ⟨RX2, TX2, 6, cl_X2, by decide, x_in (i := 377) (by decide +kernel) rfl, rfl, rfl⟩
theorem fl_X2_15 : xFL RX2 15 2 1 true (.array .byte) := ⟨RX2, TX2, 6, cl_X2, by decide, x_in (i := 378) (by decide +kernel) rfl, rfl, rfl⟩
theorem fl_X2_18 : xFL RX2 18 2 2 false .int := ⟨RX2, TX2, 6, cl_X2, by decide, x_in (i := 380) (by decide +kernel) rfl, rfl, rfl⟩
theorem fl_X2_22 : xFL RX2 22 2 3 false .int := ⟨RX2, TX2, 6, cl_X2, by decide, x_in (i := 382) (by decide +kernel) rfl, rfl, rfl⟩
theorem fl_X2_25 : xFL RX2 25 2 4 false .int := ⟨RX2, TX2, 6, cl_X2, by decide, x_in (i := 384) (by decide +kernel) rfl, rfl, rfl⟩
theorem fl_X2_28 : xFL RX2 28 2 5 false .int := ⟨RX2, TX2, 6, cl_X2, by decide, x_in (i := 386) (by decide +kernel) rfl, rfl, rfl⟩
theorem lk_X2_31 : Cond.methodLink RX2 31 yX2_begin ∈ xT := x_in (i := 520) (by decide +kernel) rfl
theorem lk_X2_35 : Cond.methodLink RX2 35 yJ7_fill_eb02e ∈ xT := x_in (i := 604) (by decide +kernel) rfl
theorem lk_X3_3 : Cond.methodLink RX3 3 objectInit ∈ xT := x_in (i := 73) (by decide +kernel) rfl
theorem ck_X3_9 : Cond.classLink RX3 9 RX7 ∈ xT := x_in (i := 74) (by decide +kernel) rfl
theorem fl_X3_11 : xFL RX3 11 3 0 true (.array (.object "HouseFronts$Rule")) := ⟨RX3, TX3, 3, cl_X3, by decide, x_in (i := 160) (by decide +kernel) rfl, rfl, rfl⟩
theorem nl_X3_17 : xNL RX3 17 6 := ⟨RX6, TX6, 6, cl_X6, x_in (i := 76) (by decide +kernel) rfl, x_in (i := 77) (by decide +kernel) rfl, x_in (i := 48) (by decide +kernel) rfl, by decide +kernel⟩
theorem nk_X3_19 : (RX3, 19, yX6_init, "HouseFronts") ∈ xNest := by decide +kernel
theorem fl_X3_20 : xFL RX3 20 3 1 true (.object "HouseFronts$Parts") := ⟨RX3, TX3, 3, cl_X3, by decide, x_in (i := 164) (by decide +kernel) rfl, rfl, rfl⟩
theorem fl_X3_24 : xFL RX3 24 3 2 false .int := ⟨RX3, TX3, 3, cl_X3, by decide, x_in (i := 166) (by decide +kernel) rfl, rfl, rfl⟩
theorem nk_X3_28 : (RX3, 28, yX7_init, "HouseFronts") ∈ xNest := by decide +kernel
theorem lk_X3_29 : Cond.methodLink RX3 29 yX6_empty ∈ xT := x_in (i := 489) (by decide +kernel) rfl
theorem lk_X3_32 : Cond.methodLink RX3 32 yX3_isFull ∈ xT := x_in (i := 454) (by decide +kernel) rfl
theorem lk_X3_36 : Cond.methodLink RX3 36 yX7_begin ∈ xT := x_in (i := 455) (by decide +kernel) rfl
theorem fl_X3_40 : xFL RX3 40 7 4 false .int := ⟨RX7, TX7, 9, cl_X7, by decide, x_in (i := 133) (by decide +kernel) rfl, rfl, rfl⟩
theorem fl_X3_43 : xFL RX3 43 7 0 true (.object "HouseFronts$Parts") := ⟨RX7, TX7, 9, cl_X7, by decide, x_in (i := 118) (by decide +kernel) rfl, rfl, rfl⟩
theorem lk_X3_46 : Cond.methodLink RX3 46 yX6_copy ∈ xT := x_in (i := 483) (by decide +kernel) rfl
theorem lk_X3_50 : Cond.methodLink RX3 50 yX6_add ∈ xT := x_in (i := 498) (by decide +kernel) rfl
theorem lk_X4_3 : Cond.methodLink RX4 3 objectInit ∈ xT := x_in (i := 238) (by decide +kernel) rfl
theorem fl_X4_9 : xFL RX4 9 4 0 true (.array .long) := ⟨RX4, TX4, 11, cl_X4, by decide, x_in (i := 239) (by decide +kernel) rfl, rfl, rfl⟩
theorem fl_X4_15 : xFL RX4 15 4 1 true (.array .long) := ⟨RX4, TX4, 11, cl_X4, by decide, x_in (i := 240) (by decide +kernel) rfl, rfl, rfl⟩
theorem fl_X4_18 : xFL RX4 18 4 2 true (.array .long) := ⟨RX4, TX4, 11, cl_X4, by decide, x_in (i := 241) (by decide +kernel) rfl, rfl, rfl⟩
theorem fl_X4_21 : xFL RX4 21 4 3 true (.array .long) := ⟨RX4, TX4, 11, cl_X4, by decide, x_in (i := 242) (by decide +kernel) rfl, rfl, rfl⟩
theorem fl_X4_24 : xFL RX4 24 4 4 true (.array .int) := ⟨RX4, TX4, 11, cl_X4, by decide, x_in (i := 244) (by decide +kernel) rfl, rfl, rfl⟩
theorem fl_X4_28 : xFL RX4 28 4 5 true (.array .int) := ⟨RX4, TX4, 11, cl_X4, by decide, x_in (i := 246) (by decide +kernel) rfl, rfl, rfl⟩
theorem fl_X4_31 : xFL RX4 31 4 6 true (.array .int) := ⟨RX4, TX4, 11, cl_X4, by decide, x_in (i := 247) (by decide +kernel) rfl, rfl, rfl⟩
theorem fl_X4_34 : xFL RX4 34 4 7 true (.array .int) := ⟨RX4, TX4, 11, cl_X4, by decide, x_in (i := 248) (by decide +kernel) rfl, rfl, rfl⟩
theorem fl_X4_37 : xFL RX4 37 4 8 true (.array .long) := ⟨RX4, TX4, 11, cl_X4, by decide, x_in (i := 249) (by decide +kernel) rfl, rfl, rfl⟩
theorem fl_X4_40 : xFL RX4 40 4 9 false .int := ⟨RX4, TX4, 11, cl_X4, by decide, x_in (i := 250) (by decide +kernel) rfl, rfl, rfl⟩
theorem fl_X4_44 : xFL RX4 44 4 10 false .int := ⟨RX4, TX4, 11, cl_X4, by decide, x_in (i := 251) (by decide +kernel) rfl, rfl, rfl⟩
theorem lk_X4_47 : Cond.methodLink RX4 47 yJ7_fill_d0a16 ∈ xT := x_in (i := 698) (by decide +kernel) rfl
theorem kc_X4_53 : Cond.constantLong RX4 53 (-9 : Int64) ∈ xT := x_in (i := 701) (by decide +kernel) rfl
theorem lk_X4_55 : Cond.methodLink RX4 55 yJ7_fill_53178 ∈ xT := x_in (i := 702) (by decide +kernel) rfl
theorem kc_X4_58 : Cond.constantLong RX4 58 (-10 : Int64) ∈ xT := x_in (i := 712) (by decide +kernel) rfl
theorem lk_X4_60 : Cond.methodLink RX4 60 yX4_plus ∈ xT := x_in (i := 713) (by decide +kernel) rfl
theorem lk_X4_64 : Cond.methodLink RX4 64 arraycopyName ∈ xT := x_in (i := 746) (by decide +kernel) rfl
theorem lk_X4_70 : Cond.methodLink RX4 70 yX4_findEndless ∈ xT := x_in (i := 749) (by decide +kernel) rfl
theorem lk_X4_73 : Cond.methodLink RX4 73 yX4_sumTies ∈ xT := x_in (i := 757) (by decide +kernel) rfl
theorem lk_X4_76 : Cond.methodLink RX4 76 yX4_lightenByTies ∈ xT := x_in (i := 761) (by decide +kernel) rfl
theorem lk_X4_79 : Cond.methodLink RX4 79 yX4_pickAmongTies ∈ xT := x_in (i := 765) (by decide +kernel) rfl
theorem lk_X4_82 : Cond.methodLink RX4 82 yX4_tiedTo ∈ xT := x_in (i := 753) (by decide +kernel) rfl
theorem kc_X4_86 : Cond.constantLong RX4 86 (1000000000000000000 : Int64) ∈ xT := x_in (i := 716) (by decide +kernel) rfl
theorem lk_X4_88 : Cond.methodLink RX4 88 Lib.MathLoose.min_long.x ∈ xT := x_in (i := 717) (by decide +kernel) rfl
theorem lk_X5_3 : Cond.methodLink RX5 3 objectInit ∈ xT := x_in (i := 182) (by decide +kernel) rfl
theorem fl_X5_9 : xFL RX5 9 5 0 true (.array .int) := ⟨RX5, TX5, 4, cl_X5, by decide, x_in (i := 183) (by decide +kernel) rfl, rfl, rfl⟩
theorem fl_X5_15 : xFL RX5 15 5 1 true (.array .int) := ⟨RX5, TX5, 4, cl_X5, by decide, x_in (i := 186) (by decide +kernel) rfl, rfl, rfl⟩
theorem fl_X5_18 : xFL RX5 18 5 2 true (.array .int) := ⟨RX5, TX5, 4, cl_X5, by decide, x_in (i := 190) (by decide +kernel) rfl, rfl, rfl⟩
theorem fl_X5_21 : xFL RX5 21 5 3 false .int := ⟨RX5, TX5, 4, cl_X5, by decide, x_in (i := 194) (by decide +kernel) rfl, rfl, rfl⟩
theorem lk_X5_25 : Cond.methodLink RX5 25 yX7_admits ∈ xT := x_in (i := 539) (by decide +kernel) rfl
theorem fl_X5_31 : xFL RX5 31 7 2 false .int := ⟨RX7, TX7, 9, cl_X7, by decide, x_in (i := 125) (by decide +kernel) rfl, rfl, rfl⟩
theorem lk_X5_34 : Cond.methodLink RX5 34 yX7_isAlongY ∈ xT := x_in (i := 544) (by decide +kernel) rfl
theorem lk_X5_38 : Cond.methodLink RX5 38 yX7_isRepeat ∈ xT := x_in (i := 548) (by decide +kernel) rfl
theorem fl_X5_41 : xFL RX5 41 7 0 true (.object "HouseFronts$Parts") := ⟨RX7, TX7, 9, cl_X7, by decide, x_in (i := 117) (by decide +kernel) rfl, rfl, rfl⟩
theorem lk_X5_45 : Cond.methodLink RX5 45 yX5_layRepeat ∈ xT := x_in (i := 552) (by decide +kernel) rfl
theorem lk_X5_49 : Cond.methodLink RX5 49 yX5_laySplit ∈ xT := x_in (i := 560) (by decide +kernel) rfl
theorem fl_X5_52 : xFL RX5 52 6 4 false .int := ⟨RX6, TX6, 6, cl_X6, by decide, x_in (i := 92) (by decide +kernel) rfl, rfl, rfl⟩
theorem fl_X5_57 : xFL RX5 57 6 5 false .int := ⟨RX6, TX6, 6, cl_X6, by decide, x_in (i := 94) (by decide +kernel) rfl, rfl, rfl⟩
theorem fl_X5_60 : xFL RX5 60 6 3 false .int := ⟨RX6, TX6, 6, cl_X6, by decide, x_in (i := 89) (by decide +kernel) rfl, rfl, rfl⟩
theorem fl_X5_61 : xFL RX5 61 6 2 true (.array .int) := ⟨RX6, TX6, 6, cl_X6, by decide, x_in (i := 87) (by decide +kernel) rfl, rfl, rfl⟩
theorem fl_X5_64 : xFL RX5 64 6 0 true (.array .int) := ⟨RX6, TX6, 6, cl_X6, by decide, x_in (i := 83) (by decide +kernel) rfl, rfl, rfl⟩
theorem fl_X5_65 : xFL RX5 65 6 1 true (.array .int) := ⟨RX6, TX6, 6, cl_X6, by decide, x_in (i := 85) (by decide +kernel) rfl, rfl, rfl⟩
theorem lk_X5_68 : Cond.methodLink RX5 68 yX5_laidOneAfterAnother ∈ xT := x_in (i := 556) (by decide +kernel) rfl
theorem lk_X6_3 : Cond.methodLink RX6 3 objectInit ∈ xT := x_in (i := 81) (by decide +kernel) rfl
theorem fl_X6_9 : xFL RX6 9 6 0 true (.array .int) := ⟨RX6, TX6, 6, cl_X6, by decide, x_in (i := 82) (by decide +kernel) rfl, rfl, rfl⟩
theorem fl_X6_15 : xFL RX6 15 6 1 true (.array .int) := ⟨RX6, TX6, 6, cl_X6, by decide, x_in (i := 84) (by decide +kernel) rfl, rfl, rfl⟩
theorem fl_X6_18 : xFL RX6 18 6 2 true (.array .int) := ⟨RX6, TX6, 6, cl_X6, by decide, x_in (i := 86) (by decide +kernel) rfl, rfl, rfl⟩
theorem fl_X6_21 : xFL RX6 21 6 3 false .int := ⟨RX6, TX6, 6, cl_X6, by decide, x_in (i := 88) (by decide +kernel) rfl, rfl, rfl⟩
theorem fl_X6_25 : xFL RX6 25 6 4 false .int := ⟨RX6, TX6, 6, cl_X6, by decide, x_in (i := 91) (by decide +kernel) rfl, rfl, rfl⟩
theorem fl_X6_28 : xFL RX6 28 6 5 false .int := ⟨RX6, TX6, 6, cl_X6, by decide, x_in (i := 93) (by decide +kernel) rfl, rfl, rfl⟩
theorem lk_X6_31 : Cond.methodLink RX6 31 yX6_empty ∈ xT := x_in (i := 487) (by decide +kernel) rfl
theorem lk_X6_34 : Cond.methodLink RX6 34 yX6_add ∈ xT := x_in (i := 488) (by decide +kernel) rfl
theorem lk_X7_3 : Cond.methodLink RX7 3 objectInit ∈ xT := x_in (i := 113) (by decide +kernel) rfl
theorem nl_X7_9 : xNL RX7 9 6 := ⟨RX6, TX6, 6, cl_X6, x_in (i := 114) (by decide +kernel) rfl, x_in (i := 77) (by decide +kernel) rfl, x_in (i := 48) (by decide +kernel) rfl, by decide +kernel⟩
theorem nk_X7_11 : (RX7, 11, yX6_init, "HouseFronts") ∈ xNest := by decide +kernel
theorem fl_X7_12 : xFL RX7 12 7 0 true (.object "HouseFronts$Parts") := ⟨RX7, TX7, 9, cl_X7, by decide, x_in (i := 116) (by decide +kernel) rfl, rfl, rfl⟩
theorem fl_X7_18 : xFL RX7 18 7 1 false .int := ⟨RX7, TX7, 9, cl_X7, by decide, x_in (i := 120) (by decide +kernel) rfl, rfl, rfl⟩
theorem fl_X7_22 : xFL RX7 22 7 2 false .int := ⟨RX7, TX7, 9, cl_X7, by decide, x_in (i := 124) (by decide +kernel) rfl, rfl, rfl⟩
theorem fl_X7_25 : xFL RX7 25 7 3 false .int := ⟨RX7, TX7, 9, cl_X7, by decide, x_in (i := 129) (by decide +kernel) rfl, rfl, rfl⟩
theorem fl_X7_28 : xFL RX7 28 7 4 false .int := ⟨RX7, TX7, 9, cl_X7, by decide, x_in (i := 132) (by decide +kernel) rfl, rfl, rfl⟩
theorem fl_X7_31 : xFL RX7 31 7 5 false .int := ⟨RX7, TX7, 9, cl_X7, by decide, x_in (i := 137) (by decide +kernel) rfl, rfl, rfl⟩
theorem fl_X7_34 : xFL RX7 34 7 6 false .int := ⟨RX7, TX7, 9, cl_X7, by decide, x_in (i := 138) (by decide +kernel) rfl, rfl, rfl⟩
theorem fl_X7_37 : xFL RX7 37 7 7 false .int := ⟨RX7, TX7, 9, cl_X7, by decide, x_in (i := 139) (by decide +kernel) rfl, rfl, rfl⟩
theorem fl_X7_40 : xFL RX7 40 7 8 false .int := ⟨RX7, TX7, 9, cl_X7, by decide, x_in (i := 140) (by decide +kernel) rfl, rfl, rfl⟩
theorem lk_X7_43 : Cond.methodLink RX7 43 yX6_empty ∈ xT := x_in (i := 459) (by decide +kernel) rfl
theorem lk_X7_46 : Cond.methodLink RX7 46 yX7_limit ∈ xT := x_in (i := 463) (by decide +kernel) rfl
theorem nk_X7_50 : (RX7, 50, yX9_isWithin, "HouseFronts") ∈ xNest := by decide +kernel
theorem kc_X7_54 : Cond.constantLong RX7 54 (1048576 : Int64) ∈ xT := x_in (i := 707) (by decide +kernel) rfl
theorem lk_X8_3 : Cond.methodLink RX8 3 objectInit ∈ xT := x_in (i := 325) (by decide +kernel) rfl
theorem ck_X8_9 : Cond.classLink RX8 9 "[[I" ∈ xT := x_in (i := 326) (by decide +kernel) rfl
theorem fl_X8_11 : xFL RX8 11 8 2 true (.array (.array .int)) := ⟨RX8, TX8, 12, cl_X8, by decide, x_in (i := 330) (by decide +kernel) rfl, rfl, rfl⟩
theorem fl_X8_16 : xFL RX8 16 8 3 true (.array .int) := ⟨RX8, TX8, 12, cl_X8, by decide, x_in (i := 331) (by decide +kernel) rfl, rfl, rfl⟩
theorem fl_X8_20 : xFL RX8 20 8 4 false .int := ⟨RX8, TX8, 12, cl_X8, by decide, x_in (i := 332) (by decide +kernel) rfl, rfl, rfl⟩
theorem fl_X8_24 : xFL RX8 24 8 5 false .int := ⟨RX8, TX8, 12, cl_X8, by decide, x_in (i := 333) (by decide +kernel) rfl, rfl, rfl⟩
theorem fl_X8_27 : xFL RX8 27 8 6 false .int := ⟨RX8, TX8, 12, cl_X8, by decide, x_in (i := 335) (by decide +kernel) rfl, rfl, rfl⟩
theorem fl_X8_30 : xFL RX8 30 8 7 false .int := ⟨RX8, TX8, 12, cl_X8, by decide, x_in (i := 337) (by decide +kernel) rfl, rfl, rfl⟩
theorem fl_X8_33 : xFL RX8 33 8 8 false .int := ⟨RX8, TX8, 12, cl_X8, by decide, x_in (i := 339) (by decide +kernel) rfl, rfl, rfl⟩
theorem fl_X8_36 : xFL RX8 36 8 9 false .int := ⟨RX8, TX8, 12, cl_X8, by decide, x_in (i := 341) (by decide +kernel) rfl, rfl, rfl⟩
theorem fl_X8_39 : xFL RX8 39 8 10 false .int := ⟨RX8, TX8, 12, cl_X8, by decide, x_in (i := 343) (by decide +kernel) rfl, rfl, rfl⟩
theorem fl_X8_42 : xFL RX8 42 8 11 false .int := ⟨RX8, TX8, 12, cl_X8, by decide, x_in (i := 345) (by decide +kernel) rfl, rfl, rfl⟩
theorem fl_X8_45 : xFL RX8 45 8 0 true (.object "HouseFronts$Grammar") := ⟨RX8, TX8, 12, cl_X8, by decide, x_in (i := 328) (by decide +kernel) rfl, rfl, rfl⟩
theorem fl_X8_49 : xFL RX8 49 8 1 true (.object "HouseFronts$Layout") := ⟨RX8, TX8, 12, cl_X8, by decide, x_in (i := 329) (by decide +kernel) rfl, rfl, rfl⟩
theorem lk_X8_53 : Cond.methodLink RX8 53 yX8_push ∈ xT := x_in (i := 581) (by decide +kernel) rfl
theorem lk_X8_57 : Cond.methodLink RX8 57 yX5_lay ∈ xT := x_in (i := 593) (by decide +kernel) rfl
theorem lk_X8_63 : Cond.methodLink RX8 63 yX7_isAlongY ∈ xT := x_in (i := 614) (by decide +kernel) rfl
theorem fl_X8_69 : xFL RX8 69 5 3 false .int := ⟨RX5, TX5, 4, cl_X5, by decide, x_in (i := 195) (by decide +kernel) rfl, rfl, rfl⟩
theorem fl_X8_72 : xFL RX8 72 5 1 true (.array .int) := ⟨RX5, TX5, 4, cl_X5, by decide, x_in (i := 187) (by decide +kernel) rfl, rfl, rfl⟩
theorem fl_X8_75 : xFL RX8 75 5 2 true (.array .int) := ⟨RX5, TX5, 4, cl_X5, by decide, x_in (i := 191) (by decide +kernel) rfl, rfl, rfl⟩
theorem fl_X8_78 : xFL RX8 78 5 0 true (.array .int) := ⟨RX5, TX5, 4, cl_X5, by decide, x_in (i := 184) (by decide +kernel) rfl, rfl, rfl⟩
theorem lk_X8_80 : Cond.methodLink RX8 80 yX2_begin ∈ xT := x_in (i := 576) (by decide +kernel) rfl
theorem lk_X8_85 : Cond.methodLink RX8 85 yX8_begin ∈ xT := x_in (i := 577) (by decide +kernel) rfl
theorem lk_X8_88 : Cond.methodLink RX8 88 yX8_next ∈ xT := x_in (i := 585) (by decide +kernel) rfl
theorem lk_X8_91 : Cond.methodLink RX8 91 yX8_choose ∈ xT := x_in (i := 589) (by decide +kernel) rfl
theorem lk_X8_95 : Cond.methodLink RX8 95 yX3_has ∈ xT := x_in (i := 595) (by decide +kernel) rfl
theorem fl_X8_101 : xFL RX8 101 3 0 true (.array (.object "HouseFronts$Rule")) := ⟨RX3, TX3, 3, cl_X3, by decide, x_in (i := 162) (by decide +kernel) rfl, rfl, rfl⟩
theorem fl_X8_105 : xFL RX8 105 7 3 false .int := ⟨RX7, TX7, 9, cl_X7, by decide, x_in (i := 130) (by decide +kernel) rfl, rfl, rfl⟩
theorem lk_X8_108 : Cond.methodLink RX8 108 yX2_add ∈ xT := x_in (i := 596) (by decide +kernel) rfl
theorem fl_X8_111 : xFL RX8 111 7 2 false .int := ⟨RX7, TX7, 9, cl_X7, by decide, x_in (i := 126) (by decide +kernel) rfl, rfl, rfl⟩
theorem fl_X8_114 : xFL RX8 114 7 4 false .int := ⟨RX7, TX7, 9, cl_X7, by decide, x_in (i := 134) (by decide +kernel) rfl, rfl, rfl⟩
theorem lk_X8_117 : Cond.methodLink RX8 117 yX2_paint ∈ xT := x_in (i := 600) (by decide +kernel) rfl
theorem lk_X8_121 : Cond.methodLink RX8 121 yX8_spread ∈ xT := x_in (i := 610) (by decide +kernel) rfl
theorem fl_X8_125 : xFL RX8 125 3 2 false .int := ⟨RX3, TX3, 3, cl_X3, by decide, x_in (i := 168) (by decide +kernel) rfl, rfl, rfl⟩
theorem fl_X8_126 : xFL RX8 126 7 1 false .int := ⟨RX7, TX7, 9, cl_X7, by decide, x_in (i := 121) (by decide +kernel) rfl, rfl, rfl⟩
theorem kc_X8_127 : Cond.constant RX8 127 (1103515245 : Int32) ∈ xT := x_in (i := 594) (by decide +kernel) rfl
theorem lk_X9_3 : Cond.methodLink RX9 3 objectInit ∈ xT := x_in (i := 65) (by decide +kernel) rfl
theorem nl_X9_9 : xNL RX9 9 3 := ⟨RX3, TX3, 3, cl_X3, x_in (i := 68) (by decide +kernel) rfl, x_in (i := 69) (by decide +kernel) rfl, x_in (i := 47) (by decide +kernel) rfl, by decide +kernel⟩
theorem lk_X9_11 : Cond.methodLink RX9 11 yX3_init ∈ xT := x_in (i := 70) (by decide +kernel) rfl
theorem fl_X9_12 : xFL RX9 12 9 0 true (.object "HouseFronts$Grammar") := ⟨RX9, TX9, 9, cl_X9, by decide, x_in (i := 401) (by decide +kernel) rfl, rfl, rfl⟩
theorem nl_X9_16 : xNL RX9 16 5 := ⟨RX5, TX5, 4, cl_X5, x_in (i := 177) (by decide +kernel) rfl, x_in (i := 178) (by decide +kernel) rfl, x_in (i := 50) (by decide +kernel) rfl, by decide +kernel⟩
theorem nk_X9_18 : (RX9, 18, yX5_init, "HouseFronts") ∈ xNest := by decide +kernel
theorem fl_X9_19 : xFL RX9 19 9 1 true (.object "HouseFronts$Layout") := ⟨RX9, TX9, 9, cl_X9, by decide, x_in (i := 402) (by decide +kernel) rfl, rfl, rfl⟩
theorem nl_X9_23 : xNL RX9 23 0 := ⟨RX0, TX0, 3, cl_X0, x_in (i := 207) (by decide +kernel) rfl, x_in (i := 208) (by decide +kernel) rfl, x_in (i := 51) (by decide +kernel) rfl, by decide +kernel⟩
theorem nk_X9_25 : (RX9, 25, yX0_init, "HouseFronts") ∈ xNest := by decide +kernel
theorem fl_X9_26 : xFL RX9 26 9 2 true (.object "HouseFronts$Board") := ⟨RX9, TX9, 9, cl_X9, by decide, x_in (i := 403) (by decide +kernel) rfl, rfl, rfl⟩
theorem nl_X9_30 : xNL RX9 30 1 := ⟨RX1, TX1, 14, cl_X1, x_in (i := 227) (by decide +kernel) rfl, x_in (i := 228) (by decide +kernel) rfl, x_in (i := 52) (by decide +kernel) rfl, by decide +kernel⟩
theorem lk_X9_32 : Cond.methodLink RX9 32 yX1_init ∈ xT := x_in (i := 229) (by decide +kernel) rfl
theorem fl_X9_35 : xFL RX9 35 9 3 true (.object "HouseFronts$Chart") := ⟨RX9, TX9, 9, cl_X9, by decide, x_in (i := 404) (by decide +kernel) rfl, rfl, rfl⟩
theorem fl_X9_39 : xFL RX9 39 9 4 true (.object "HouseFronts$Chart") := ⟨RX9, TX9, 9, cl_X9, by decide, x_in (i := 405) (by decide +kernel) rfl, rfl, rfl⟩
theorem nl_X9_42 : xNL RX9 42 8 := ⟨RX8, TX8, 12, cl_X8, x_in (i := 320) (by decide +kernel) rfl, x_in (i := 321) (by decide +kernel) rfl, x_in (i := 54) (by decide +kernel) rfl, by decide +kernel⟩
theorem lk_X9_44 : Cond.methodLink RX9 44 yX8_init ∈ xT := x_in (i := 322) (by decide +kernel) rfl
theorem fl_X9_47 : xFL RX9 47 9 5 true (.object "HouseFronts$Walk") := ⟨RX9, TX9, 9, cl_X9, by decide, x_in (i := 406) (by decide +kernel) rfl, rfl, rfl⟩
theorem nl_X9_51 : xNL RX9 51 2 := ⟨RX2, TX2, 6, cl_X2, x_in (i := 371) (by decide +kernel) rfl, x_in (i := 372) (by decide +kernel) rfl, x_in (i := 55) (by decide +kernel) rfl, by decide +kernel⟩
theorem nk_X9_53 : (RX9, 53, yX2_init, "HouseFronts") ∈ xNest := by decide +kernel
theorem fl_X9_54 : xFL RX9 54 9 6 false (.object "HouseFronts$Front") := ⟨RX9, TX9, 9, cl_X9, by decide, x_in (i := 407) (by decide +kernel) rfl, rfl, rfl⟩
theorem fl_X9_58 : xFL RX9 58 9 7 false (.object "HouseFronts$Front") := ⟨RX9, TX9, 9, cl_X9, by decide, x_in (i := 408) (by decide +kernel) rfl, rfl, rfl⟩
theorem fl_X9_61 : xFL RX9 61 9 8 false .int := ⟨RX9, TX9, 9, cl_X9, by decide, x_in (i := 409) (by decide +kernel) rfl, rfl, rfl⟩
theorem lk_X9_65 : Cond.methodLink RX9 65 yX9_isName ∈ xT := x_in (i := 433) (by decide +kernel) rfl
theorem lk_X9_69 : Cond.methodLink RX9 69 yX9_isWithin ∈ xT := x_in (i := 436) (by decide +kernel) rfl
theorem lk_X9_73 : Cond.methodLink RX9 73 yX9_isCost ∈ xT := x_in (i := 439) (by decide +kernel) rfl
theorem lk_X9_76 : Cond.methodLink RX9 76 yX3_isFull ∈ xT := x_in (i := 442) (by decide +kernel) rfl
theorem lk_X9_80 : Cond.methodLink RX9 80 yX9_forgetParses ∈ xT := x_in (i := 446) (by decide +kernel) rfl
theorem lk_X9_83 : Cond.methodLink RX9 83 yX3_addFill ∈ xT := x_in (i := 450) (by decide +kernel) rfl
theorem fl_X9_87 : xFL RX9 87 3 1 true (.object "HouseFronts$Parts") := ⟨RX3, TX3, 3, cl_X3, by decide, x_in (i := 165) (by decide +kernel) rfl, rfl, rfl⟩
theorem fl_X9_91 : xFL RX9 91 6 3 false .int := ⟨RX6, TX6, 6, cl_X6, by decide, x_in (i := 90) (by decide +kernel) rfl, rfl, rfl⟩
theorem lk_X9_96 : Cond.methodLink RX9 96 yX6_add ∈ xT := x_in (i := 471) (by decide +kernel) rfl
theorem lk_X9_100 : Cond.methodLink RX9 100 yX3_addSplit ∈ xT := x_in (i := 479) (by decide +kernel) rfl
theorem lk_X9_104 : Cond.methodLink RX9 104 yX3_addRepeat ∈ xT := x_in (i := 494) (by decide +kernel) rfl
theorem lk_X9_108 : Cond.methodLink RX9 108 yX3_has ∈ xT := x_in (i := 503) (by decide +kernel) rfl
theorem fl_X9_111 : xFL RX9 111 3 0 true (.array (.object "HouseFronts$Rule")) := ⟨RX3, TX3, 3, cl_X3, by decide, x_in (i := 161) (by decide +kernel) rfl, rfl, rfl⟩
theorem lk_X9_115 : Cond.methodLink RX9 115 yX7_limit ∈ xT := x_in (i := 507) (by decide +kernel) rfl
theorem fl_X9_121 : xFL RX9 121 3 2 false .int := ⟨RX3, TX3, 3, cl_X3, by decide, x_in (i := 167) (by decide +kernel) rfl, rfl, rfl⟩
theorem lk_X9_122 : Cond.methodLink RX9 122 yX3_empty ∈ xT := x_in (i := 512) (by decide +kernel) rfl
theorem lk_X9_125 : Cond.methodLink RX9 125 yX2_empty ∈ xT := x_in (i := 516) (by decide +kernel) rfl
theorem fl_X9_126 : xFL RX9 126 7 1 false .int := ⟨RX7, TX7, 9, cl_X7, by decide, x_in (i := 122) (by decide +kernel) rfl, rfl, rfl⟩
theorem fl_X9_129 : xFL RX9 129 7 2 false .int := ⟨RX7, TX7, 9, cl_X7, by decide, x_in (i := 127) (by decide +kernel) rfl, rfl, rfl⟩
theorem fl_X9_132 : xFL RX9 132 7 3 false .int := ⟨RX7, TX7, 9, cl_X7, by decide, x_in (i := 131) (by decide +kernel) rfl, rfl, rfl⟩
theorem fl_X9_135 : xFL RX9 135 7 0 true (.object "HouseFronts$Parts") := ⟨RX7, TX7, 9, cl_X7, by decide, x_in (i := 119) (by decide +kernel) rfl, rfl, rfl⟩
theorem fl_X9_138 : xFL RX9 138 7 4 false .int := ⟨RX7, TX7, 9, cl_X7, by decide, x_in (i := 135) (by decide +kernel) rfl, rfl, rfl⟩
theorem lk_X9_141 : Cond.methodLink RX9 141 yX9_isScope ∈ xT := x_in (i := 532) (by decide +kernel) rfl
theorem lk_X9_145 : Cond.methodLink RX9 145 yX5_lay ∈ xT := x_in (i := 535) (by decide +kernel) rfl
theorem fl_X9_149 : xFL RX9 149 5 3 false .int := ⟨RX5, TX5, 4, cl_X5, by decide, x_in (i := 196) (by decide +kernel) rfl, rfl, rfl⟩
theorem fl_X9_150 : xFL RX9 150 5 2 true (.array .int) := ⟨RX5, TX5, 4, cl_X5, by decide, x_in (i := 193) (by decide +kernel) rfl, rfl, rfl⟩
theorem fl_X9_154 : xFL RX9 154 5 1 true (.array .int) := ⟨RX5, TX5, 4, cl_X5, by decide, x_in (i := 189) (by decide +kernel) rfl, rfl, rfl⟩
theorem lk_X9_157 : Cond.methodLink RX9 157 yX8_grow ∈ xT := x_in (i := 572) (by decide +kernel) rfl
theorem fl_X9_161 : xFL RX9 161 8 10 false .int := ⟨RX8, TX8, 12, cl_X8, by decide, x_in (i := 344) (by decide +kernel) rfl, rfl, rfl⟩
theorem fl_X9_164 : xFL RX9 164 2 4 false .int := ⟨RX2, TX2, 6, cl_X2, by decide, x_in (i := 385) (by decide +kernel) rfl, rfl, rfl⟩
theorem fl_X9_165 : xFL RX9 165 2 2 false .int := ⟨RX2, TX2, 6, cl_X2, by decide, x_in (i := 381) (by decide +kernel) rfl, rfl, rfl⟩
theorem fl_X9_168 : xFL RX9 168 2 3 false .int := ⟨RX2, TX2, 6, cl_X2, by decide, x_in (i := 383) (by decide +kernel) rfl, rfl, rfl⟩
theorem lk_X9_171 : Cond.methodLink RX9 171 yX2_letterOf ∈ xT := x_in (i := 619) (by decide +kernel) rfl
theorem fl_X9_175 : xFL RX9 175 2 1 true (.array .byte) := ⟨RX2, TX2, 6, cl_X2, by decide, x_in (i := 379) (by decide +kernel) rfl, rfl, rfl⟩
theorem fl_X9_178 : xFL RX9 178 2 5 false .int := ⟨RX2, TX2, 6, cl_X2, by decide, x_in (i := 387) (by decide +kernel) rfl, rfl, rfl⟩
theorem lk_X9_179 : Cond.methodLink RX9 179 yX0_begin ∈ xT := x_in (i := 639) (by decide +kernel) rfl
theorem lk_X9_182 : Cond.methodLink RX9 182 yX0_set ∈ xT := x_in (i := 646) (by decide +kernel) rfl
theorem fl_X9_185 : xFL RX9 185 1 13 false .boolean := ⟨RX1, TX1, 14, cl_X1, by decide, x_in (i := 290) (by decide +kernel) rfl, rfl, rfl⟩
theorem kc_X9_189 : Cond.constantLong RX9 189 (-1 : Int64) ∈ xT := x_in (i := 658) (by decide +kernel) rfl
theorem kc_X9_191 : Cond.constantLong RX9 191 (-2 : Int64) ∈ xT := x_in (i := 659) (by decide +kernel) rfl
theorem lk_X9_193 : Cond.methodLink RX9 193 yX1_settle ∈ xT := x_in (i := 660) (by decide +kernel) rfl
theorem lk_X9_197 : Cond.methodLink RX9 197 yX1_waysOf ∈ xT := x_in (i := 777) (by decide +kernel) rfl
theorem lk_X9_201 : Cond.methodLink RX9 201 yX1_costOf ∈ xT := x_in (i := 782) (by decide +kernel) rfl
theorem lk_X9_205 : Cond.methodLink RX9 205 yX0_has ∈ xT := x_in (i := 795) (by decide +kernel) rfl
theorem fl_X9_206 : xFL RX9 206 0 0 true (.array .byte) := ⟨RX0, TX0, 3, cl_X0, by decide, x_in (i := 214) (by decide +kernel) rfl, rfl, rfl⟩
theorem lk_X9_209 : Cond.methodLink RX9 209 yX9_settleBoard ∈ xT := x_in (i := 800) (by decide +kernel) rfl
theorem lk_X9_213 : Cond.methodLink RX9 213 yX1_stepsOf ∈ xT := x_in (i := 812) (by decide +kernel) rfl
theorem fl_X9_216 : xFL RX9 216 0 1 false .int := ⟨RX0, TX0, 3, cl_X0, by decide, x_in (i := 216) (by decide +kernel) rfl, rfl, rfl⟩
theorem fl_X9_217 : xFL RX9 217 0 2 false .int := ⟨RX0, TX0, 3, cl_X0, by decide, x_in (i := 218) (by decide +kernel) rfl, rfl, rfl⟩
theorem lk_X9_218 : Cond.methodLink RX9 218 yX8_begin ∈ xT := x_in (i := 816) (by decide +kernel) rfl
theorem lk_X9_220 : Cond.methodLink RX9 220 yX8_next ∈ xT := x_in (i := 817) (by decide +kernel) rfl
theorem fl_X9_223 : xFL RX9 223 8 5 false .int := ⟨RX8, TX8, 12, cl_X8, by decide, x_in (i := 334) (by decide +kernel) rfl, rfl, rfl⟩
theorem fl_X9_224 : xFL RX9 224 8 6 false .int := ⟨RX8, TX8, 12, cl_X8, by decide, x_in (i := 336) (by decide +kernel) rfl, rfl, rfl⟩
theorem fl_X9_227 : xFL RX9 227 8 7 false .int := ⟨RX8, TX8, 12, cl_X8, by decide, x_in (i := 338) (by decide +kernel) rfl, rfl, rfl⟩
theorem fl_X9_230 : xFL RX9 230 8 8 false .int := ⟨RX8, TX8, 12, cl_X8, by decide, x_in (i := 340) (by decide +kernel) rfl, rfl, rfl⟩
theorem fl_X9_231 : xFL RX9 231 8 9 false .int := ⟨RX8, TX8, 12, cl_X8, by decide, x_in (i := 342) (by decide +kernel) rfl, rfl, rfl⟩
theorem lk_X9_232 : Cond.methodLink RX9 232 yX1_pickOf ∈ xT := x_in (i := 818) (by decide +kernel) rfl
theorem lk_X9_235 : Cond.methodLink RX9 235 yX8_spread ∈ xT := x_in (i := 822) (by decide +kernel) rfl
theorem lk_X10_1 : Cond.methodLink RX10 1 objectInit ∈ xT := x_in (i := 836) (by decide +kernel) rfl
theorem fl_X10_7 : xFL RX10 7 10 1 true (.array .int) := ⟨RX10, TX10, 51, cl_X10, by decide, x_in (i := 843) (by decide +kernel) rfl, rfl, rfl⟩
theorem fl_X10_13 : xFL RX10 13 10 2 true (.array .int) := ⟨RX10, TX10, 51, cl_X10, by decide, x_in (i := 844) (by decide +kernel) rfl, rfl, rfl⟩
theorem fl_X10_16 : xFL RX10 16 10 3 true (.array .int) := ⟨RX10, TX10, 51, cl_X10, by decide, x_in (i := 845) (by decide +kernel) rfl, rfl, rfl⟩
theorem fl_X10_19 : xFL RX10 19 10 4 true (.array .int) := ⟨RX10, TX10, 51, cl_X10, by decide, x_in (i := 846) (by decide +kernel) rfl, rfl, rfl⟩
theorem fl_X10_22 : xFL RX10 22 10 5 true (.array .int) := ⟨RX10, TX10, 51, cl_X10, by decide, x_in (i := 847) (by decide +kernel) rfl, rfl, rfl⟩
theorem fl_X10_25 : xFL RX10 25 10 6 true (.array .int) := ⟨RX10, TX10, 51, cl_X10, by decide, x_in (i := 848) (by decide +kernel) rfl, rfl, rfl⟩
theorem fl_X10_28 : xFL RX10 28 10 7 true (.array .int) := ⟨RX10, TX10, 51, cl_X10, by decide, x_in (i := 849) (by decide +kernel) rfl, rfl, rfl⟩
theorem fl_X10_31 : xFL RX10 31 10 8 true (.array .boolean) := ⟨RX10, TX10, 51, cl_X10, by decide, x_in (i := 850) (by decide +kernel) rfl, rfl, rfl⟩
theorem fl_X10_35 : xFL RX10 35 10 9 true (.array .int) := ⟨RX10, TX10, 51, cl_X10, by decide, x_in (i := 851) (by decide +kernel) rfl, rfl, rfl⟩
theorem fl_X10_38 : xFL RX10 38 10 11 true (.array .int) := ⟨RX10, TX10, 51, cl_X10, by decide, x_in (i := 853) (by decide +kernel) rfl, rfl, rfl⟩
theorem fl_X10_41 : xFL RX10 41 10 12 true (.array .int) := ⟨RX10, TX10, 51, cl_X10, by decide, x_in (i := 854) (by decide +kernel) rfl, rfl, rfl⟩
theorem fl_X10_44 : xFL RX10 44 10 13 true (.array .boolean) := ⟨RX10, TX10, 51, cl_X10, by decide, x_in (i := 855) (by decide +kernel) rfl, rfl, rfl⟩
theorem fl_X10_47 : xFL RX10 47 10 15 true (.array .int) := ⟨RX10, TX10, 51, cl_X10, by decide, x_in (i := 857) (by decide +kernel) rfl, rfl, rfl⟩
theorem fl_X10_50 : xFL RX10 50 10 16 true (.array .int) := ⟨RX10, TX10, 51, cl_X10, by decide, x_in (i := 858) (by decide +kernel) rfl, rfl, rfl⟩
theorem fl_X10_53 : xFL RX10 53 10 17 true (.array .int) := ⟨RX10, TX10, 51, cl_X10, by decide, x_in (i := 859) (by decide +kernel) rfl, rfl, rfl⟩
theorem fl_X10_56 : xFL RX10 56 10 21 true (.array .int) := ⟨RX10, TX10, 51, cl_X10, by decide, x_in (i := 863) (by decide +kernel) rfl, rfl, rfl⟩
theorem fl_X10_59 : xFL RX10 59 10 23 true (.array .int) := ⟨RX10, TX10, 51, cl_X10, by decide, x_in (i := 865) (by decide +kernel) rfl, rfl, rfl⟩
theorem fl_X10_62 : xFL RX10 62 10 24 true (.array .int) := ⟨RX10, TX10, 51, cl_X10, by decide, x_in (i := 866) (by decide +kernel) rfl, rfl, rfl⟩
theorem fl_X10_65 : xFL RX10 65 10 25 true (.array .int) := ⟨RX10, TX10, 51, cl_X10, by decide, x_in (i := 867) (by decide +kernel) rfl, rfl, rfl⟩
theorem fl_X10_68 : xFL RX10 68 10 28 true (.array .int) := ⟨RX10, TX10, 51, cl_X10, by decide, x_in (i := 870) (by decide +kernel) rfl, rfl, rfl⟩
theorem fl_X10_71 : xFL RX10 71 10 29 true (.array .int) := ⟨RX10, TX10, 51, cl_X10, by decide, x_in (i := 871) (by decide +kernel) rfl, rfl, rfl⟩
theorem fl_X10_74 : xFL RX10 74 10 30 true (.array .int) := ⟨RX10, TX10, 51, cl_X10, by decide, x_in (i := 872) (by decide +kernel) rfl, rfl, rfl⟩
theorem fl_X10_77 : xFL RX10 77 10 31 true (.array .int) := ⟨RX10, TX10, 51, cl_X10, by decide, x_in (i := 873) (by decide +kernel) rfl, rfl, rfl⟩
theorem fl_X10_80 : xFL RX10 80 10 32 true (.array .int) := ⟨RX10, TX10, 51, cl_X10, by decide, x_in (i := 874) (by decide +kernel) rfl, rfl, rfl⟩
theorem fl_X10_83 : xFL RX10 83 10 33 true (.array .int) := ⟨RX10, TX10, 51, cl_X10, by decide, x_in (i := 875) (by decide +kernel) rfl, rfl, rfl⟩
theorem fl_X10_86 : xFL RX10 86 10 34 true (.array .int) := ⟨RX10, TX10, 51, cl_X10, by decide, x_in (i := 876) (by decide +kernel) rfl, rfl, rfl⟩
theorem fl_X10_89 : xFL RX10 89 10 37 true (.array .int) := ⟨RX10, TX10, 51, cl_X10, by decide, x_in (i := 879) (by decide +kernel) rfl, rfl, rfl⟩
theorem kc_X10_92 : Cond.constant RX10 92 (55688 : Int32) ∈ xT := x_in (i := 837) (by decide +kernel) rfl
theorem fl_X10_93 : xFL RX10 93 10 38 true (.array .long) := ⟨RX10, TX10, 51, cl_X10, by decide, x_in (i := 880) (by decide +kernel) rfl, rfl, rfl⟩
theorem fl_X10_97 : xFL RX10 97 10 39 true (.array .int) := ⟨RX10, TX10, 51, cl_X10, by decide, x_in (i := 881) (by decide +kernel) rfl, rfl, rfl⟩
theorem fl_X10_100 : xFL RX10 100 10 40 true (.array .int) := ⟨RX10, TX10, 51, cl_X10, by decide, x_in (i := 882) (by decide +kernel) rfl, rfl, rfl⟩
theorem fl_X10_103 : xFL RX10 103 10 41 true (.array .int) := ⟨RX10, TX10, 51, cl_X10, by decide, x_in (i := 883) (by decide +kernel) rfl, rfl, rfl⟩
theorem fl_X10_106 : xFL RX10 106 10 43 true (.array .long) := ⟨RX10, TX10, 51, cl_X10, by decide, x_in (i := 885) (by decide +kernel) rfl, rfl, rfl⟩
theorem fl_X10_109 : xFL RX10 109 10 44 true (.array .int) := ⟨RX10, TX10, 51, cl_X10, by decide, x_in (i := 886) (by decide +kernel) rfl, rfl, rfl⟩
theorem fl_X10_112 : xFL RX10 112 10 45 true (.array .boolean) := ⟨RX10, TX10, 51, cl_X10, by decide, x_in (i := 887) (by decide +kernel) rfl, rfl, rfl⟩
theorem fl_X10_115 : xFL RX10 115 10 46 true (.array .boolean) := ⟨RX10, TX10, 51, cl_X10, by decide, x_in (i := 888) (by decide +kernel) rfl, rfl, rfl⟩
theorem lk_X10_118 : Cond.methodLink RX10 118 yX10_boards ∈ xT := x_in (i := 838) (by decide +kernel) rfl
theorem kc_X10_122 : Cond.constantLong RX10 122 (7 : Int64) ∈ xT := x_in (i := 1004) (by decide +kernel) rfl
theorem lk_X10_124 : Cond.methodLink RX10 124 yX10_in ∈ xT := x_in (i := 1005) (by decide +kernel) rfl
theorem fl_X10_128 : xFL RX10 128 10 0 false .int := ⟨RX10, TX10, 51, cl_X10, by decide, x_in (i := 842) (by decide +kernel) rfl, rfl, rfl⟩
theorem lk_X10_132 : Cond.methodLink RX10 132 yX10_forget ∈ xT := x_in (i := 1014) (by decide +kernel) rfl
theorem lk_X10_135 : Cond.methodLink RX10 135 yX10_isName ∈ xT := x_in (i := 1001) (by decide +kernel) rfl
theorem kc_X10_139 : Cond.constantLong RX10 139 (25 : Int64) ∈ xT := x_in (i := 1008) (by decide +kernel) rfl
theorem kc_X10_141 : Cond.constantLong RX10 141 (99 : Int64) ∈ xT := x_in (i := 1009) (by decide +kernel) rfl
theorem lk_X10_143 : Cond.methodLink RX10 143 yX10_add ∈ xT := x_in (i := 1010) (by decide +kernel) rfl
theorem kc_X10_147 : Cond.constantLong RX10 147 (9 : Int64) ∈ xT := x_in (i := 1022) (by decide +kernel) rfl
theorem kc_X10_149 : Cond.constantLong RX10 149 (20 : Int64) ∈ xT := x_in (i := 1023) (by decide +kernel) rfl
theorem fl_X10_151 : xFL RX10 151 10 10 false .int := ⟨RX10, TX10, 51, cl_X10, by decide, x_in (i := 852) (by decide +kernel) rfl, rfl, rfl⟩
theorem lk_X10_154 : Cond.methodLink RX10 154 yX10_addPart ∈ xT := x_in (i := 1028) (by decide +kernel) rfl
theorem lk_X10_158 : Cond.methodLink RX10 158 yX10_isRule ∈ xT := x_in (i := 1040) (by decide +kernel) rfl
theorem lk_X10_161 : Cond.methodLink RX10 161 yX10_isLength ∈ xT := x_in (i := 1044) (by decide +kernel) rfl
theorem fl_X10_164 : xFL RX10 164 10 18 false .int := ⟨RX10, TX10, 51, cl_X10, by decide, x_in (i := 860) (by decide +kernel) rfl, rfl, rfl⟩
theorem fl_X10_167 : xFL RX10 167 10 19 false .int := ⟨RX10, TX10, 51, cl_X10, by decide, x_in (i := 861) (by decide +kernel) rfl, rfl, rfl⟩
theorem fl_X10_170 : xFL RX10 170 10 20 false .int := ⟨RX10, TX10, 51, cl_X10, by decide, x_in (i := 862) (by decide +kernel) rfl, rfl, rfl⟩
theorem fl_X10_173 : xFL RX10 173 10 14 false .int := ⟨RX10, TX10, 51, cl_X10, by decide, x_in (i := 856) (by decide +kernel) rfl, rfl, rfl⟩
theorem lk_X10_176 : Cond.methodLink RX10 176 yX10_isAlongY ∈ xT := x_in (i := 1063) (by decide +kernel) rfl
theorem lk_X10_179 : Cond.methodLink RX10 179 yX10_laySplit ∈ xT := x_in (i := 1067) (by decide +kernel) rfl
theorem lk_X10_183 : Cond.methodLink RX10 183 yX10_layRepeat ∈ xT := x_in (i := 1071) (by decide +kernel) rfl
theorem lk_X10_186 : Cond.methodLink RX10 186 yX10_lay ∈ xT := x_in (i := 1059) (by decide +kernel) rfl
theorem fl_X10_190 : xFL RX10 190 10 27 false .int := ⟨RX10, TX10, 51, cl_X10, by decide, x_in (i := 869) (by decide +kernel) rfl, rfl, rfl⟩
theorem kc_X10_193 : Cond.constant RX10 193 (1103515245 : Int32) ∈ xT := x_in (i := 1091) (by decide +kernel) rfl
theorem lk_X10_194 : Cond.methodLink RX10 194 yX10_put ∈ xT := x_in (i := 1083) (by decide +kernel) rfl
theorem lk_X10_198 : Cond.methodLink RX10 198 yX10_picked ∈ xT := x_in (i := 1087) (by decide +kernel) rfl
theorem fl_X10_201 : xFL RX10 201 10 26 false .int := ⟨RX10, TX10, 51, cl_X10, by decide, x_in (i := 868) (by decide +kernel) rfl, rfl, rfl⟩
theorem lk_X10_204 : Cond.methodLink RX10 204 yX10_fillDraft ∈ xT := x_in (i := 1092) (by decide +kernel) rfl
theorem lk_X10_207 : Cond.methodLink RX10 207 yX10_putPieces ∈ xT := x_in (i := 1096) (by decide +kernel) rfl
theorem fl_X10_211 : xFL RX10 211 10 22 false .int := ⟨RX10, TX10, 51, cl_X10, by decide, x_in (i := 864) (by decide +kernel) rfl, rfl, rfl⟩
theorem fl_X10_214 : xFL RX10 214 10 50 false .boolean := ⟨RX10, TX10, 51, cl_X10, by decide, x_in (i := 892) (by decide +kernel) rfl, rfl, rfl⟩
theorem fl_X10_218 : xFL RX10 218 10 35 false .int := ⟨RX10, TX10, 51, cl_X10, by decide, x_in (i := 877) (by decide +kernel) rfl, rfl, rfl⟩
theorem fl_X10_221 : xFL RX10 221 10 36 false .int := ⟨RX10, TX10, 51, cl_X10, by decide, x_in (i := 878) (by decide +kernel) rfl, rfl, rfl⟩
theorem kc_X10_224 : Cond.constantLong RX10 224 (80 : Int64) ∈ xT := x_in (i := 1132) (by decide +kernel) rfl
theorem lk_X10_226 : Cond.methodLink RX10 226 yX10_isPlace ∈ xT := x_in (i := 1128) (by decide +kernel) rfl
theorem fl_X10_229 : xFL RX10 229 10 42 false .boolean := ⟨RX10, TX10, 51, cl_X10, by decide, x_in (i := 884) (by decide +kernel) rfl, rfl, rfl⟩
theorem kc_X10_232 : Cond.constant RX10 232 (52488 : Int32) ∈ xT := x_in (i := 1151) (by decide +kernel) rfl
theorem kc_X10_233 : Cond.constantLong RX10 233 (-10 : Int64) ∈ xT := x_in (i := 1163) (by decide +kernel) rfl
theorem kc_X10_235 : Cond.constantLong RX10 235 (1000000000000000000 : Int64) ∈ xT := x_in (i := 1164) (by decide +kernel) rfl
theorem lk_X10_237 : Cond.methodLink RX10 237 yX10_isAll ∈ xT := x_in (i := 1156) (by decide +kernel) rfl
theorem lk_X10_241 : Cond.methodLink RX10 241 yX10_plus ∈ xT := x_in (i := 1160) (by decide +kernel) rfl
theorem lk_X10_245 : Cond.methodLink RX10 245 yX10_place ∈ xT := x_in (i := 1147) (by decide +kernel) rfl
theorem lk_X10_248 : Cond.methodLink RX10 248 yX10_mult ∈ xT := x_in (i := 1165) (by decide +kernel) rfl
theorem lk_X10_251 : Cond.methodLink RX10 251 yX10_findMade ∈ xT := x_in (i := 1172) (by decide +kernel) rfl
theorem lk_X10_254 : Cond.methodLink RX10 254 yX10_isEndless ∈ xT := x_in (i := 1176) (by decide +kernel) rfl
theorem fl_X10_257 : xFL RX10 257 10 47 false .int := ⟨RX10, TX10, 51, cl_X10, by decide, x_in (i := 889) (by decide +kernel) rfl, rfl, rfl⟩
theorem fl_X10_260 : xFL RX10 260 10 48 false .int := ⟨RX10, TX10, 51, cl_X10, by decide, x_in (i := 890) (by decide +kernel) rfl, rfl, rfl⟩
theorem lk_X10_263 : Cond.methodLink RX10 263 yX10_tries ∈ xT := x_in (i := 1184) (by decide +kernel) rfl
theorem lk_X10_266 : Cond.methodLink RX10 266 yX10_count ∈ xT := x_in (i := 1152) (by decide +kernel) rfl
theorem lk_X10_269 : Cond.methodLink RX10 269 yX10_sum ∈ xT := x_in (i := 1168) (by decide +kernel) rfl
theorem lk_X10_273 : Cond.methodLink RX10 273 yX10_improve ∈ xT := x_in (i := 1180) (by decide +kernel) rfl
theorem fl_X10_276 : xFL RX10 276 10 49 false .boolean := ⟨RX10, TX10, 51, cl_X10, by decide, x_in (i := 891) (by decide +kernel) rfl, rfl, rfl⟩
theorem lk_X10_279 : Cond.methodLink RX10 279 yX10_work ∈ xT := x_in (i := 1143) (by decide +kernel) rfl
theorem kc_X10_283 : Cond.constantLong RX10 283 (-1 : Int64) ∈ xT := x_in (i := 1137) (by decide +kernel) rfl
theorem kc_X10_285 : Cond.constantLong RX10 285 (-2 : Int64) ∈ xT := x_in (i := 1138) (by decide +kernel) rfl
theorem lk_X10_287 : Cond.methodLink RX10 287 yX10_workScopes ∈ xT := x_in (i := 1139) (by decide +kernel) rfl
theorem lk_X10_290 : Cond.methodLink RX10 290 yX10_workBoard ∈ xT := x_in (i := 1196) (by decide +kernel) rfl
theorem lk_J7_13 : Cond.methodLink RJ7 13 yJ7_rangeCheck_23922 ∈ xT := x_in (i := 607) (by decide +kernel) rfl
theorem nl_L_7 : xNL RL 7 9 := ⟨RX9, TX9, 9, cl_X9, x_in (i := 60) (by decide +kernel) rfl, x_in (i := 61) (by decide +kernel) rfl, x_in (i := 46) (by decide +kernel) rfl, by decide +kernel⟩
theorem lk_L_9 : Cond.methodLink RL 9 yX9_init ∈ xT := x_in (i := 62) (by decide +kernel) rfl
theorem nl_L_10 : xNL RL 10 10 := ⟨RX10, TX10, 51, cl_X10, x_in (i := 831) (by decide +kernel) rfl, x_in (i := 832) (by decide +kernel) rfl, x_in (i := 56) (by decide +kernel) rfl, by decide +kernel⟩
theorem lk_L_12 : Cond.methodLink RL 12 yX10_init ∈ xT := x_in (i := 833) (by decide +kernel) rfl
theorem lk_L_13 : Cond.methodLink RL 13 yX9_fill ∈ xT := x_in (i := 429) (by decide +kernel) rfl
theorem lk_L_17 : Cond.methodLink RL 17 yX10_fill ∈ xT := x_in (i := 997) (by decide +kernel) rfl
theorem lk_L_18 : Cond.methodLink RL 18 yX9_part ∈ xT := x_in (i := 467) (by decide +kernel) rfl
theorem lk_L_22 : Cond.methodLink RL 22 yX10_part ∈ xT := x_in (i := 1018) (by decide +kernel) rfl
theorem lk_L_23 : Cond.methodLink RL 23 yX9_split ∈ xT := x_in (i := 475) (by decide +kernel) rfl
theorem lk_L_27 : Cond.methodLink RL 27 yX10_split ∈ xT := x_in (i := 1024) (by decide +kernel) rfl
theorem lk_L_28 : Cond.methodLink RL 28 yX9_repeat ∈ xT := x_in (i := 490) (by decide +kernel) rfl
theorem lk_L_32 : Cond.methodLink RL 32 yX10_repeat ∈ xT := x_in (i := 1032) (by decide +kernel) rfl
theorem lk_L_33 : Cond.methodLink RL 33 yX9_only ∈ xT := x_in (i := 499) (by decide +kernel) rfl
theorem lk_L_37 : Cond.methodLink RL 37 yX10_only ∈ xT := x_in (i := 1036) (by decide +kernel) rfl
theorem lk_L_38 : Cond.methodLink RL 38 yX9_clear ∈ xT := x_in (i := 508) (by decide +kernel) rfl
theorem lk_L_42 : Cond.methodLink RL 42 yX10_clear ∈ xT := x_in (i := 1047) (by decide +kernel) rfl
theorem lk_L_43 : Cond.methodLink RL 43 yX9_rule ∈ xT := x_in (i := 524) (by decide +kernel) rfl
theorem lk_L_47 : Cond.methodLink RL 47 yX10_rule ∈ xT := x_in (i := 1051) (by decide +kernel) rfl
theorem lk_L_48 : Cond.methodLink RL 48 yX9_holds ∈ xT := x_in (i := 528) (by decide +kernel) rfl
theorem lk_L_51 : Cond.methodLink RL 51 yX10_holds ∈ xT := x_in (i := 1055) (by decide +kernel) rfl
theorem lk_L_52 : Cond.methodLink RL 52 yX9_piece ∈ xT := x_in (i := 564) (by decide +kernel) rfl
theorem lk_L_56 : Cond.methodLink RL 56 yX10_piece ∈ xT := x_in (i := 1075) (by decide +kernel) rfl
theorem lk_L_57 : Cond.methodLink RL 57 yX9_draw ∈ xT := x_in (i := 568) (by decide +kernel) rfl
theorem lk_L_60 : Cond.methodLink RL 60 yX10_draw ∈ xT := x_in (i := 1079) (by decide +kernel) rfl
theorem lk_L_61 : Cond.methodLink RL 61 yX9_at ∈ xT := x_in (i := 615) (by decide +kernel) rfl
theorem lk_L_64 : Cond.methodLink RL 64 yX10_at ∈ xT := x_in (i := 1100) (by decide +kernel) rfl
theorem lk_L_65 : Cond.methodLink RL 65 yX9_step ∈ xT := x_in (i := 623) (by decide +kernel) rfl
theorem lk_L_69 : Cond.methodLink RL 69 yX10_step ∈ xT := x_in (i := 1104) (by decide +kernel) rfl
theorem lk_L_70 : Cond.methodLink RL 70 yX9_drawn ∈ xT := x_in (i := 627) (by decide +kernel) rfl
theorem lk_L_73 : Cond.methodLink RL 73 yX10_drawn ∈ xT := x_in (i := 1108) (by decide +kernel) rfl
theorem lk_L_74 : Cond.methodLink RL 74 yX9_fault ∈ xT := x_in (i := 631) (by decide +kernel) rfl
theorem lk_L_77 : Cond.methodLink RL 77 yX10_fault ∈ xT := x_in (i := 1112) (by decide +kernel) rfl
theorem lk_L_78 : Cond.methodLink RL 78 yX9_take ∈ xT := x_in (i := 635) (by decide +kernel) rfl
theorem lk_L_81 : Cond.methodLink RL 81 yX10_take ∈ xT := x_in (i := 1116) (by decide +kernel) rfl
theorem lk_L_82 : Cond.methodLink RL 82 yX9_ways ∈ xT := x_in (i := 654) (by decide +kernel) rfl
theorem lk_L_86 : Cond.methodLink RL 86 yX10_ways ∈ xT := x_in (i := 1133) (by decide +kernel) rfl
theorem lk_L_87 : Cond.methodLink RL 87 yX9_least ∈ xT := x_in (i := 778) (by decide +kernel) rfl
theorem lk_L_90 : Cond.methodLink RL 90 yX10_least ∈ xT := x_in (i := 1188) (by decide +kernel) rfl
theorem lk_L_91 : Cond.methodLink RL 91 yX9_board ∈ xT := x_in (i := 787) (by decide +kernel) rfl
theorem lk_L_94 : Cond.methodLink RL 94 yX10_board ∈ xT := x_in (i := 1120) (by decide +kernel) rfl
theorem lk_L_95 : Cond.methodLink RL 95 yX9_put ∈ xT := x_in (i := 791) (by decide +kernel) rfl
theorem lk_L_98 : Cond.methodLink RL 98 yX10_put_ ∈ xT := x_in (i := 1124) (by decide +kernel) rfl
theorem lk_L_99 : Cond.methodLink RL 99 yX9_parses ∈ xT := x_in (i := 796) (by decide +kernel) rfl
theorem lk_L_103 : Cond.methodLink RL 103 yX10_parses ∈ xT := x_in (i := 1192) (by decide +kernel) rfl
theorem lk_L_104 : Cond.methodLink RL 104 yX9_best ∈ xT := x_in (i := 804) (by decide +kernel) rfl
theorem lk_L_107 : Cond.methodLink RL 107 yX10_best ∈ xT := x_in (i := 1200) (by decide +kernel) rfl
theorem lk_L_108 : Cond.methodLink RL 108 yX9_bestStep ∈ xT := x_in (i := 808) (by decide +kernel) rfl
theorem lk_L_111 : Cond.methodLink RL 111 yX10_bestStep ∈ xT := x_in (i := 1204) (by decide +kernel) rfl
theorem lk_L_112 : Cond.methodLink RL 112 yX9_stands ∈ xT := x_in (i := 823) (by decide +kernel) rfl
theorem lk_L_116 : Cond.methodLink RL 116 yX10_stands ∈ xT := x_in (i := 1208) (by decide +kernel) rfl
theorem lk_L_117 : Cond.methodLink RL 117 yX9_count ∈ xT := x_in (i := 827) (by decide +kernel) rfl
theorem lk_L_120 : Cond.methodLink RL 120 yX10_count_ ∈ xT := x_in (i := 1212) (by decide +kernel) rfl
theorem ac_int : Cond.arrayClass .int ∈ xT := x_in (i := 108) (by decide +kernel) rfl
theorem ac_long : Cond.arrayClass .long ∈ xT := x_in (i := 275) (by decide +kernel) rfl
theorem ac_byte : Cond.arrayClass .byte ∈ xT := x_in (i := 226) (by decide +kernel) rfl
theorem ac_boolean : Cond.arrayClass .boolean ∈ xT := x_in (i := 996) (by decide +kernel) rfl
theorem w_oi : Cond.instanceMethod objectInit ∈ xT := x_in (i := 66) (by decide +kernel) rfl
theorem w_oc : Cond.code objectInit ⟨#[0xb1]⟩ 1 none ∈ xT := x_in (i := 67) (by decide +kernel) rfl
theorem w_mc : Cond.code Lib.MathLoose.min_long.x Lib.MathLoose.min_long.code 4 (some .long) ∈ xT := x_in (i := 719) (by decide +kernel) rfl
theorem w_ms : Cond.static Lib.MathLoose.min_long.x ∈ xT := x_in (i := 718) (by decide +kernel) rfl
theorem w_mi : Cond.initialized "java/lang/Math" ∈ xT := x_in (i := 58) (by decide +kernel) rfl
theorem w_yn : Cond.native arraycopyName ∈ xT := x_in (i := 748) (by decide +kernel) rfl
theorem w_ys : Cond.static arraycopyName ∈ xT := x_in (i := 747) (by decide +kernel) rfl
theorem w_yi : Cond.initialized "java/lang/System" ∈ xT := x_in (i := 59) (by decide +kernel) rfl
