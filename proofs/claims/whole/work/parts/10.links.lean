abbrev iM : Type := MethodName × ByteArray × Nat × Option FieldType × Nat × Nat × Bool
def iOwn (o : Nat) : String := match o with
  | 0 => RX0
  | 1 => RX1
  | 2 => RX2
  | 3 => RX3
  | 4 => RX4
  | 5 => RX5
  | 6 => RX6
  | 7 => RX7
  | 8 => RX8
  | 9 => RX9
  | _ => RL
def iT (o : Nat) : u_T := match o with
  | 0 => TX0
  | 1 => TX1
  | 2 => TX2
  | 3 => TX3
  | 4 => TX4
  | 5 => TX5
  | 6 => TX6
  | 7 => TX7
  | 8 => TX8
  | _ => TX9
def iTy (o : Nat) : Nat → FieldType := match o with
  | 0 => tyX0
  | 1 => tyX1
  | 2 => tyX2
  | 3 => tyX3
  | 4 => tyX4
  | 5 => tyX5
  | 6 => tyX6
  | 7 => tyX7
  | 8 => tyX8
  | _ => tyX9
def iN (o : Nat) : Nat := match o with
  | 0 => 7
  | 1 => 4
  | 2 => 7
  | 3 => 5
  | 4 => 4
  | 5 => 2
  | 6 => 5
  | 7 => 4
  | 8 => 8
  | 9 => 41
  | _ => 0
abbrev iCl : List vw_C := [(RX0, TX0, 7), (RX1, TX1, 4), (RX2, TX2, 7), (RX3, TX3, 5), (RX4, TX4, 4), (RX5, TX5, 2), (RX6, TX6, 5), (RX7, TX7, 4), (RX8, TX8, 8), (RX9, TX9, 41)]
def mX0_bringOthers : iM := (yX0_bringOthers, cX0_bringOthers, 6, none, 0, 6, false)
def mX0_brought : iM := (yX0_brought, cX0_brought, 8, (some (.object "TreePatches$Edit")), 0, 4, false)
def mX0_change : iM := (yX0_change, cX0_change, 2, none, 0, 5, false)
def mX0_draftInto : iM := (yX0_draftInto, cX0_draftInto, 5, (some .int), 0, 7, false)
def mX0_init : iM := (yX0_init, cX0_init, 4, none, 0, 2, false)
def mX0_markStaying : iM := (yX0_markStaying, cX0_markStaying, 6, none, 0, 4, false)
def mX0_measureRisingRows : iM := (yX0_measureRisingRows, cX0_measureRisingRows, 5, (some .int), 0, 1, false)
def mX0_nameOthers : iM := (yX0_nameOthers, cX0_nameOthers, 4, none, 0, 6, false)
def mX0_rankChildren : iM := (yX0_rankChildren, cX0_rankChildren, 7, (some .int), 0, 3, false)
def mX0_takeOthers : iM := (yX0_takeOthers, cX0_takeOthers, 4, none, 0, 6, false)
def mX1_add : iM := (yX1_add, cX1_add, 2, none, 1, 1, false)
def mX1_addAll : iM := (yX1_addAll, cX1_addAll, 3, none, 1, 2, false)
def mX1_addRebased : iM := (yX1_addRebased, cX1_addRebased, 6, none, 1, 6, false)
def mX1_addSqueezed : iM := (yX1_addSqueezed, cX1_addSqueezed, 4, none, 1, 4, false)
def mX1_clear : iM := (yX1_clear, cX1_clear, 1, none, 1, 1, false)
def mX1_countOf : iM := (yX1_countOf, cX1_countOf, 5, (some .int), 1, 2, false)
def mX1_editAt : iM := (yX1_editAt, cX1_editAt, 2, (some (.object "TreePatches$Edit")), 1, 1, false)
def mX1_init : iM := (yX1_init, cX1_init, 1, none, 1, 1, false)
def mX1_takeConflicts : iM := (yX1_takeConflicts, cX1_takeConflicts, 3, (some (.array .int)), 1, 1, false)
def mX1_takeEdits : iM := (yX1_takeEdits, cX1_takeEdits, 4, (some (.array (.object "TreePatches$Edit"))), 1, 1, false)
def mX2_fits : iM := (yX2_fits, cX2_fits, 3, (some .boolean), 2, 5, false)
def mX2_fitsAsGive : iM := (yX2_fitsAsGive, cX2_fitsAsGive, 4, (some .boolean), 2, 3, false)
def mX2_fitsAsMove : iM := (yX2_fitsAsMove, cX2_fitsAsMove, 4, (some .boolean), 2, 4, false)
def mX2_fitsAsTake : iM := (yX2_fitsAsTake, cX2_fitsAsTake, 3, (some .boolean), 2, 4, false)
def mX2_fitted : iM := (yX2_fitted, cX2_fitted, 4, (some (.object "TreePatches$Edit")), 2, 4, false)
def mX2_give : iM := (yX2_give, cX2_give, 4, (some (.object "TreePatches$Edit")), 2, 2, false)
def mX2_giveOver : iM := (yX2_giveOver, cX2_giveOver, 3, (some .int), 2, 4, false)
def mX2_init : iM := (yX2_init, cX2_init, 8, none, 2, 1, false)
def mX2_isLike : iM := (yX2_isLike, cX2_isLike, 2, (some .boolean), 2, 1, false)
def mX2_joinedWith : iM := (yX2_joinedWith, cX2_joinedWith, 2, (some (.object "TreePatches$Edit")), 2, 3, false)
def mX2_lastPlaceOfMove : iM := (yX2_lastPlaceOfMove, cX2_lastPlaceOfMove, 5, (some .int), 2, 3, false)
def mX2_move : iM := (yX2_move, cX2_move, 5, (some (.object "TreePatches$Edit")), 2, 2, false)
def mX2_moveOver : iM := (yX2_moveOver, cX2_moveOver, 5, (some .int), 2, 4, false)
def mX2_name : iM := (yX2_name, cX2_name, 3, (some (.object "TreePatches$Edit")), 2, 2, false)
def mX2_nameOver : iM := (yX2_nameOver, cX2_nameOver, 3, (some .int), 2, 3, false)
def mX2_namesAsWell : iM := (yX2_namesAsWell, cX2_namesAsWell, 2, (some .boolean), 2, 1, false)
def mX2_over : iM := (yX2_over, cX2_over, 3, (some .int), 2, 5, false)
def mX2_perform : iM := (yX2_perform, cX2_perform, 5, none, 2, 4, false)
def mX2_take : iM := (yX2_take, cX2_take, 4, (some (.object "TreePatches$Edit")), 2, 2, false)
def mX2_takeOver : iM := (yX2_takeOver, cX2_takeOver, 3, (some .int), 2, 3, false)
def mX2_told : iM := (yX2_told, cX2_told, 2, (some .int), 2, 1, false)
def mX2_turned : iM := (yX2_turned, cX2_turned, 1, (some (.object "TreePatches$Edit")), 2, 3, false)
def mX3_changeUntilMisfit : iM := (yX3_changeUntilMisfit, cX3_changeUntilMisfit, 4, (some .int), 3, 6, false)
def mX3_conflictAt : iM := (yX3_conflictAt, cX3_conflictAt, 4, (some .int), 3, 1, false)
def mX3_conflictCount : iM := (yX3_conflictCount, cX3_conflictCount, 1, (some .int), 3, 1, false)
def mX3_countOf : iM := (yX3_countOf, cX3_countOf, 5, (some .int), 3, 1, false)
def mX3_editAt : iM := (yX3_editAt, cX3_editAt, 2, (some (.object "TreePatches$Edit")), 3, 1, false)
def mX3_init : iM := (yX3_init, cX3_init, 5, none, 3, 2, false)
def mX3_isOf : iM := (yX3_isOf, cX3_isOf, 2, (some .boolean), 3, 1, false)
def mX3_keyBits : iM := (yX3_keyBits, cX3_keyBits, 6, (some .int), 3, 1, false)
def mX3_saysAs : iM := (yX3_saysAs, cX3_saysAs, 2, (some .int), 3, 2, false)
def mX3_size : iM := (yX3_size, cX3_size, 1, (some .int), 3, 1, false)
def mX4_init : iM := (yX4_init, cX4_init, 2, none, 4, 2, false)
def mX4_isDigit : iM := (yX4_isDigit, cX4_isDigit, 3, (some .boolean), 4, 4, false)
def mX4_read : iM := (yX4_read, cX4_read, 5, (some .int), 4, 6, false)
def mX4_readNode : iM := (yX4_readNode, cX4_readNode, 4, (some .int), 4, 5, false)
def mX4_readSign : iM := (yX4_readSign, cX4_readSign, 3, (some .int), 4, 4, false)
def mX5_cutToSort : iM := (yX5_cutToSort, cX5_cutToSort, 3, (some .long), 5, 1, false)
def mX5_has : iM := (yX5_has, cX5_has, 2, (some .boolean), 5, 1, false)
def mX5_hasRun : iM := (yX5_hasRun, cX5_hasRun, 3, (some .boolean), 5, 1, false)
def mX5_init : iM := (yX5_init, cX5_init, 3, none, 5, 1, false)
def mX5_intAt : iM := (yX5_intAt, cX5_intAt, 2, (some .int), 5, 3, false)
def mX5_keep : iM := (yX5_keep, cX5_keep, 4, none, 5, 2, false)
def mX5_length : iM := (yX5_length, cX5_length, 1, (some .int), 5, 1, false)
def mX5_longAt : iM := (yX5_longAt, cX5_longAt, 2, (some .long), 5, 2, false)
def mX6_addPatch : iM := (yX6_addPatch, cX6_addPatch, 2, (some .int), 6, 1, false)
def mX6_addTree : iM := (yX6_addTree, cX6_addTree, 2, (some .int), 6, 1, false)
def mX6_draw : iM := (yX6_draw, cX6_draw, 2, (some .int), 6, 1, false)
def mX6_dropTree : iM := (yX6_dropTree, cX6_dropTree, 1, none, 6, 1, false)
def mX6_editCount : iM := (yX6_editCount, cX6_editCount, 4, (some .int), 6, 2, false)
def mX6_forgetPatch : iM := (yX6_forgetPatch, cX6_forgetPatch, 1, none, 6, 1, false)
def mX6_init : iM := (yX6_init, cX6_init, 1, none, 6, 1, false)
def mX6_init_ : iM := (yX6_init_, cX6_init_, 3, none, 6, 1, false)
def mX6_nodeCount : iM := (yX6_nodeCount, cX6_nodeCount, 4, (some .int), 6, 2, false)
def mX6_patchAt : iM := (yX6_patchAt, cX6_patchAt, 2, (some (.object "TreePatches$Patch")), 6, 1, false)
def mX6_replaceTree : iM := (yX6_replaceTree, cX6_replaceTree, 3, none, 6, 1, false)
def mX6_treeAt : iM := (yX6_treeAt, cX6_treeAt, 2, (some (.object "TreePatches$Tree")), 6, 1, false)
def mX7_carry : iM := (yX7_carry, cX7_carry, 7, none, 7, 3, false)
def mX7_childCount : iM := (yX7_childCount, cX7_childCount, 4, (some .int), 7, 2, false)
def mX7_depthAt : iM := (yX7_depthAt, cX7_depthAt, 2, (some .int), 7, 2, false)
def mX7_endOf : iM := (yX7_endOf, cX7_endOf, 3, (some .int), 7, 2, false)
def mX7_firstUnlike : iM := (yX7_firstUnlike, cX7_firstUnlike, 4, (some .int), 7, 2, false)
def mX7_firstWrong : iM := (yX7_firstWrong, cX7_firstWrong, 4, (some .int), 7, 4, false)
def mX7_has : iM := (yX7_has, cX7_has, 2, (some .boolean), 7, 1, false)
def mX7_init : iM := (yX7_init, cX7_init, 1, none, 7, 1, false)
def mX7_init_ : iM := (yX7_init_, cX7_init_, 2, none, 7, 1, false)
def mX7_insert : iM := (yX7_insert, cX7_insert, 6, none, 7, 1, false)
def mX7_isWithin : iM := (yX7_isWithin, cX7_isWithin, 3, (some .boolean), 7, 3, false)
def mX7_keyAt : iM := (yX7_keyAt, cX7_keyAt, 2, (some .int), 7, 2, false)
def mX7_labelAt : iM := (yX7_labelAt, cX7_labelAt, 2, (some .int), 7, 2, false)
def mX7_lowestOver : iM := (yX7_lowestOver, cX7_lowestOver, 4, (some .int), 7, 4, false)
def mX7_parentAt : iM := (yX7_parentAt, cX7_parentAt, 3, (some .int), 7, 2, false)
def mX7_parentKeyAt : iM := (yX7_parentKeyAt, cX7_parentKeyAt, 2, (some .int), 7, 3, false)
def mX7_placeAt : iM := (yX7_placeAt, cX7_placeAt, 4, (some .int), 7, 2, false)
def mX7_remove : iM := (yX7_remove, cX7_remove, 3, none, 7, 2, false)
def mX7_rename : iM := (yX7_rename, cX7_rename, 3, none, 7, 2, false)
def mX7_spot : iM := (yX7_spot, cX7_spot, 7, (some .int), 7, 3, false)
def mX7_turnRound : iM := (yX7_turnRound, cX7_turnRound, 8, none, 7, 1, false)
def mX7_whereOf : iM := (yX7_whereOf, cX7_whereOf, 3, (some .int), 7, 1, false)
def mX8_above : iM := (yX8_above, cX8_above, 7, (some .int), 8, 5, false)
def mX8_apply : iM := (yX8_apply, cX8_apply, 6, (some .int), 8, 7, false)
def mX8_behind : iM := (yX8_behind, cX8_behind, 5, (some .int), 8, 4, false)
def mX8_child : iM := (yX8_child, cX8_child, 6, (some .int), 8, 4, false)
def mX8_conflict : iM := (yX8_conflict, cX8_conflict, 5, (some .int), 8, 3, false)
def mX8_copy : iM := (yX8_copy, cX8_copy, 8, (some .int), 8, 3, false)
def mX8_days : iM := (yX8_days, cX8_days, 6, (some .int), 8, 4, false)
def mX8_difference : iM := (yX8_difference, cX8_difference, 4, (some .int), 8, 8, false)
def mX8_drop : iM := (yX8_drop, cX8_drop, 2, (some .int), 8, 3, false)
def mX8_edit : iM := (yX8_edit, cX8_edit, 6, (some .int), 8, 3, false)
def mX8_element : iM := (yX8_element, cX8_element, 4, (some .long), 8, 3, false)
def mX8_emptyVainShelves : iM := (yX8_emptyVainShelves, cX8_emptyVainShelves, 2, none, 8, 1, false)
def mX8_far : iM := (yX8_far, cX8_far, 4, (some .int), 8, 8, false)
def mX8_fault : iM := (yX8_fault, cX8_fault, 1, (some .int), 8, 1, false)
def mX8_find : iM := (yX8_find, cX8_find, 4, (some .int), 8, 3, false)
def mX8_forget : iM := (yX8_forget, cX8_forget, 1, (some .int), 8, 2, false)
def mX8_fullShelves : iM := (yX8_fullShelves, cX8_fullShelves, 3, (some .int), 8, 1, false)
def mX8_hand : iM := (yX8_hand, cX8_hand, 6, (some .int), 8, 4, false)
def mX8_holds : iM := (yX8_holds, cX8_holds, 3, (some .int), 8, 3, false)
def mX8_image : iM := (yX8_image, cX8_image, 1, (some .int), 8, 2, false)
def mX8_init : iM := (yX8_init, cX8_init, 2, none, 8, 2, false)
def mX8_invert : iM := (yX8_invert, cX8_invert, 5, (some .int), 8, 4, false)
def mX8_isLabel : iM := (yX8_isLabel, cX8_isLabel, 1, (some .boolean), 8, 1, false)
def mX8_isShelf : iM := (yX8_isShelf, cX8_isShelf, 1, (some .boolean), 8, 1, false)
def mX8_judge : iM := (yX8_judge, cX8_judge, 6, (some .int), 8, 5, false)
def mX8_keepDraft : iM := (yX8_keepDraft, cX8_keepDraft, 3, (some .int), 8, 3, false)
def mX8_moves : iM := (yX8_moves, cX8_moves, 4, (some .int), 8, 8, false)
def mX8_node : iM := (yX8_node, cX8_node, 5, (some .int), 8, 4, false)
def mX8_nodes : iM := (yX8_nodes, cX8_nodes, 3, (some .int), 8, 3, false)
def mX8_passDay : iM := (yX8_passDay, cX8_passDay, 6, none, 8, 3, false)
def mX8_patchAt : iM := (yX8_patchAt, cX8_patchAt, 2, (some (.object "TreePatches$Patch")), 8, 2, false)
def mX8_patchOf : iM := (yX8_patchOf, cX8_patchOf, 4, (some .int), 8, 3, false)
def mX8_put : iM := (yX8_put, cX8_put, 8, (some .int), 8, 6, false)
def mX8_rebase : iM := (yX8_rebase, cX8_rebase, 8, (some .int), 8, 7, false)
def mX8_refuse : iM := (yX8_refuse, cX8_refuse, 2, (some .int), 8, 1, false)
def mX8_refuseLower : iM := (yX8_refuseLower, cX8_refuseLower, 2, (some .int), 8, 2, false)
def mX8_restore : iM := (yX8_restore, cX8_restore, 1, (some .int), 8, 2, false)
def mX8_row : iM := (yX8_row, cX8_row, 4, (some .int), 8, 2, false)
def mX8_rowAt : iM := (yX8_rowAt, cX8_rowAt, 2, (some (.object "TreePatches$Row")), 8, 2, false)
def mX8_same : iM := (yX8_same, cX8_same, 5, (some .int), 8, 3, false)
def mX8_says : iM := (yX8_says, cX8_says, 4, (some .int), 8, 3, false)
def mX8_seed : iM := (yX8_seed, cX8_seed, 3, (some .int), 8, 1, false)
def mX8_set : iM := (yX8_set, cX8_set, 6, (some .int), 8, 3, false)
def mX8_show : iM := (yX8_show, cX8_show, 3, (some .int), 8, 3, false)
def mX8_squeeze : iM := (yX8_squeeze, cX8_squeeze, 4, (some .int), 8, 5, false)
def mX8_status : iM := (yX8_status, cX8_status, 2, (some .int), 8, 3, false)
def mX8_sticks : iM := (yX8_sticks, cX8_sticks, 5, (some .int), 8, 7, false)
def mX8_touched : iM := (yX8_touched, cX8_touched, 4, (some .int), 8, 3, false)
def mX8_tree : iM := (yX8_tree, cX8_tree, 5, (some .int), 8, 7, false)
def mX8_treeAt : iM := (yX8_treeAt, cX8_treeAt, 2, (some (.object "TreePatches$Tree")), 8, 2, false)
def mX8_whyNoRow : iM := (yX8_whyNoRow, cX8_whyNoRow, 2, (some .int), 8, 2, false)
def mX9_above : iM := (yX9_above, cX9_above, 6, (some .int), 9, 3, false)
def mX9_all : iM := (yX9_all, cX9_all, 3, none, 9, 2, false)
def mX9_apply : iM := (yX9_apply, cX9_apply, 3, (some .int), 9, 7, false)
def mX9_behind : iM := (yX9_behind, cX9_behind, 3, (some .int), 9, 3, false)
def mX9_child : iM := (yX9_child, cX9_child, 5, (some .int), 9, 2, false)
def mX9_child_ : iM := (yX9_child_, cX9_child_, 5, (some .int), 9, 3, false)
def mX9_children : iM := (yX9_children, cX9_children, 4, (some .int), 9, 2, false)
def mX9_conflict : iM := (yX9_conflict, cX9_conflict, 4, (some .int), 9, 3, false)
def mX9_copy : iM := (yX9_copy, cX9_copy, 7, (some .int), 9, 2, false)
def mX9_cuts : iM := (yX9_cuts, cX9_cuts, 4, none, 9, 1, false)
def mX9_day : iM := (yX9_day, cX9_day, 3, none, 9, 4, false)
def mX9_days : iM := (yX9_days, cX9_days, 4, (some .int), 9, 5, false)
def mX9_difference : iM := (yX9_difference, cX9_difference, 3, (some .int), 9, 9, false)
def mX9_differs : iM := (yX9_differs, cX9_differs, 5, none, 9, 8, false)
def mX9_does : iM := (yX9_does, cX9_does, 5, (some .boolean), 9, 5, false)
def mX9_draw : iM := (yX9_draw, cX9_draw, 2, (some .int), 9, 1, false)
def mX9_drop : iM := (yX9_drop, cX9_drop, 2, (some .int), 9, 3, false)
def mX9_edit : iM := (yX9_edit, cX9_edit, 3, (some .int), 9, 1, false)
def mX9_edit_ : iM := (yX9_edit_, cX9_edit_, 4, (some .int), 9, 3, false)
def mX9_element : iM := (yX9_element, cX9_element, 3, (some .long), 9, 2, false)
def mX9_end : iM := (yX9_end, cX9_end, 3, (some .int), 9, 1, false)
def mX9_far : iM := (yX9_far, cX9_far, 3, (some .int), 9, 9, false)
def mX9_fault : iM := (yX9_fault, cX9_fault, 1, (some .int), 9, 1, false)
def mX9_find : iM := (yX9_find, cX9_find, 3, (some .int), 9, 1, false)
def mX9_find_ : iM := (yX9_find_, cX9_find_, 3, (some .int), 9, 3, false)
def mX9_forget : iM := (yX9_forget, cX9_forget, 2, (some .int), 9, 2, false)
def mX9_gives : iM := (yX9_gives, cX9_gives, 5, (some .int), 9, 7, false)
def mX9_goes : iM := (yX9_goes, cX9_goes, 8, none, 9, 6, false)
def mX9_hand : iM := (yX9_hand, cX9_hand, 5, (some .int), 9, 3, false)
def mX9_holds : iM := (yX9_holds, cX9_holds, 2, (some .int), 9, 2, false)
def mX9_image : iM := (yX9_image, cX9_image, 2, (some .int), 9, 1, false)
def mX9_indexOf : iM := (yX9_indexOf, cX9_indexOf, 4, (some .int), 9, 2, false)
def mX9_init : iM := (yX9_init, cX9_init, 2, none, 9, 1, false)
def mX9_invert : iM := (yX9_invert, cX9_invert, 3, (some .int), 9, 3, false)
def mX9_is : iM := (yX9_is, cX9_is, 2, (some .boolean), 9, 2, false)
def mX9_isBelow : iM := (yX9_isBelow, cX9_isBelow, 3, (some .boolean), 9, 2, false)
def mX9_isDigit : iM := (yX9_isDigit, cX9_isDigit, 1, (some .boolean), 9, 2, false)
def mX9_isPatch : iM := (yX9_isPatch, cX9_isPatch, 2, (some .boolean), 9, 2, false)
def mX9_isRow : iM := (yX9_isRow, cX9_isRow, 2, (some .boolean), 9, 1, false)
def mX9_isTree : iM := (yX9_isTree, cX9_isTree, 2, (some .boolean), 9, 2, false)
def mX9_isUnlike : iM := (yX9_isUnlike, cX9_isUnlike, 3, (some .boolean), 9, 2, false)
def mX9_judge : iM := (yX9_judge, cX9_judge, 6, (some .int), 9, 3, false)
def mX9_keeps : iM := (yX9_keeps, cX9_keeps, 4, (some .int), 9, 8, false)
def mX9_keepsMove : iM := (yX9_keepsMove, cX9_keepsMove, 7, (some .int), 9, 7, false)
def mX9_keyOf : iM := (yX9_keyOf, cX9_keyOf, 3, (some .int), 9, 1, false)
def mX9_lays : iM := (yX9_lays, cX9_lays, 3, none, 9, 1, false)
def mX9_loads : iM := (yX9_loads, cX9_loads, 3, none, 9, 1, false)
def mX9_makes : iM := (yX9_makes, cX9_makes, 9, none, 9, 1, false)
def mX9_moves : iM := (yX9_moves, cX9_moves, 7, (some .boolean), 9, 4, false)
def mX9_moves_ : iM := (yX9_moves_, cX9_moves_, 5, (some .int), 9, 9, false)
def mX9_newPatch : iM := (yX9_newPatch, cX9_newPatch, 5, (some .int), 9, 2, false)
def mX9_next : iM := (yX9_next, cX9_next, 6, (some .int), 9, 1, false)
def mX9_no : iM := (yX9_no, cX9_no, 2, (some .int), 9, 1, false)
def mX9_no10 : iM := (yX9_no10, cX9_no10, 2, (some .int), 9, 2, false)
def mX9_noRow : iM := (yX9_noRow, cX9_noRow, 2, (some .int), 9, 2, false)
def mX9_node : iM := (yX9_node, cX9_node, 6, (some .boolean), 9, 3, true)
def mX9_node_ : iM := (yX9_node_, cX9_node_, 4, (some .int), 9, 3, false)
def mX9_nodes : iM := (yX9_nodes, cX9_nodes, 2, (some .int), 9, 3, false)
def mX9_of : iM := (yX9_of, cX9_of, 3, (some .int), 9, 1, false)
def mX9_ordered : iM := (yX9_ordered, cX9_ordered, 14, none, 9, 7, false)
def mX9_parent : iM := (yX9_parent, cX9_parent, 3, (some .int), 9, 1, false)
def mX9_parentKey : iM := (yX9_parentKey, cX9_parentKey, 2, (some .int), 9, 2, false)
def mX9_patchOf : iM := (yX9_patchOf, cX9_patchOf, 5, (some .int), 9, 3, false)
def mX9_place : iM := (yX9_place, cX9_place, 4, (some .int), 9, 1, false)
def mX9_placeIn : iM := (yX9_placeIn, cX9_placeIn, 4, (some .int), 9, 3, false)
def mX9_put : iM := (yX9_put, cX9_put, 6, (some .int), 9, 6, false)
def mX9_puts : iM := (yX9_puts, cX9_puts, 7, none, 9, 3, false)
def mX9_rebase : iM := (yX9_rebase, cX9_rebase, 5, (some .int), 9, 9, false)
def mX9_restore : iM := (yX9_restore, cX9_restore, 2, (some .int), 9, 2, false)
def mX9_row : iM := (yX9_row, cX9_row, 5, (some .int), 9, 2, false)
def mX9_same : iM := (yX9_same, cX9_same, 6, (some .int), 9, 3, false)
def mX9_says : iM := (yX9_says, cX9_says, 4, (some .int), 9, 2, false)
def mX9_seed : iM := (yX9_seed, cX9_seed, 3, (some .int), 9, 1, false)
def mX9_set : iM := (yX9_set, cX9_set, 7, (some .int), 9, 3, false)
def mX9_show : iM := (yX9_show, cX9_show, 3, (some .int), 9, 3, false)
def mX9_sign : iM := (yX9_sign, cX9_sign, 1, (some .int), 9, 1, false)
def mX9_squeeze : iM := (yX9_squeeze, cX9_squeeze, 3, (some .int), 9, 5, false)
def mX9_squeezes : iM := (yX9_squeezes, cX9_squeezes, 3, (some .boolean), 9, 4, false)
def mX9_status : iM := (yX9_status, cX9_status, 4, (some .int), 9, 2, false)
def mX9_staying : iM := (yX9_staying, cX9_staying, 13, (some .long), 9, 4, false)
def mX9_sticks : iM := (yX9_sticks, cX9_sticks, 3, (some .int), 9, 7, false)
def mX9_stuck : iM := (yX9_stuck, cX9_stuck, 3, (some .int), 9, 6, false)
def mX9_touched : iM := (yX9_touched, cX9_touched, 6, (some .int), 9, 3, false)
def mX9_tree : iM := (yX9_tree, cX9_tree, 4, (some .int), 9, 49, false)
def mX9_turns : iM := (yX9_turns, cX9_turns, 3, none, 9, 2, false)
def mX9_undoes : iM := (yX9_undoes, cX9_undoes, 3, (some .boolean), 9, 3, false)
def mX9_vanish : iM := (yX9_vanish, cX9_vanish, 4, none, 9, 1, false)
def mX9_within : iM := (yX9_within, cX9_within, 3, (some .boolean), 9, 1, false)
def mL_law : iM := (yL_law, cL_law, 4, (some .boolean), 10, 50, false)
def iF (o : Nat) : List (Nat × Nat × Nat × Bool) := match o with
  | 0 => [(9, 0, 4, false), (15, 0, 5, false), (18, 0, 6, false), (22, 0, 3, false), (26, 0, 0, false), (30, 0, 1, false), (38, 0, 2, false), (56, 7, 3, false)]
  | 1 => [(11, 1, 0, false), (17, 1, 1, false), (21, 1, 2, false), (25, 1, 3, false), (69, 2, 0, false)]
  | 2 => [(9, 2, 0, false), (15, 2, 1, false), (18, 2, 2, false), (21, 2, 3, false), (24, 2, 4, false), (27, 2, 5, false), (30, 2, 6, false), (79, 7, 3, false)]
  | 3 => [(15, 3, 1, false), (25, 3, 2, false), (29, 3, 3, false), (33, 3, 4, false), (36, 3, 0, false), (43, 2, 0, false), (48, 2, 1, true)]
  | 4 => [(12, 4, 0, false), (18, 4, 2, false), (22, 4, 3, false), (25, 4, 1, false), (49, 7, 3, false)]
  | 5 => [(9, 5, 0, false), (15, 5, 1, false)]
  | 6 => [(11, 6, 0, false), (19, 6, 1, false), (23, 6, 2, false), (27, 6, 3, false), (30, 6, 4, false), (37, 7, 3, false)]
  | 7 => [(9, 7, 0, false), (15, 7, 1, false), (18, 7, 2, false), (21, 7, 3, false)]
  | 8 => [(11, 8, 0, false), (15, 8, 1, false), (19, 8, 2, false), (25, 8, 3, false), (32, 8, 4, false), (36, 8, 5, false), (39, 8, 6, false), (43, 8, 7, false), (71, 5, 0, false), (78, 5, 1, false), (113, 4, 0, false), (125, 7, 3, false), (169, 6, 2, false), (184, 1, 2, false), (190, 3, 0, false), (259, 6, 3, false), (278, 6, 4, false)]
  | 9 => [(7, 9, 1, false), (13, 9, 2, false), (16, 9, 3, false), (19, 9, 4, false), (22, 9, 7, false), (25, 9, 8, false), (28, 9, 9, false), (31, 9, 11, false), (34, 9, 12, false), (37, 9, 13, false), (41, 9, 17, false), (44, 9, 19, false), (47, 9, 20, false), (50, 9, 21, false), (53, 9, 22, false), (56, 9, 23, false), (59, 9, 24, false), (62, 9, 26, false), (65, 9, 28, false), (68, 9, 29, false), (71, 9, 32, false), (74, 9, 33, false), (77, 9, 34, false), (80, 9, 35, false), (83, 9, 37, false), (86, 9, 38, false), (89, 9, 39, false), (92, 9, 10, false), (96, 9, 14, false), (103, 9, 0, false), (110, 9, 5, false), (127, 9, 18, false), (139, 9, 16, false), (142, 9, 15, false), (200, 9, 25, false), (239, 9, 6, false), (242, 9, 27, false), (295, 9, 30, false), (299, 9, 31, false), (302, 9, 36, false), (305, 9, 40, false)]
  | _ => []
def iFok (o : Nat) (e : Nat × Nat × Nat × Bool) : Prop := e.2.1 < 10 ∧ e.2.2.1 < iN e.2.1 ∧ (if e.2.2.2 = true then Cond.fieldLinkNest (iOwn o) e.1 (iOwn e.2.1) (iT e.2.1 e.2.2.1).2.1 (iT e.2.1 e.2.2.1).2.2.1 RX8 else Cond.fieldLink (iOwn o) e.1 (iOwn e.2.1) (iT e.2.1 e.2.2.1).2.1 (iT e.2.1 e.2.2.1).2.2.1) ∈ lw_tbl
theorem iFok_0 : ∀ e ∈ iF 0, iFok 0 e := List.forall_mem_cons.mpr ⟨⟨by decide, by decide, List.mem_of_getElem? (i := 504) (by decide +kernel)⟩, List.forall_mem_cons.mpr ⟨⟨by decide, by decide, List.mem_of_getElem? (i := 505) (by decide +kernel)⟩, List.forall_mem_cons.mpr ⟨⟨by decide, by decide, List.mem_of_getElem? (i := 506) (by decide +kernel)⟩, List.forall_mem_cons.mpr ⟨⟨by decide, by decide, List.mem_of_getElem? (i := 503) (by decide +kernel)⟩, List.forall_mem_cons.mpr ⟨⟨by decide, by decide, List.mem_of_getElem? (i := 500) (by decide +kernel)⟩, List.forall_mem_cons.mpr ⟨⟨by decide, by decide, List.mem_of_getElem? (i := 501) (by decide +kernel)⟩, List.forall_mem_cons.mpr ⟨⟨by decide, by decide, List.mem_of_getElem? (i := 502) (by decide +kernel)⟩, List.forall_mem_cons.mpr ⟨⟨by decide, by decide, List.mem_of_getElem? (i := 301) (by decide +kernel)⟩, fun _ h => absurd h List.not_mem_nil⟩⟩⟩⟩⟩⟩⟩⟩
theorem iFok_1 : ∀ e ∈ iF 1, iFok 1 e := List.forall_mem_cons.mpr ⟨⟨by decide, by decide, List.mem_of_getElem? (i := 110) (by decide +kernel)⟩, List.forall_mem_cons.mpr ⟨⟨by decide, by decide, List.mem_of_getElem? (i := 111) (by decide +kernel)⟩, List.forall_mem_cons.mpr ⟨⟨by decide, by decide, List.mem_of_getElem? (i := 112) (by decide +kernel)⟩, List.forall_mem_cons.mpr ⟨⟨by decide, by decide, List.mem_of_getElem? (i := 114) (by decide +kernel)⟩, List.forall_mem_cons.mpr ⟨⟨by decide, by decide, List.mem_of_getElem? (i := 540) (by decide +kernel)⟩, fun _ h => absurd h List.not_mem_nil⟩⟩⟩⟩⟩
theorem iFok_2 : ∀ e ∈ iF 2, iFok 2 e := List.forall_mem_cons.mpr ⟨⟨by decide, by decide, List.mem_of_getElem? (i := 538) (by decide +kernel)⟩, List.forall_mem_cons.mpr ⟨⟨by decide, by decide, List.mem_of_getElem? (i := 541) (by decide +kernel)⟩, List.forall_mem_cons.mpr ⟨⟨by decide, by decide, List.mem_of_getElem? (i := 543) (by decide +kernel)⟩, List.forall_mem_cons.mpr ⟨⟨by decide, by decide, List.mem_of_getElem? (i := 544) (by decide +kernel)⟩, List.forall_mem_cons.mpr ⟨⟨by decide, by decide, List.mem_of_getElem? (i := 545) (by decide +kernel)⟩, List.forall_mem_cons.mpr ⟨⟨by decide, by decide, List.mem_of_getElem? (i := 546) (by decide +kernel)⟩, List.forall_mem_cons.mpr ⟨⟨by decide, by decide, List.mem_of_getElem? (i := 547) (by decide +kernel)⟩, List.forall_mem_cons.mpr ⟨⟨by decide, by decide, List.mem_of_getElem? (i := 305) (by decide +kernel)⟩, fun _ h => absurd h List.not_mem_nil⟩⟩⟩⟩⟩⟩⟩⟩
theorem iFok_3 : ∀ e ∈ iF 3, iFok 3 e := List.forall_mem_cons.mpr ⟨⟨by decide, by decide, List.mem_of_getElem? (i := 659) (by decide +kernel)⟩, List.forall_mem_cons.mpr ⟨⟨by decide, by decide, List.mem_of_getElem? (i := 660) (by decide +kernel)⟩, List.forall_mem_cons.mpr ⟨⟨by decide, by decide, List.mem_of_getElem? (i := 661) (by decide +kernel)⟩, List.forall_mem_cons.mpr ⟨⟨by decide, by decide, List.mem_of_getElem? (i := 662) (by decide +kernel)⟩, List.forall_mem_cons.mpr ⟨⟨by decide, by decide, List.mem_of_getElem? (i := 657) (by decide +kernel)⟩, List.forall_mem_cons.mpr ⟨⟨by decide, by decide, List.mem_of_getElem? (i := 539) (by decide +kernel)⟩, List.forall_mem_cons.mpr ⟨⟨by decide, by decide, List.mem_of_getElem? (i := 542) (by decide +kernel)⟩, fun _ h => absurd h List.not_mem_nil⟩⟩⟩⟩⟩⟩⟩
theorem iFok_4 : ∀ e ∈ iF 4, iFok 4 e := List.forall_mem_cons.mpr ⟨⟨by decide, by decide, List.mem_of_getElem? (i := 315) (by decide +kernel)⟩, List.forall_mem_cons.mpr ⟨⟨by decide, by decide, List.mem_of_getElem? (i := 318) (by decide +kernel)⟩, List.forall_mem_cons.mpr ⟨⟨by decide, by decide, List.mem_of_getElem? (i := 319) (by decide +kernel)⟩, List.forall_mem_cons.mpr ⟨⟨by decide, by decide, List.mem_of_getElem? (i := 317) (by decide +kernel)⟩, List.forall_mem_cons.mpr ⟨⟨by decide, by decide, List.mem_of_getElem? (i := 302) (by decide +kernel)⟩, fun _ h => absurd h List.not_mem_nil⟩⟩⟩⟩⟩
theorem iFok_5 : ∀ e ∈ iF 5, iFok 5 e := List.forall_mem_cons.mpr ⟨⟨by decide, by decide, List.mem_of_getElem? (i := 195) (by decide +kernel)⟩, List.forall_mem_cons.mpr ⟨⟨by decide, by decide, List.mem_of_getElem? (i := 197) (by decide +kernel)⟩, fun _ h => absurd h List.not_mem_nil⟩⟩
theorem iFok_6 : ∀ e ∈ iF 6, iFok 6 e := List.forall_mem_cons.mpr ⟨⟨by decide, by decide, List.mem_of_getElem? (i := 135) (by decide +kernel)⟩, List.forall_mem_cons.mpr ⟨⟨by decide, by decide, List.mem_of_getElem? (i := 136) (by decide +kernel)⟩, List.forall_mem_cons.mpr ⟨⟨by decide, by decide, List.mem_of_getElem? (i := 137) (by decide +kernel)⟩, List.forall_mem_cons.mpr ⟨⟨by decide, by decide, List.mem_of_getElem? (i := 139) (by decide +kernel)⟩, List.forall_mem_cons.mpr ⟨⟨by decide, by decide, List.mem_of_getElem? (i := 141) (by decide +kernel)⟩, List.forall_mem_cons.mpr ⟨⟨by decide, by decide, List.mem_of_getElem? (i := 303) (by decide +kernel)⟩, fun _ h => absurd h List.not_mem_nil⟩⟩⟩⟩⟩⟩
theorem iFok_7 : ∀ e ∈ iF 7, iFok 7 e := List.forall_mem_cons.mpr ⟨⟨by decide, by decide, List.mem_of_getElem? (i := 297) (by decide +kernel)⟩, List.forall_mem_cons.mpr ⟨⟨by decide, by decide, List.mem_of_getElem? (i := 298) (by decide +kernel)⟩, List.forall_mem_cons.mpr ⟨⟨by decide, by decide, List.mem_of_getElem? (i := 299) (by decide +kernel)⟩, List.forall_mem_cons.mpr ⟨⟨by decide, by decide, List.mem_of_getElem? (i := 300) (by decide +kernel)⟩, fun _ h => absurd h List.not_mem_nil⟩⟩⟩⟩
theorem iFok_8 : ∀ e ∈ iF 8, iFok 8 e := List.forall_mem_cons.mpr ⟨⟨by decide, by decide, List.mem_of_getElem? (i := 154) (by decide +kernel)⟩, List.forall_mem_cons.mpr ⟨⟨by decide, by decide, List.mem_of_getElem? (i := 155) (by decide +kernel)⟩, List.forall_mem_cons.mpr ⟨⟨by decide, by decide, List.mem_of_getElem? (i := 156) (by decide +kernel)⟩, List.forall_mem_cons.mpr ⟨⟨by decide, by decide, List.mem_of_getElem? (i := 157) (by decide +kernel)⟩, List.forall_mem_cons.mpr ⟨⟨by decide, by decide, List.mem_of_getElem? (i := 158) (by decide +kernel)⟩, List.forall_mem_cons.mpr ⟨⟨by decide, by decide, List.mem_of_getElem? (i := 159) (by decide +kernel)⟩, List.forall_mem_cons.mpr ⟨⟨by decide, by decide, List.mem_of_getElem? (i := 160) (by decide +kernel)⟩, List.forall_mem_cons.mpr ⟨⟨by decide, by decide, List.mem_of_getElem? (i := 161) (by decide +kernel)⟩, List.forall_mem_cons.mpr ⟨⟨by decide, by decide, List.mem_of_getElem? (i := 196) (by decide +kernel)⟩, List.forall_mem_cons.mpr ⟨⟨by decide, by decide, List.mem_of_getElem? (i := 198) (by decide +kernel)⟩, List.forall_mem_cons.mpr ⟨⟨by decide, by decide, List.mem_of_getElem? (i := 316) (by decide +kernel)⟩, List.forall_mem_cons.mpr ⟨⟨by decide, by decide, List.mem_of_getElem? (i := 304) (by decide +kernel)⟩, List.forall_mem_cons.mpr ⟨⟨by decide, by decide, List.mem_of_getElem? (i := 138) (by decide +kernel)⟩, List.forall_mem_cons.mpr ⟨⟨by decide, by decide, List.mem_of_getElem? (i := 113) (by decide +kernel)⟩, List.forall_mem_cons.mpr ⟨⟨by decide, by decide, List.mem_of_getElem? (i := 658) (by decide +kernel)⟩, List.forall_mem_cons.mpr ⟨⟨by decide, by decide, List.mem_of_getElem? (i := 140) (by decide +kernel)⟩, List.forall_mem_cons.mpr ⟨⟨by decide, by decide, List.mem_of_getElem? (i := 142) (by decide +kernel)⟩, fun _ h => absurd h List.not_mem_nil⟩⟩⟩⟩⟩⟩⟩⟩⟩⟩⟩⟩⟩⟩⟩⟩⟩
theorem iFok_9 : ∀ e ∈ iF 9, iFok 9 e := List.forall_mem_cons.mpr ⟨⟨by decide, by decide, List.mem_of_getElem? (i := 951) (by decide +kernel)⟩, List.forall_mem_cons.mpr ⟨⟨by decide, by decide, List.mem_of_getElem? (i := 952) (by decide +kernel)⟩, List.forall_mem_cons.mpr ⟨⟨by decide, by decide, List.mem_of_getElem? (i := 953) (by decide +kernel)⟩, List.forall_mem_cons.mpr ⟨⟨by decide, by decide, List.mem_of_getElem? (i := 954) (by decide +kernel)⟩, List.forall_mem_cons.mpr ⟨⟨by decide, by decide, List.mem_of_getElem? (i := 957) (by decide +kernel)⟩, List.forall_mem_cons.mpr ⟨⟨by decide, by decide, List.mem_of_getElem? (i := 958) (by decide +kernel)⟩, List.forall_mem_cons.mpr ⟨⟨by decide, by decide, List.mem_of_getElem? (i := 959) (by decide +kernel)⟩, List.forall_mem_cons.mpr ⟨⟨by decide, by decide, List.mem_of_getElem? (i := 961) (by decide +kernel)⟩, List.forall_mem_cons.mpr ⟨⟨by decide, by decide, List.mem_of_getElem? (i := 962) (by decide +kernel)⟩, List.forall_mem_cons.mpr ⟨⟨by decide, by decide, List.mem_of_getElem? (i := 963) (by decide +kernel)⟩, List.forall_mem_cons.mpr ⟨⟨by decide, by decide, List.mem_of_getElem? (i := 967) (by decide +kernel)⟩, List.forall_mem_cons.mpr ⟨⟨by decide, by decide, List.mem_of_getElem? (i := 969) (by decide +kernel)⟩, List.forall_mem_cons.mpr ⟨⟨by decide, by decide, List.mem_of_getElem? (i := 970) (by decide +kernel)⟩, List.forall_mem_cons.mpr ⟨⟨by decide, by decide, List.mem_of_getElem? (i := 971) (by decide +kernel)⟩, List.forall_mem_cons.mpr ⟨⟨by decide, by decide, List.mem_of_getElem? (i := 972) (by decide +kernel)⟩, List.forall_mem_cons.mpr ⟨⟨by decide, by decide, List.mem_of_getElem? (i := 973) (by decide +kernel)⟩, List.forall_mem_cons.mpr ⟨⟨by decide, by decide, List.mem_of_getElem? (i := 974) (by decide +kernel)⟩, List.forall_mem_cons.mpr ⟨⟨by decide, by decide, List.mem_of_getElem? (i := 976) (by decide +kernel)⟩, List.forall_mem_cons.mpr ⟨⟨by decide, by decide, List.mem_of_getElem? (i := 978) (by decide +kernel)⟩, List.forall_mem_cons.mpr ⟨⟨by decide, by decide, List.mem_of_getElem? (i := 979) (by decide +kernel)⟩, List.forall_mem_cons.mpr ⟨⟨by decide, by decide, List.mem_of_getElem? (i := 982) (by decide +kernel)⟩, List.forall_mem_cons.mpr ⟨⟨by decide, by decide, List.mem_of_getElem? (i := 983) (by decide +kernel)⟩, List.forall_mem_cons.mpr ⟨⟨by decide, by decide, List.mem_of_getElem? (i := 984) (by decide +kernel)⟩, List.forall_mem_cons.mpr ⟨⟨by decide, by decide, List.mem_of_getElem? (i := 985) (by decide +kernel)⟩, List.forall_mem_cons.mpr ⟨⟨by decide, by decide, List.mem_of_getElem? (i := 987) (by decide +kernel)⟩, List.forall_mem_cons.mpr ⟨⟨by decide, by decide, List.mem_of_getElem? (i := 988) (by decide +kernel)⟩, List.forall_mem_cons.mpr ⟨⟨by decide, by decide, List.mem_of_getElem? (i := 989) (by decide +kernel)⟩, List.forall_mem_cons.mpr ⟨⟨by decide, by decide, List.mem_of_getElem? (i := 960) (by decide +kernel)⟩, List.forall_mem_cons.mpr ⟨⟨by decide, by decide, List.mem_of_getElem? (i := 964) (by decide +kernel)⟩, List.forall_mem_cons.mpr ⟨⟨by decide, by decide, List.mem_of_getElem? (i := 950) (by decide +kernel)⟩, List.forall_mem_cons.mpr ⟨⟨by decide, by decide, List.mem_of_getElem? (i := 955) (by decide +kernel)⟩, List.forall_mem_cons.mpr ⟨⟨by decide, by decide, List.mem_of_getElem? (i := 968) (by decide +kernel)⟩, List.forall_mem_cons.mpr ⟨⟨by decide, by decide, List.mem_of_getElem? (i := 966) (by decide +kernel)⟩, List.forall_mem_cons.mpr ⟨⟨by decide, by decide, List.mem_of_getElem? (i := 965) (by decide +kernel)⟩, List.forall_mem_cons.mpr ⟨⟨by decide, by decide, List.mem_of_getElem? (i := 975) (by decide +kernel)⟩, List.forall_mem_cons.mpr ⟨⟨by decide, by decide, List.mem_of_getElem? (i := 956) (by decide +kernel)⟩, List.forall_mem_cons.mpr ⟨⟨by decide, by decide, List.mem_of_getElem? (i := 977) (by decide +kernel)⟩, List.forall_mem_cons.mpr ⟨⟨by decide, by decide, List.mem_of_getElem? (i := 980) (by decide +kernel)⟩, List.forall_mem_cons.mpr ⟨⟨by decide, by decide, List.mem_of_getElem? (i := 981) (by decide +kernel)⟩, List.forall_mem_cons.mpr ⟨⟨by decide, by decide, List.mem_of_getElem? (i := 986) (by decide +kernel)⟩, List.forall_mem_cons.mpr ⟨⟨by decide, by decide, List.mem_of_getElem? (i := 990) (by decide +kernel)⟩, fun _ h => absurd h List.not_mem_nil⟩⟩⟩⟩⟩⟩⟩⟩⟩⟩⟩⟩⟩⟩⟩⟩⟩⟩⟩⟩⟩⟩⟩⟩⟩⟩⟩⟩⟩⟩⟩⟩⟩⟩⟩⟩⟩⟩⟩⟩⟩
theorem iFok_10 : ∀ e ∈ iF 10, iFok 10 e := fun _ h => absurd h List.not_mem_nil
def iC (o : Nat) : List (Nat × Nat) := match o with
  | 0 => [(10, 0), (33, 7)]
  | 1 => [(9, 2)]
  | 2 => [(10, 2)]
  | 4 => [(9, 7)]
  | 6 => [(9, 7), (17, 3)]
  | 8 => [(9, 5), (22, 1), (29, 6), (97, 3), (104, 4), (126, 7)]
  | 10 => [(7, 8), (10, 9)]
  | _ => []
def iCok (o : Nat) (e : Nat × Nat) : Prop := e.2 < 10 ∧ Cond.classLink (iOwn o) e.1 (iOwn e.2) ∈ lw_tbl
theorem iCok_0 : ∀ e ∈ iC 0, iCok 0 e := List.forall_mem_cons.mpr ⟨⟨by decide, List.mem_of_getElem? (i := 490) (by decide +kernel)⟩, List.forall_mem_cons.mpr ⟨⟨by decide, List.mem_of_getElem? (i := 496) (by decide +kernel)⟩, fun _ h => absurd h List.not_mem_nil⟩⟩
theorem iCok_1 : ∀ e ∈ iC 1, iCok 1 e := List.forall_mem_cons.mpr ⟨⟨by decide, List.mem_of_getElem? (i := 108) (by decide +kernel)⟩, fun _ h => absurd h List.not_mem_nil⟩
theorem iCok_2 : ∀ e ∈ iC 2, iCok 2 e := List.forall_mem_cons.mpr ⟨⟨by decide, List.mem_of_getElem? (i := 532) (by decide +kernel)⟩, fun _ h => absurd h List.not_mem_nil⟩
theorem iCok_4 : ∀ e ∈ iC 4, iCok 4 e := List.forall_mem_cons.mpr ⟨⟨by decide, List.mem_of_getElem? (i := 291) (by decide +kernel)⟩, fun _ h => absurd h List.not_mem_nil⟩
theorem iCok_6 : ∀ e ∈ iC 6, iCok 6 e := List.forall_mem_cons.mpr ⟨⟨by decide, List.mem_of_getElem? (i := 131) (by decide +kernel)⟩, List.forall_mem_cons.mpr ⟨⟨by decide, List.mem_of_getElem? (i := 133) (by decide +kernel)⟩, fun _ h => absurd h List.not_mem_nil⟩⟩
theorem iCok_8 : ∀ e ∈ iC 8, iCok 8 e := List.forall_mem_cons.mpr ⟨⟨by decide, List.mem_of_getElem? (i := 100) (by decide +kernel)⟩, List.forall_mem_cons.mpr ⟨⟨by decide, List.mem_of_getElem? (i := 102) (by decide +kernel)⟩, List.forall_mem_cons.mpr ⟨⟨by decide, List.mem_of_getElem? (i := 125) (by decide +kernel)⟩, List.forall_mem_cons.mpr ⟨⟨by decide, List.mem_of_getElem? (i := 638) (by decide +kernel)⟩, List.forall_mem_cons.mpr ⟨⟨by decide, List.mem_of_getElem? (i := 285) (by decide +kernel)⟩, List.forall_mem_cons.mpr ⟨⟨by decide, List.mem_of_getElem? (i := 730) (by decide +kernel)⟩, fun _ h => absurd h List.not_mem_nil⟩⟩⟩⟩⟩⟩
theorem iCok_10 : ∀ e ∈ iC 10, iCok 10 e := List.forall_mem_cons.mpr ⟨⟨by decide, List.mem_of_getElem? (i := 92) (by decide +kernel)⟩, List.forall_mem_cons.mpr ⟨⟨by decide, List.mem_of_getElem? (i := 944) (by decide +kernel)⟩, fun _ h => absurd h List.not_mem_nil⟩⟩
theorem iCok_3 : ∀ e ∈ iC 3, iCok 3 e := fun _ h => absurd h List.not_mem_nil
theorem iCok_5 : ∀ e ∈ iC 5, iCok 5 e := fun _ h => absurd h List.not_mem_nil
theorem iCok_7 : ∀ e ∈ iC 7, iCok 7 e := fun _ h => absurd h List.not_mem_nil
theorem iCok_9 : ∀ e ∈ iC 9, iCok 9 e := fun _ h => absurd h List.not_mem_nil
def iMok (M : iM) : Prop := Cond.code M.1 M.2.1 M.2.2.1 M.2.2.2.1 ∈ lw_tbl ∧ Cond.initialized M.1.cls ∈ lw_tbl ∧ plainName M.1.cls = true ∧ (M.1.cls ≠ "java/lang/invoke/MethodHandle" ∧ M.1.cls ≠ "java/lang/invoke/VarHandle") ∧ M.1.cls = iOwn M.2.2.2.2.1 ∧ M.2.2.1 ≤ 40 ∧ M.2.2.2.2.1 < 10
theorem ok_mX0_bringOthers : iMok mX0_bringOthers := ⟨List.mem_of_getElem? (i := 614) (by decide +kernel), List.mem_of_getElem? (i := 89) (by decide +kernel), by decide +kernel, ⟨by decide +kernel, by decide +kernel⟩, by decide +kernel, by decide, by decide⟩
theorem ok_mX0_brought : iMok mX0_brought := ⟨List.mem_of_getElem? (i := 618) (by decide +kernel), List.mem_of_getElem? (i := 89) (by decide +kernel), by decide +kernel, ⟨by decide +kernel, by decide +kernel⟩, by decide +kernel, by decide, by decide⟩
theorem ok_mX0_change : iMok mX0_change := ⟨List.mem_of_getElem? (i := 566) (by decide +kernel), List.mem_of_getElem? (i := 89) (by decide +kernel), by decide +kernel, ⟨by decide +kernel, by decide +kernel⟩, by decide +kernel, by decide, by decide⟩
theorem ok_mX0_draftInto : iMok mX0_draftInto := ⟨List.mem_of_getElem? (i := 484) (by decide +kernel), List.mem_of_getElem? (i := 89) (by decide +kernel), by decide +kernel, ⟨by decide +kernel, by decide +kernel⟩, by decide +kernel, by decide, by decide⟩
theorem ok_mX0_init : iMok mX0_init := ⟨List.mem_of_getElem? (i := 494) (by decide +kernel), List.mem_of_getElem? (i := 89) (by decide +kernel), by decide +kernel, ⟨by decide +kernel, by decide +kernel⟩, by decide +kernel, by decide, by decide⟩
theorem ok_mX0_markStaying : iMok mX0_markStaying := ⟨List.mem_of_getElem? (i := 598) (by decide +kernel), List.mem_of_getElem? (i := 89) (by decide +kernel), by decide +kernel, ⟨by decide +kernel, by decide +kernel⟩, by decide +kernel, by decide, by decide⟩
theorem ok_mX0_measureRisingRows : iMok mX0_measureRisingRows := ⟨List.mem_of_getElem? (i := 609) (by decide +kernel), List.mem_of_getElem? (i := 89) (by decide +kernel), by decide +kernel, ⟨by decide +kernel, by decide +kernel⟩, by decide +kernel, by decide, by decide⟩
theorem ok_mX0_nameOthers : iMok mX0_nameOthers := ⟨List.mem_of_getElem? (i := 526) (by decide +kernel), List.mem_of_getElem? (i := 89) (by decide +kernel), by decide +kernel, ⟨by decide +kernel, by decide +kernel⟩, by decide +kernel, by decide, by decide⟩
theorem ok_mX0_rankChildren : iMok mX0_rankChildren := ⟨List.mem_of_getElem? (i := 602) (by decide +kernel), List.mem_of_getElem? (i := 89) (by decide +kernel), by decide +kernel, ⟨by decide +kernel, by decide +kernel⟩, by decide +kernel, by decide, by decide⟩
theorem ok_mX0_takeOthers : iMok mX0_takeOthers := ⟨List.mem_of_getElem? (i := 630) (by decide +kernel), List.mem_of_getElem? (i := 89) (by decide +kernel), by decide +kernel, ⟨by decide +kernel, by decide +kernel⟩, by decide +kernel, by decide, by decide⟩
theorem ok_mX1_add : iMok mX1_add := ⟨List.mem_of_getElem? (i := 570) (by decide +kernel), List.mem_of_getElem? (i := 81) (by decide +kernel), by decide +kernel, ⟨by decide +kernel, by decide +kernel⟩, by decide +kernel, by decide, by decide⟩
theorem ok_mX1_addAll : iMok mX1_addAll := ⟨List.mem_of_getElem? (i := 801) (by decide +kernel), List.mem_of_getElem? (i := 81) (by decide +kernel), by decide +kernel, ⟨by decide +kernel, by decide +kernel⟩, by decide +kernel, by decide, by decide⟩
theorem ok_mX1_addRebased : iMok mX1_addRebased := ⟨List.mem_of_getElem? (i := 833) (by decide +kernel), List.mem_of_getElem? (i := 81) (by decide +kernel), by decide +kernel, ⟨by decide +kernel, by decide +kernel⟩, by decide +kernel, by decide, by decide⟩
theorem ok_mX1_addSqueezed : iMok mX1_addSqueezed := ⟨List.mem_of_getElem? (i := 812) (by decide +kernel), List.mem_of_getElem? (i := 81) (by decide +kernel), by decide +kernel, ⟨by decide +kernel, by decide +kernel⟩, by decide +kernel, by decide, by decide⟩
theorem ok_mX1_clear : iMok mX1_clear := ⟨List.mem_of_getElem? (i := 489) (by decide +kernel), List.mem_of_getElem? (i := 81) (by decide +kernel), by decide +kernel, ⟨by decide +kernel, by decide +kernel⟩, by decide +kernel, by decide, by decide⟩
theorem ok_mX1_countOf : iMok mX1_countOf := ⟨List.mem_of_getElem? (i := 689) (by decide +kernel), List.mem_of_getElem? (i := 81) (by decide +kernel), by decide +kernel, ⟨by decide +kernel, by decide +kernel⟩, by decide +kernel, by decide, by decide⟩
theorem ok_mX1_editAt : iMok mX1_editAt := ⟨List.mem_of_getElem? (i := 693) (by decide +kernel), List.mem_of_getElem? (i := 81) (by decide +kernel), by decide +kernel, ⟨by decide +kernel, by decide +kernel⟩, by decide +kernel, by decide, by decide⟩
theorem ok_mX1_init : iMok mX1_init := ⟨List.mem_of_getElem? (i := 106) (by decide +kernel), List.mem_of_getElem? (i := 81) (by decide +kernel), by decide +kernel, ⟨by decide +kernel, by decide +kernel⟩, by decide +kernel, by decide, by decide⟩
theorem ok_mX1_takeConflicts : iMok mX1_takeConflicts := ⟨List.mem_of_getElem? (i := 655) (by decide +kernel), List.mem_of_getElem? (i := 81) (by decide +kernel), by decide +kernel, ⟨by decide +kernel, by decide +kernel⟩, by decide +kernel, by decide, by decide⟩
theorem ok_mX1_takeEdits : iMok mX1_takeEdits := ⟨List.mem_of_getElem? (i := 647) (by decide +kernel), List.mem_of_getElem? (i := 81) (by decide +kernel), by decide +kernel, ⟨by decide +kernel, by decide +kernel⟩, by decide +kernel, by decide, by decide⟩
theorem ok_mX2_fits : iMok mX2_fits := ⟨List.mem_of_getElem? (i := 739) (by decide +kernel), List.mem_of_getElem? (i := 90) (by decide +kernel), by decide +kernel, ⟨by decide +kernel, by decide +kernel⟩, by decide +kernel, by decide, by decide⟩
theorem ok_mX2_fitsAsGive : iMok mX2_fitsAsGive := ⟨List.mem_of_getElem? (i := 751) (by decide +kernel), List.mem_of_getElem? (i := 90) (by decide +kernel), by decide +kernel, ⟨by decide +kernel, by decide +kernel⟩, by decide +kernel, by decide, by decide⟩
theorem ok_mX2_fitsAsMove : iMok mX2_fitsAsMove := ⟨List.mem_of_getElem? (i := 755) (by decide +kernel), List.mem_of_getElem? (i := 90) (by decide +kernel), by decide +kernel, ⟨by decide +kernel, by decide +kernel⟩, by decide +kernel, by decide, by decide⟩
theorem ok_mX2_fitsAsTake : iMok mX2_fitsAsTake := ⟨List.mem_of_getElem? (i := 744) (by decide +kernel), List.mem_of_getElem? (i := 90) (by decide +kernel), by decide +kernel, ⟨by decide +kernel, by decide +kernel⟩, by decide +kernel, by decide, by decide⟩
theorem ok_mX2_fitted : iMok mX2_fitted := ⟨List.mem_of_getElem? (i := 857) (by decide +kernel), List.mem_of_getElem? (i := 90) (by decide +kernel), by decide +kernel, ⟨by decide +kernel, by decide +kernel⟩, by decide +kernel, by decide, by decide⟩
theorem ok_mX2_give : iMok mX2_give := ⟨List.mem_of_getElem? (i := 622) (by decide +kernel), List.mem_of_getElem? (i := 90) (by decide +kernel), by decide +kernel, ⟨by decide +kernel, by decide +kernel⟩, by decide +kernel, by decide, by decide⟩
theorem ok_mX2_giveOver : iMok mX2_giveOver := ⟨List.mem_of_getElem? (i := 849) (by decide +kernel), List.mem_of_getElem? (i := 90) (by decide +kernel), by decide +kernel, ⟨by decide +kernel, by decide +kernel⟩, by decide +kernel, by decide, by decide⟩
theorem ok_mX2_init : iMok mX2_init := ⟨List.mem_of_getElem? (i := 536) (by decide +kernel), List.mem_of_getElem? (i := 90) (by decide +kernel), by decide +kernel, ⟨by decide +kernel, by decide +kernel⟩, by decide +kernel, by decide, by decide⟩
theorem ok_mX2_isLike : iMok mX2_isLike := ⟨List.mem_of_getElem? (i := 825) (by decide +kernel), List.mem_of_getElem? (i := 90) (by decide +kernel), by decide +kernel, ⟨by decide +kernel, by decide +kernel⟩, by decide +kernel, by decide, by decide⟩
theorem ok_mX2_joinedWith : iMok mX2_joinedWith := ⟨List.mem_of_getElem? (i := 820) (by decide +kernel), List.mem_of_getElem? (i := 90) (by decide +kernel), by decide +kernel, ⟨by decide +kernel, by decide +kernel⟩, by decide +kernel, by decide, by decide⟩
theorem ok_mX2_lastPlaceOfMove : iMok mX2_lastPlaceOfMove := ⟨List.mem_of_getElem? (i := 760) (by decide +kernel), List.mem_of_getElem? (i := 90) (by decide +kernel), by decide +kernel, ⟨by decide +kernel, by decide +kernel⟩, by decide +kernel, by decide, by decide⟩
theorem ok_mX2_move : iMok mX2_move := ⟨List.mem_of_getElem? (i := 626) (by decide +kernel), List.mem_of_getElem? (i := 90) (by decide +kernel), by decide +kernel, ⟨by decide +kernel, by decide +kernel⟩, by decide +kernel, by decide, by decide⟩
theorem ok_mX2_moveOver : iMok mX2_moveOver := ⟨List.mem_of_getElem? (i := 853) (by decide +kernel), List.mem_of_getElem? (i := 90) (by decide +kernel), by decide +kernel, ⟨by decide +kernel, by decide +kernel⟩, by decide +kernel, by decide, by decide⟩
theorem ok_mX2_name : iMok mX2_name := ⟨List.mem_of_getElem? (i := 531) (by decide +kernel), List.mem_of_getElem? (i := 90) (by decide +kernel), by decide +kernel, ⟨by decide +kernel, by decide +kernel⟩, by decide +kernel, by decide, by decide⟩
theorem ok_mX2_nameOver : iMok mX2_nameOver := ⟨List.mem_of_getElem? (i := 841) (by decide +kernel), List.mem_of_getElem? (i := 90) (by decide +kernel), by decide +kernel, ⟨by decide +kernel, by decide +kernel⟩, by decide +kernel, by decide, by decide⟩
theorem ok_mX2_namesAsWell : iMok mX2_namesAsWell := ⟨List.mem_of_getElem? (i := 816) (by decide +kernel), List.mem_of_getElem? (i := 90) (by decide +kernel), by decide +kernel, ⟨by decide +kernel, by decide +kernel⟩, by decide +kernel, by decide, by decide⟩
theorem ok_mX2_over : iMok mX2_over := ⟨List.mem_of_getElem? (i := 837) (by decide +kernel), List.mem_of_getElem? (i := 90) (by decide +kernel), by decide +kernel, ⟨by decide +kernel, by decide +kernel⟩, by decide +kernel, by decide, by decide⟩
theorem ok_mX2_perform : iMok mX2_perform := ⟨List.mem_of_getElem? (i := 574) (by decide +kernel), List.mem_of_getElem? (i := 90) (by decide +kernel), by decide +kernel, ⟨by decide +kernel, by decide +kernel⟩, by decide +kernel, by decide, by decide⟩
theorem ok_mX2_take : iMok mX2_take := ⟨List.mem_of_getElem? (i := 633) (by decide +kernel), List.mem_of_getElem? (i := 90) (by decide +kernel), by decide +kernel, ⟨by decide +kernel, by decide +kernel⟩, by decide +kernel, by decide, by decide⟩
theorem ok_mX2_takeOver : iMok mX2_takeOver := ⟨List.mem_of_getElem? (i := 845) (by decide +kernel), List.mem_of_getElem? (i := 90) (by decide +kernel), by decide +kernel, ⟨by decide +kernel, by decide +kernel⟩, by decide +kernel, by decide, by decide⟩
theorem ok_mX2_told : iMok mX2_told := ⟨List.mem_of_getElem? (i := 717) (by decide +kernel), List.mem_of_getElem? (i := 90) (by decide +kernel), by decide +kernel, ⟨by decide +kernel, by decide +kernel⟩, by decide +kernel, by decide, by decide⟩
theorem ok_mX2_turned : iMok mX2_turned := ⟨List.mem_of_getElem? (i := 788) (by decide +kernel), List.mem_of_getElem? (i := 90) (by decide +kernel), by decide +kernel, ⟨by decide +kernel, by decide +kernel⟩, by decide +kernel, by decide, by decide⟩
theorem ok_mX3_changeUntilMisfit : iMok mX3_changeUntilMisfit := ⟨List.mem_of_getElem? (i := 735) (by decide +kernel), List.mem_of_getElem? (i := 91) (by decide +kernel), by decide +kernel, ⟨by decide +kernel, by decide +kernel⟩, by decide +kernel, by decide, by decide⟩
theorem ok_mX3_conflictAt : iMok mX3_conflictAt := ⟨List.mem_of_getElem? (i := 779) (by decide +kernel), List.mem_of_getElem? (i := 91) (by decide +kernel), by decide +kernel, ⟨by decide +kernel, by decide +kernel⟩, by decide +kernel, by decide, by decide⟩
theorem ok_mX3_conflictCount : iMok mX3_conflictCount := ⟨List.mem_of_getElem? (i := 280) (by decide +kernel), List.mem_of_getElem? (i := 91) (by decide +kernel), by decide +kernel, ⟨by decide +kernel, by decide +kernel⟩, by decide +kernel, by decide, by decide⟩
theorem ok_mX3_countOf : iMok mX3_countOf := ⟨List.mem_of_getElem? (i := 705) (by decide +kernel), List.mem_of_getElem? (i := 91) (by decide +kernel), by decide +kernel, ⟨by decide +kernel, by decide +kernel⟩, by decide +kernel, by decide, by decide⟩
theorem ok_mX3_editAt : iMok mX3_editAt := ⟨List.mem_of_getElem? (i := 713) (by decide +kernel), List.mem_of_getElem? (i := 91) (by decide +kernel), by decide +kernel, ⟨by decide +kernel, by decide +kernel⟩, by decide +kernel, by decide, by decide⟩
theorem ok_mX3_init : iMok mX3_init := ⟨List.mem_of_getElem? (i := 642) (by decide +kernel), List.mem_of_getElem? (i := 91) (by decide +kernel), by decide +kernel, ⟨by decide +kernel, by decide +kernel⟩, by decide +kernel, by decide, by decide⟩
theorem ok_mX3_isOf : iMok mX3_isOf := ⟨List.mem_of_getElem? (i := 272) (by decide +kernel), List.mem_of_getElem? (i := 91) (by decide +kernel), by decide +kernel, ⟨by decide +kernel, by decide +kernel⟩, by decide +kernel, by decide, by decide⟩
theorem ok_mX3_keyBits : iMok mX3_keyBits := ⟨List.mem_of_getElem? (i := 725) (by decide +kernel), List.mem_of_getElem? (i := 91) (by decide +kernel), by decide +kernel, ⟨by decide +kernel, by decide +kernel⟩, by decide +kernel, by decide, by decide⟩
theorem ok_mX3_saysAs : iMok mX3_saysAs := ⟨List.mem_of_getElem? (i := 276) (by decide +kernel), List.mem_of_getElem? (i := 91) (by decide +kernel), by decide +kernel, ⟨by decide +kernel, by decide +kernel⟩, by decide +kernel, by decide, by decide⟩
theorem ok_mX3_size : iMok mX3_size := ⟨List.mem_of_getElem? (i := 701) (by decide +kernel), List.mem_of_getElem? (i := 91) (by decide +kernel), by decide +kernel, ⟨by decide +kernel, by decide +kernel⟩, by decide +kernel, by decide, by decide⟩
theorem ok_mX4_init : iMok mX4_init := ⟨List.mem_of_getElem? (i := 289) (by decide +kernel), List.mem_of_getElem? (i := 86) (by decide +kernel), by decide +kernel, ⟨by decide +kernel, by decide +kernel⟩, by decide +kernel, by decide, by decide⟩
theorem ok_mX4_isDigit : iMok mX4_isDigit := ⟨List.mem_of_getElem? (i := 352) (by decide +kernel), List.mem_of_getElem? (i := 86) (by decide +kernel), by decide +kernel, ⟨by decide +kernel, by decide +kernel⟩, by decide +kernel, by decide, by decide⟩
theorem ok_mX4_read : iMok mX4_read := ⟨List.mem_of_getElem? (i := 332) (by decide +kernel), List.mem_of_getElem? (i := 86) (by decide +kernel), by decide +kernel, ⟨by decide +kernel, by decide +kernel⟩, by decide +kernel, by decide, by decide⟩
theorem ok_mX4_readNode : iMok mX4_readNode := ⟨List.mem_of_getElem? (i := 340) (by decide +kernel), List.mem_of_getElem? (i := 86) (by decide +kernel), by decide +kernel, ⟨by decide +kernel, by decide +kernel⟩, by decide +kernel, by decide, by decide⟩
theorem ok_mX4_readSign : iMok mX4_readSign := ⟨List.mem_of_getElem? (i := 365) (by decide +kernel), List.mem_of_getElem? (i := 86) (by decide +kernel), by decide +kernel, ⟨by decide +kernel, by decide +kernel⟩, by decide +kernel, by decide, by decide⟩
theorem ok_mX5_cutToSort : iMok mX5_cutToSort := ⟨List.mem_of_getElem? (i := 229) (by decide +kernel), List.mem_of_getElem? (i := 84) (by decide +kernel), by decide +kernel, ⟨by decide +kernel, by decide +kernel⟩, by decide +kernel, by decide, by decide⟩
theorem ok_mX5_has : iMok mX5_has := ⟨List.mem_of_getElem? (i := 220) (by decide +kernel), List.mem_of_getElem? (i := 84) (by decide +kernel), by decide +kernel, ⟨by decide +kernel, by decide +kernel⟩, by decide +kernel, by decide, by decide⟩
theorem ok_mX5_hasRun : iMok mX5_hasRun := ⟨List.mem_of_getElem? (i := 237) (by decide +kernel), List.mem_of_getElem? (i := 84) (by decide +kernel), by decide +kernel, ⟨by decide +kernel, by decide +kernel⟩, by decide +kernel, by decide, by decide⟩
theorem ok_mX5_init : iMok mX5_init := ⟨List.mem_of_getElem? (i := 193) (by decide +kernel), List.mem_of_getElem? (i := 84) (by decide +kernel), by decide +kernel, ⟨by decide +kernel, by decide +kernel⟩, by decide +kernel, by decide, by decide⟩
theorem ok_mX5_intAt : iMok mX5_intAt := ⟨List.mem_of_getElem? (i := 344) (by decide +kernel), List.mem_of_getElem? (i := 84) (by decide +kernel), by decide +kernel, ⟨by decide +kernel, by decide +kernel⟩, by decide +kernel, by decide, by decide⟩
theorem ok_mX5_keep : iMok mX5_keep := ⟨List.mem_of_getElem? (i := 224) (by decide +kernel), List.mem_of_getElem? (i := 84) (by decide +kernel), by decide +kernel, ⟨by decide +kernel, by decide +kernel⟩, by decide +kernel, by decide, by decide⟩
theorem ok_mX5_length : iMok mX5_length := ⟨List.mem_of_getElem? (i := 336) (by decide +kernel), List.mem_of_getElem? (i := 84) (by decide +kernel), by decide +kernel, ⟨by decide +kernel, by decide +kernel⟩, by decide +kernel, by decide, by decide⟩
theorem ok_mX5_longAt : iMok mX5_longAt := ⟨List.mem_of_getElem? (i := 248) (by decide +kernel), List.mem_of_getElem? (i := 84) (by decide +kernel), by decide +kernel, ⟨by decide +kernel, by decide +kernel⟩, by decide +kernel, by decide, by decide⟩
theorem ok_mX6_addPatch : iMok mX6_addPatch := ⟨List.mem_of_getElem? (i := 677) (by decide +kernel), List.mem_of_getElem? (i := 82) (by decide +kernel), by decide +kernel, ⟨by decide +kernel, by decide +kernel⟩, by decide +kernel, by decide, by decide⟩
theorem ok_mX6_addTree : iMok mX6_addTree := ⟨List.mem_of_getElem? (i := 369) (by decide +kernel), List.mem_of_getElem? (i := 82) (by decide +kernel), by decide +kernel, ⟨by decide +kernel, by decide +kernel⟩, by decide +kernel, by decide, by decide⟩
theorem ok_mX6_draw : iMok mX6_draw := ⟨List.mem_of_getElem? (i := 905) (by decide +kernel), List.mem_of_getElem? (i := 82) (by decide +kernel), by decide +kernel, ⟨by decide +kernel, by decide +kernel⟩, by decide +kernel, by decide, by decide⟩
theorem ok_mX6_dropTree : iMok mX6_dropTree := ⟨List.mem_of_getElem? (i := 477) (by decide +kernel), List.mem_of_getElem? (i := 82) (by decide +kernel), by decide +kernel, ⟨by decide +kernel, by decide +kernel⟩, by decide +kernel, by decide, by decide⟩
theorem ok_mX6_editCount : iMok mX6_editCount := ⟨List.mem_of_getElem? (i := 937) (by decide +kernel), List.mem_of_getElem? (i := 82) (by decide +kernel), by decide +kernel, ⟨by decide +kernel, by decide +kernel⟩, by decide +kernel, by decide, by decide⟩
theorem ok_mX6_forgetPatch : iMok mX6_forgetPatch := ⟨List.mem_of_getElem? (i := 879) (by decide +kernel), List.mem_of_getElem? (i := 82) (by decide +kernel), by decide +kernel, ⟨by decide +kernel, by decide +kernel⟩, by decide +kernel, by decide, by decide⟩
theorem ok_mX6_init : iMok mX6_init := ⟨List.mem_of_getElem? (i := 129) (by decide +kernel), List.mem_of_getElem? (i := 82) (by decide +kernel), by decide +kernel, ⟨by decide +kernel, by decide +kernel⟩, by decide +kernel, by decide, by decide⟩
theorem ok_mX6_init_ : iMok mX6_init_ := ⟨List.mem_of_getElem? (i := 920) (by decide +kernel), List.mem_of_getElem? (i := 82) (by decide +kernel), by decide +kernel, ⟨by decide +kernel, by decide +kernel⟩, by decide +kernel, by decide, by decide⟩
theorem ok_mX6_nodeCount : iMok mX6_nodeCount := ⟨List.mem_of_getElem? (i := 932) (by decide +kernel), List.mem_of_getElem? (i := 82) (by decide +kernel), by decide +kernel, ⟨by decide +kernel, by decide +kernel⟩, by decide +kernel, by decide, by decide⟩
theorem ok_mX6_patchAt : iMok mX6_patchAt := ⟨List.mem_of_getElem? (i := 260) (by decide +kernel), List.mem_of_getElem? (i := 82) (by decide +kernel), by decide +kernel, ⟨by decide +kernel, by decide +kernel⟩, by decide +kernel, by decide, by decide⟩
theorem ok_mX6_replaceTree : iMok mX6_replaceTree := ⟨List.mem_of_getElem? (i := 766) (by decide +kernel), List.mem_of_getElem? (i := 82) (by decide +kernel), by decide +kernel, ⟨by decide +kernel, by decide +kernel⟩, by decide +kernel, by decide, by decide⟩
theorem ok_mX6_treeAt : iMok mX6_treeAt := ⟨List.mem_of_getElem? (i := 385) (by decide +kernel), List.mem_of_getElem? (i := 82) (by decide +kernel), by decide +kernel, ⟨by decide +kernel, by decide +kernel⟩, by decide +kernel, by decide, by decide⟩
theorem ok_mX7_carry : iMok mX7_carry := ⟨List.mem_of_getElem? (i := 590) (by decide +kernel), List.mem_of_getElem? (i := 87) (by decide +kernel), by decide +kernel, ⟨by decide +kernel, by decide +kernel⟩, by decide +kernel, by decide, by decide⟩
theorem ok_mX7_childCount : iMok mX7_childCount := ⟨List.mem_of_getElem? (i := 419) (by decide +kernel), List.mem_of_getElem? (i := 87) (by decide +kernel), by decide +kernel, ⟨by decide +kernel, by decide +kernel⟩, by decide +kernel, by decide, by decide⟩
theorem ok_mX7_depthAt : iMok mX7_depthAt := ⟨List.mem_of_getElem? (i := 423) (by decide +kernel), List.mem_of_getElem? (i := 87) (by decide +kernel), by decide +kernel, ⟨by decide +kernel, by decide +kernel⟩, by decide +kernel, by decide, by decide⟩
theorem ok_mX7_endOf : iMok mX7_endOf := ⟨List.mem_of_getElem? (i := 427) (by decide +kernel), List.mem_of_getElem? (i := 87) (by decide +kernel), by decide +kernel, ⟨by decide +kernel, by decide +kernel⟩, by decide +kernel, by decide, by decide⟩
theorem ok_mX7_firstUnlike : iMok mX7_firstUnlike := ⟨List.mem_of_getElem? (i := 466) (by decide +kernel), List.mem_of_getElem? (i := 87) (by decide +kernel), by decide +kernel, ⟨by decide +kernel, by decide +kernel⟩, by decide +kernel, by decide, by decide⟩
theorem ok_mX7_firstWrong : iMok mX7_firstWrong := ⟨List.mem_of_getElem? (i := 892) (by decide +kernel), List.mem_of_getElem? (i := 87) (by decide +kernel), by decide +kernel, ⟨by decide +kernel, by decide +kernel⟩, by decide +kernel, by decide, by decide⟩
theorem ok_mX7_has : iMok mX7_has := ⟨List.mem_of_getElem? (i := 393) (by decide +kernel), List.mem_of_getElem? (i := 87) (by decide +kernel), by decide +kernel, ⟨by decide +kernel, by decide +kernel⟩, by decide +kernel, by decide, by decide⟩
theorem ok_mX7_init : iMok mX7_init := ⟨List.mem_of_getElem? (i := 295) (by decide +kernel), List.mem_of_getElem? (i := 87) (by decide +kernel), by decide +kernel, ⟨by decide +kernel, by decide +kernel⟩, by decide +kernel, by decide, by decide⟩
theorem ok_mX7_init_ : iMok mX7_init_ := ⟨List.mem_of_getElem? (i := 499) (by decide +kernel), List.mem_of_getElem? (i := 87) (by decide +kernel), by decide +kernel, ⟨by decide +kernel, by decide +kernel⟩, by decide +kernel, by decide, by decide⟩
theorem ok_mX7_insert : iMok mX7_insert := ⟨List.mem_of_getElem? (i := 360) (by decide +kernel), List.mem_of_getElem? (i := 87) (by decide +kernel), by decide +kernel, ⟨by decide +kernel, by decide +kernel⟩, by decide +kernel, by decide, by decide⟩
theorem ok_mX7_isWithin : iMok mX7_isWithin := ⟨List.mem_of_getElem? (i := 458) (by decide +kernel), List.mem_of_getElem? (i := 87) (by decide +kernel), by decide +kernel, ⟨by decide +kernel, by decide +kernel⟩, by decide +kernel, by decide, by decide⟩
theorem ok_mX7_keyAt : iMok mX7_keyAt := ⟨List.mem_of_getElem? (i := 397) (by decide +kernel), List.mem_of_getElem? (i := 87) (by decide +kernel), by decide +kernel, ⟨by decide +kernel, by decide +kernel⟩, by decide +kernel, by decide, by decide⟩
theorem ok_mX7_labelAt : iMok mX7_labelAt := ⟨List.mem_of_getElem? (i := 402) (by decide +kernel), List.mem_of_getElem? (i := 87) (by decide +kernel), by decide +kernel, ⟨by decide +kernel, by decide +kernel⟩, by decide +kernel, by decide, by decide⟩
theorem ok_mX7_lowestOver : iMok mX7_lowestOver := ⟨List.mem_of_getElem? (i := 454) (by decide +kernel), List.mem_of_getElem? (i := 87) (by decide +kernel), by decide +kernel, ⟨by decide +kernel, by decide +kernel⟩, by decide +kernel, by decide, by decide⟩
theorem ok_mX7_parentAt : iMok mX7_parentAt := ⟨List.mem_of_getElem? (i := 410) (by decide +kernel), List.mem_of_getElem? (i := 87) (by decide +kernel), by decide +kernel, ⟨by decide +kernel, by decide +kernel⟩, by decide +kernel, by decide, by decide⟩
theorem ok_mX7_parentKeyAt : iMok mX7_parentKeyAt := ⟨List.mem_of_getElem? (i := 406) (by decide +kernel), List.mem_of_getElem? (i := 87) (by decide +kernel), by decide +kernel, ⟨by decide +kernel, by decide +kernel⟩, by decide +kernel, by decide, by decide⟩
theorem ok_mX7_placeAt : iMok mX7_placeAt := ⟨List.mem_of_getElem? (i := 415) (by decide +kernel), List.mem_of_getElem? (i := 87) (by decide +kernel), by decide +kernel, ⟨by decide +kernel, by decide +kernel⟩, by decide +kernel, by decide, by decide⟩
theorem ok_mX7_remove : iMok mX7_remove := ⟨List.mem_of_getElem? (i := 583) (by decide +kernel), List.mem_of_getElem? (i := 87) (by decide +kernel), by decide +kernel, ⟨by decide +kernel, by decide +kernel⟩, by decide +kernel, by decide, by decide⟩
theorem ok_mX7_rename : iMok mX7_rename := ⟨List.mem_of_getElem? (i := 579) (by decide +kernel), List.mem_of_getElem? (i := 87) (by decide +kernel), by decide +kernel, ⟨by decide +kernel, by decide +kernel⟩, by decide +kernel, by decide, by decide⟩
theorem ok_mX7_spot : iMok mX7_spot := ⟨List.mem_of_getElem? (i := 444) (by decide +kernel), List.mem_of_getElem? (i := 87) (by decide +kernel), by decide +kernel, ⟨by decide +kernel, by decide +kernel⟩, by decide +kernel, by decide, by decide⟩
theorem ok_mX7_turnRound : iMok mX7_turnRound := ⟨List.mem_of_getElem? (i := 594) (by decide +kernel), List.mem_of_getElem? (i := 87) (by decide +kernel), by decide +kernel, ⟨by decide +kernel, by decide +kernel⟩, by decide +kernel, by decide, by decide⟩
theorem ok_mX7_whereOf : iMok mX7_whereOf := ⟨List.mem_of_getElem? (i := 356) (by decide +kernel), List.mem_of_getElem? (i := 87) (by decide +kernel), by decide +kernel, ⟨by decide +kernel, by decide +kernel⟩, by decide +kernel, by decide, by decide⟩
theorem ok_mX8_above : iMok mX8_above := ⟨List.mem_of_getElem? (i := 450) (by decide +kernel), List.mem_of_getElem? (i := 80) (by decide +kernel), by decide +kernel, ⟨by decide +kernel, by decide +kernel⟩, by decide +kernel, by decide, by decide⟩
theorem ok_mX8_apply : iMok mX8_apply := ⟨List.mem_of_getElem? (i := 729) (by decide +kernel), List.mem_of_getElem? (i := 80) (by decide +kernel), by decide +kernel, ⟨by decide +kernel, by decide +kernel⟩, by decide +kernel, by decide, by decide⟩
theorem ok_mX8_behind : iMok mX8_behind := ⟨List.mem_of_getElem? (i := 797) (by decide +kernel), List.mem_of_getElem? (i := 80) (by decide +kernel), by decide +kernel, ⟨by decide +kernel, by decide +kernel⟩, by decide +kernel, by decide, by decide⟩
theorem ok_mX8_child : iMok mX8_child := ⟨List.mem_of_getElem? (i := 440) (by decide +kernel), List.mem_of_getElem? (i := 80) (by decide +kernel), by decide +kernel, ⟨by decide +kernel, by decide +kernel⟩, by decide +kernel, by decide, by decide⟩
theorem ok_mX8_conflict : iMok mX8_conflict := ⟨List.mem_of_getElem? (i := 774) (by decide +kernel), List.mem_of_getElem? (i := 80) (by decide +kernel), by decide +kernel, ⟨by decide +kernel, by decide +kernel⟩, by decide +kernel, by decide, by decide⟩
theorem ok_mX8_copy : iMok mX8_copy := ⟨List.mem_of_getElem? (i := 233) (by decide +kernel), List.mem_of_getElem? (i := 80) (by decide +kernel), by decide +kernel, ⟨by decide +kernel, by decide +kernel⟩, by decide +kernel, by decide, by decide⟩
theorem ok_mX8_days : iMok mX8_days := ⟨List.mem_of_getElem? (i := 897) (by decide +kernel), List.mem_of_getElem? (i := 80) (by decide +kernel), by decide +kernel, ⟨by decide +kernel, by decide +kernel⟩, by decide +kernel, by decide, by decide⟩
theorem ok_mX8_difference : iMok mX8_difference := ⟨List.mem_of_getElem? (i := 481) (by decide +kernel), List.mem_of_getElem? (i := 80) (by decide +kernel), by decide +kernel, ⟨by decide +kernel, by decide +kernel⟩, by decide +kernel, by decide, by decide⟩
theorem ok_mX8_drop : iMok mX8_drop := ⟨List.mem_of_getElem? (i := 473) (by decide +kernel), List.mem_of_getElem? (i := 80) (by decide +kernel), by decide +kernel, ⟨by decide +kernel, by decide +kernel⟩, by decide +kernel, by decide, by decide⟩
theorem ok_mX8_edit : iMok mX8_edit := ⟨List.mem_of_getElem? (i := 709) (by decide +kernel), List.mem_of_getElem? (i := 80) (by decide +kernel), by decide +kernel, ⟨by decide +kernel, by decide +kernel⟩, by decide +kernel, by decide, by decide⟩
theorem ok_mX8_element : iMok mX8_element := ⟨List.mem_of_getElem? (i := 244) (by decide +kernel), List.mem_of_getElem? (i := 80) (by decide +kernel), by decide +kernel, ⟨by decide +kernel, by decide +kernel⟩, by decide +kernel, by decide, by decide⟩
theorem ok_mX8_emptyVainShelves : iMok mX8_emptyVainShelves := ⟨List.mem_of_getElem? (i := 883) (by decide +kernel), List.mem_of_getElem? (i := 80) (by decide +kernel), by decide +kernel, ⟨by decide +kernel, by decide +kernel⟩, by decide +kernel, by decide, by decide⟩
theorem ok_mX8_far : iMok mX8_far := ⟨List.mem_of_getElem? (i := 681) (by decide +kernel), List.mem_of_getElem? (i := 80) (by decide +kernel), by decide +kernel, ⟨by decide +kernel, by decide +kernel⟩, by decide +kernel, by decide, by decide⟩
theorem ok_mX8_fault : iMok mX8_fault := ⟨List.mem_of_getElem? (i := 373) (by decide +kernel), List.mem_of_getElem? (i := 80) (by decide +kernel), by decide +kernel, ⟨by decide +kernel, by decide +kernel⟩, by decide +kernel, by decide, by decide⟩
theorem ok_mX8_find : iMok mX8_find := ⟨List.mem_of_getElem? (i := 431) (by decide +kernel), List.mem_of_getElem? (i := 80) (by decide +kernel), by decide +kernel, ⟨by decide +kernel, by decide +kernel⟩, by decide +kernel, by decide, by decide⟩
theorem ok_mX8_forget : iMok mX8_forget := ⟨List.mem_of_getElem? (i := 875) (by decide +kernel), List.mem_of_getElem? (i := 80) (by decide +kernel), by decide +kernel, ⟨by decide +kernel, by decide +kernel⟩, by decide +kernel, by decide, by decide⟩
theorem ok_mX8_fullShelves : iMok mX8_fullShelves := ⟨List.mem_of_getElem? (i := 943) (by decide +kernel), List.mem_of_getElem? (i := 80) (by decide +kernel), by decide +kernel, ⟨by decide +kernel, by decide +kernel⟩, by decide +kernel, by decide, by decide⟩
theorem ok_mX8_hand : iMok mX8_hand := ⟨List.mem_of_getElem? (i := 863) (by decide +kernel), List.mem_of_getElem? (i := 80) (by decide +kernel), by decide +kernel, ⟨by decide +kernel, by decide +kernel⟩, by decide +kernel, by decide, by decide⟩
theorem ok_mX8_holds : iMok mX8_holds := ⟨List.mem_of_getElem? (i := 264) (by decide +kernel), List.mem_of_getElem? (i := 80) (by decide +kernel), by decide +kernel, ⟨by decide +kernel, by decide +kernel⟩, by decide +kernel, by decide, by decide⟩
theorem ok_mX8_image : iMok mX8_image := ⟨List.mem_of_getElem? (i := 917) (by decide +kernel), List.mem_of_getElem? (i := 80) (by decide +kernel), by decide +kernel, ⟨by decide +kernel, by decide +kernel⟩, by decide +kernel, by decide, by decide⟩
theorem ok_mX8_init : iMok mX8_init := ⟨List.mem_of_getElem? (i := 96) (by decide +kernel), List.mem_of_getElem? (i := 80) (by decide +kernel), by decide +kernel, ⟨by decide +kernel, by decide +kernel⟩, by decide +kernel, by decide, by decide⟩
theorem ok_mX8_invert : iMok mX8_invert := ⟨List.mem_of_getElem? (i := 783) (by decide +kernel), List.mem_of_getElem? (i := 80) (by decide +kernel), by decide +kernel, ⟨by decide +kernel, by decide +kernel⟩, by decide +kernel, by decide, by decide⟩
theorem ok_mX8_isLabel : iMok mX8_isLabel := ⟨List.mem_of_getElem? (i := 348) (by decide +kernel), List.mem_of_getElem? (i := 80) (by decide +kernel), by decide +kernel, ⟨by decide +kernel, by decide +kernel⟩, by decide +kernel, by decide, by decide⟩
theorem ok_mX8_isShelf : iMok mX8_isShelf := ⟨List.mem_of_getElem? (i := 185) (by decide +kernel), List.mem_of_getElem? (i := 80) (by decide +kernel), by decide +kernel, ⟨by decide +kernel, by decide +kernel⟩, by decide +kernel, by decide, by decide⟩
theorem ok_mX8_judge : iMok mX8_judge := ⟨List.mem_of_getElem? (i := 887) (by decide +kernel), List.mem_of_getElem? (i := 80) (by decide +kernel), by decide +kernel, ⟨by decide +kernel, by decide +kernel⟩, by decide +kernel, by decide, by decide⟩
theorem ok_mX8_keepDraft : iMok mX8_keepDraft := ⟨List.mem_of_getElem? (i := 637) (by decide +kernel), List.mem_of_getElem? (i := 80) (by decide +kernel), by decide +kernel, ⟨by decide +kernel, by decide +kernel⟩, by decide +kernel, by decide, by decide⟩
theorem ok_mX8_moves : iMok mX8_moves := ⟨List.mem_of_getElem? (i := 685) (by decide +kernel), List.mem_of_getElem? (i := 80) (by decide +kernel), by decide +kernel, ⟨by decide +kernel, by decide +kernel⟩, by decide +kernel, by decide, by decide⟩
theorem ok_mX8_node : iMok mX8_node := ⟨List.mem_of_getElem? (i := 389) (by decide +kernel), List.mem_of_getElem? (i := 80) (by decide +kernel), by decide +kernel, ⟨by decide +kernel, by decide +kernel⟩, by decide +kernel, by decide, by decide⟩
theorem ok_mX8_nodes : iMok mX8_nodes := ⟨List.mem_of_getElem? (i := 377) (by decide +kernel), List.mem_of_getElem? (i := 80) (by decide +kernel), by decide +kernel, ⟨by decide +kernel, by decide +kernel⟩, by decide +kernel, by decide, by decide⟩
theorem ok_mX8_passDay : iMok mX8_passDay := ⟨List.mem_of_getElem? (i := 901) (by decide +kernel), List.mem_of_getElem? (i := 80) (by decide +kernel), by decide +kernel, ⟨by decide +kernel, by decide +kernel⟩, by decide +kernel, by decide, by decide⟩
theorem ok_mX8_patchAt : iMok mX8_patchAt := ⟨List.mem_of_getElem? (i := 256) (by decide +kernel), List.mem_of_getElem? (i := 80) (by decide +kernel), by decide +kernel, ⟨by decide +kernel, by decide +kernel⟩, by decide +kernel, by decide, by decide⟩
theorem ok_mX8_patchOf : iMok mX8_patchOf := ⟨List.mem_of_getElem? (i := 697) (by decide +kernel), List.mem_of_getElem? (i := 80) (by decide +kernel), by decide +kernel, ⟨by decide +kernel, by decide +kernel⟩, by decide +kernel, by decide, by decide⟩
theorem ok_mX8_put : iMok mX8_put := ⟨List.mem_of_getElem? (i := 869) (by decide +kernel), List.mem_of_getElem? (i := 80) (by decide +kernel), by decide +kernel, ⟨by decide +kernel, by decide +kernel⟩, by decide +kernel, by decide, by decide⟩
theorem ok_mX8_rebase : iMok mX8_rebase := ⟨List.mem_of_getElem? (i := 829) (by decide +kernel), List.mem_of_getElem? (i := 80) (by decide +kernel), by decide +kernel, ⟨by decide +kernel, by decide +kernel⟩, by decide +kernel, by decide, by decide⟩
theorem ok_mX8_refuse : iMok mX8_refuse := ⟨List.mem_of_getElem? (i := 189) (by decide +kernel), List.mem_of_getElem? (i := 80) (by decide +kernel), by decide +kernel, ⟨by decide +kernel, by decide +kernel⟩, by decide +kernel, by decide, by decide⟩
theorem ok_mX8_refuseLower : iMok mX8_refuseLower := ⟨List.mem_of_getElem? (i := 435) (by decide +kernel), List.mem_of_getElem? (i := 80) (by decide +kernel), by decide +kernel, ⟨by decide +kernel, by decide +kernel⟩, by decide +kernel, by decide, by decide⟩
theorem ok_mX8_restore : iMok mX8_restore := ⟨List.mem_of_getElem? (i := 924) (by decide +kernel), List.mem_of_getElem? (i := 80) (by decide +kernel), by decide +kernel, ⟨by decide +kernel, by decide +kernel⟩, by decide +kernel, by decide, by decide⟩
theorem ok_mX8_row : iMok mX8_row := ⟨List.mem_of_getElem? (i := 182) (by decide +kernel), List.mem_of_getElem? (i := 80) (by decide +kernel), by decide +kernel, ⟨by decide +kernel, by decide +kernel⟩, by decide +kernel, by decide, by decide⟩
theorem ok_mX8_rowAt : iMok mX8_rowAt := ⟨List.mem_of_getElem? (i := 212) (by decide +kernel), List.mem_of_getElem? (i := 80) (by decide +kernel), by decide +kernel, ⟨by decide +kernel, by decide +kernel⟩, by decide +kernel, by decide, by decide⟩
theorem ok_mX8_same : iMok mX8_same := ⟨List.mem_of_getElem? (i := 462) (by decide +kernel), List.mem_of_getElem? (i := 80) (by decide +kernel), by decide +kernel, ⟨by decide +kernel, by decide +kernel⟩, by decide +kernel, by decide, by decide⟩
theorem ok_mX8_says : iMok mX8_says := ⟨List.mem_of_getElem? (i := 268) (by decide +kernel), List.mem_of_getElem? (i := 80) (by decide +kernel), by decide +kernel, ⟨by decide +kernel, by decide +kernel⟩, by decide +kernel, by decide, by decide⟩
theorem ok_mX8_seed : iMok mX8_seed := ⟨List.mem_of_getElem? (i := 913) (by decide +kernel), List.mem_of_getElem? (i := 80) (by decide +kernel), by decide +kernel, ⟨by decide +kernel, by decide +kernel⟩, by decide +kernel, by decide, by decide⟩
theorem ok_mX8_set : iMok mX8_set := ⟨List.mem_of_getElem? (i := 208) (by decide +kernel), List.mem_of_getElem? (i := 80) (by decide +kernel), by decide +kernel, ⟨by decide +kernel, by decide +kernel⟩, by decide +kernel, by decide, by decide⟩
theorem ok_mX8_show : iMok mX8_show := ⟨List.mem_of_getElem? (i := 252) (by decide +kernel), List.mem_of_getElem? (i := 80) (by decide +kernel), by decide +kernel, ⟨by decide +kernel, by decide +kernel⟩, by decide +kernel, by decide, by decide⟩
theorem ok_mX8_squeeze : iMok mX8_squeeze := ⟨List.mem_of_getElem? (i := 808) (by decide +kernel), List.mem_of_getElem? (i := 80) (by decide +kernel), by decide +kernel, ⟨by decide +kernel, by decide +kernel⟩, by decide +kernel, by decide, by decide⟩
theorem ok_mX8_status : iMok mX8_status := ⟨List.mem_of_getElem? (i := 928) (by decide +kernel), List.mem_of_getElem? (i := 80) (by decide +kernel), by decide +kernel, ⟨by decide +kernel, by decide +kernel⟩, by decide +kernel, by decide, by decide⟩
theorem ok_mX8_sticks : iMok mX8_sticks := ⟨List.mem_of_getElem? (i := 770) (by decide +kernel), List.mem_of_getElem? (i := 80) (by decide +kernel), by decide +kernel, ⟨by decide +kernel, by decide +kernel⟩, by decide +kernel, by decide, by decide⟩
theorem ok_mX8_touched : iMok mX8_touched := ⟨List.mem_of_getElem? (i := 721) (by decide +kernel), List.mem_of_getElem? (i := 80) (by decide +kernel), by decide +kernel, ⟨by decide +kernel, by decide +kernel⟩, by decide +kernel, by decide, by decide⟩
theorem ok_mX8_tree : iMok mX8_tree := ⟨List.mem_of_getElem? (i := 284) (by decide +kernel), List.mem_of_getElem? (i := 80) (by decide +kernel), by decide +kernel, ⟨by decide +kernel, by decide +kernel⟩, by decide +kernel, by decide, by decide⟩
theorem ok_mX8_treeAt : iMok mX8_treeAt := ⟨List.mem_of_getElem? (i := 381) (by decide +kernel), List.mem_of_getElem? (i := 80) (by decide +kernel), by decide +kernel, ⟨by decide +kernel, by decide +kernel⟩, by decide +kernel, by decide, by decide⟩
theorem ok_mX8_whyNoRow : iMok mX8_whyNoRow := ⟨List.mem_of_getElem? (i := 216) (by decide +kernel), List.mem_of_getElem? (i := 80) (by decide +kernel), by decide +kernel, ⟨by decide +kernel, by decide +kernel⟩, by decide +kernel, by decide, by decide⟩
theorem ok_mX9_above : iMok mX9_above := ⟨List.mem_of_getElem? (i := 1212) (by decide +kernel), List.mem_of_getElem? (i := 83) (by decide +kernel), by decide +kernel, ⟨by decide +kernel, by decide +kernel⟩, by decide +kernel, by decide, by decide⟩
theorem ok_mX9_all : iMok mX9_all := ⟨List.mem_of_getElem? (i := 1341) (by decide +kernel), List.mem_of_getElem? (i := 83) (by decide +kernel), by decide +kernel, ⟨by decide +kernel, by decide +kernel⟩, by decide +kernel, by decide, by decide⟩
theorem ok_mX9_apply : iMok mX9_apply := ⟨List.mem_of_getElem? (i := 1317) (by decide +kernel), List.mem_of_getElem? (i := 83) (by decide +kernel), by decide +kernel, ⟨by decide +kernel, by decide +kernel⟩, by decide +kernel, by decide, by decide⟩
theorem ok_mX9_behind : iMok mX9_behind := ⟨List.mem_of_getElem? (i := 1337) (by decide +kernel), List.mem_of_getElem? (i := 83) (by decide +kernel), by decide +kernel, ⟨by decide +kernel, by decide +kernel⟩, by decide +kernel, by decide, by decide⟩
theorem ok_mX9_child : iMok mX9_child := ⟨List.mem_of_getElem? (i := 1208) (by decide +kernel), List.mem_of_getElem? (i := 83) (by decide +kernel), by decide +kernel, ⟨by decide +kernel, by decide +kernel⟩, by decide +kernel, by decide, by decide⟩
theorem ok_mX9_child_ : iMok mX9_child_ := ⟨List.mem_of_getElem? (i := 1204) (by decide +kernel), List.mem_of_getElem? (i := 83) (by decide +kernel), by decide +kernel, ⟨by decide +kernel, by decide +kernel⟩, by decide +kernel, by decide, by decide⟩
theorem ok_mX9_children : iMok mX9_children := ⟨List.mem_of_getElem? (i := 1188) (by decide +kernel), List.mem_of_getElem? (i := 83) (by decide +kernel), by decide +kernel, ⟨by decide +kernel, by decide +kernel⟩, by decide +kernel, by decide, by decide⟩
theorem ok_mX9_conflict : iMok mX9_conflict := ⟨List.mem_of_getElem? (i := 1378) (by decide +kernel), List.mem_of_getElem? (i := 83) (by decide +kernel), by decide +kernel, ⟨by decide +kernel, by decide +kernel⟩, by decide +kernel, by decide, by decide⟩
theorem ok_mX9_copy : iMok mX9_copy := ⟨List.mem_of_getElem? (i := 1100) (by decide +kernel), List.mem_of_getElem? (i := 83) (by decide +kernel), by decide +kernel, ⟨by decide +kernel, by decide +kernel⟩, by decide +kernel, by decide, by decide⟩
theorem ok_mX9_cuts : iMok mX9_cuts := ⟨List.mem_of_getElem? (i := 1260) (by decide +kernel), List.mem_of_getElem? (i := 83) (by decide +kernel), by decide +kernel, ⟨by decide +kernel, by decide +kernel⟩, by decide +kernel, by decide, by decide⟩
theorem ok_mX9_day : iMok mX9_day := ⟨List.mem_of_getElem? (i := 1402) (by decide +kernel), List.mem_of_getElem? (i := 83) (by decide +kernel), by decide +kernel, ⟨by decide +kernel, by decide +kernel⟩, by decide +kernel, by decide, by decide⟩
theorem ok_mX9_days : iMok mX9_days := ⟨List.mem_of_getElem? (i := 1398) (by decide +kernel), List.mem_of_getElem? (i := 83) (by decide +kernel), by decide +kernel, ⟨by decide +kernel, by decide +kernel⟩, by decide +kernel, by decide, by decide⟩
theorem ok_mX9_difference : iMok mX9_difference := ⟨List.mem_of_getElem? (i := 1228) (by decide +kernel), List.mem_of_getElem? (i := 83) (by decide +kernel), by decide +kernel, ⟨by decide +kernel, by decide +kernel⟩, by decide +kernel, by decide, by decide⟩
theorem ok_mX9_differs : iMok mX9_differs := ⟨List.mem_of_getElem? (i := 1240) (by decide +kernel), List.mem_of_getElem? (i := 83) (by decide +kernel), by decide +kernel, ⟨by decide +kernel, by decide +kernel⟩, by decide +kernel, by decide, by decide⟩
theorem ok_mX9_does : iMok mX9_does := ⟨List.mem_of_getElem? (i := 1256) (by decide +kernel), List.mem_of_getElem? (i := 83) (by decide +kernel), by decide +kernel, ⟨by decide +kernel, by decide +kernel⟩, by decide +kernel, by decide, by decide⟩
theorem ok_mX9_draw : iMok mX9_draw := ⟨List.mem_of_getElem? (i := 1406) (by decide +kernel), List.mem_of_getElem? (i := 83) (by decide +kernel), by decide +kernel, ⟨by decide +kernel, by decide +kernel⟩, by decide +kernel, by decide, by decide⟩
theorem ok_mX9_drop : iMok mX9_drop := ⟨List.mem_of_getElem? (i := 1224) (by decide +kernel), List.mem_of_getElem? (i := 83) (by decide +kernel), by decide +kernel, ⟨by decide +kernel, by decide +kernel⟩, by decide +kernel, by decide, by decide⟩
theorem ok_mX9_edit : iMok mX9_edit := ⟨List.mem_of_getElem? (i := 1305) (by decide +kernel), List.mem_of_getElem? (i := 83) (by decide +kernel), by decide +kernel, ⟨by decide +kernel, by decide +kernel⟩, by decide +kernel, by decide, by decide⟩
theorem ok_mX9_edit_ : iMok mX9_edit_ := ⟨List.mem_of_getElem? (i := 1309) (by decide +kernel), List.mem_of_getElem? (i := 83) (by decide +kernel), by decide +kernel, ⟨by decide +kernel, by decide +kernel⟩, by decide +kernel, by decide, by decide⟩
theorem ok_mX9_element : iMok mX9_element := ⟨List.mem_of_getElem? (i := 1104) (by decide +kernel), List.mem_of_getElem? (i := 83) (by decide +kernel), by decide +kernel, ⟨by decide +kernel, by decide +kernel⟩, by decide +kernel, by decide, by decide⟩
theorem ok_mX9_end : iMok mX9_end := ⟨List.mem_of_getElem? (i := 1192) (by decide +kernel), List.mem_of_getElem? (i := 83) (by decide +kernel), by decide +kernel, ⟨by decide +kernel, by decide +kernel⟩, by decide +kernel, by decide, by decide⟩
theorem ok_mX9_far : iMok mX9_far := ⟨List.mem_of_getElem? (i := 1293) (by decide +kernel), List.mem_of_getElem? (i := 83) (by decide +kernel), by decide +kernel, ⟨by decide +kernel, by decide +kernel⟩, by decide +kernel, by decide, by decide⟩
theorem ok_mX9_fault : iMok mX9_fault := ⟨List.mem_of_getElem? (i := 1156) (by decide +kernel), List.mem_of_getElem? (i := 83) (by decide +kernel), by decide +kernel, ⟨by decide +kernel, by decide +kernel⟩, by decide +kernel, by decide, by decide⟩
theorem ok_mX9_find : iMok mX9_find := ⟨List.mem_of_getElem? (i := 1144) (by decide +kernel), List.mem_of_getElem? (i := 83) (by decide +kernel), by decide +kernel, ⟨by decide +kernel, by decide +kernel⟩, by decide +kernel, by decide, by decide⟩
theorem ok_mX9_find_ : iMok mX9_find_ := ⟨List.mem_of_getElem? (i := 1196) (by decide +kernel), List.mem_of_getElem? (i := 83) (by decide +kernel), by decide +kernel, ⟨by decide +kernel, by decide +kernel⟩, by decide +kernel, by decide, by decide⟩
theorem ok_mX9_forget : iMok mX9_forget := ⟨List.mem_of_getElem? (i := 1390) (by decide +kernel), List.mem_of_getElem? (i := 83) (by decide +kernel), by decide +kernel, ⟨by decide +kernel, by decide +kernel⟩, by decide +kernel, by decide, by decide⟩
theorem ok_mX9_gives : iMok mX9_gives := ⟨List.mem_of_getElem? (i := 1369) (by decide +kernel), List.mem_of_getElem? (i := 83) (by decide +kernel), by decide +kernel, ⟨by decide +kernel, by decide +kernel⟩, by decide +kernel, by decide, by decide⟩
theorem ok_mX9_goes : iMok mX9_goes := ⟨List.mem_of_getElem? (i := 1248) (by decide +kernel), List.mem_of_getElem? (i := 83) (by decide +kernel), by decide +kernel, ⟨by decide +kernel, by decide +kernel⟩, by decide +kernel, by decide, by decide⟩
theorem ok_mX9_hand : iMok mX9_hand := ⟨List.mem_of_getElem? (i := 1382) (by decide +kernel), List.mem_of_getElem? (i := 83) (by decide +kernel), by decide +kernel, ⟨by decide +kernel, by decide +kernel⟩, by decide +kernel, by decide, by decide⟩
theorem ok_mX9_holds : iMok mX9_holds := ⟨List.mem_of_getElem? (i := 1116) (by decide +kernel), List.mem_of_getElem? (i := 83) (by decide +kernel), by decide +kernel, ⟨by decide +kernel, by decide +kernel⟩, by decide +kernel, by decide, by decide⟩
theorem ok_mX9_image : iMok mX9_image := ⟨List.mem_of_getElem? (i := 1415) (by decide +kernel), List.mem_of_getElem? (i := 83) (by decide +kernel), by decide +kernel, ⟨by decide +kernel, by decide +kernel⟩, by decide +kernel, by decide, by decide⟩
theorem ok_mX9_indexOf : iMok mX9_indexOf := ⟨List.mem_of_getElem? (i := 1244) (by decide +kernel), List.mem_of_getElem? (i := 83) (by decide +kernel), by decide +kernel, ⟨by decide +kernel, by decide +kernel⟩, by decide +kernel, by decide, by decide⟩
theorem ok_mX9_init : iMok mX9_init := ⟨List.mem_of_getElem? (i := 948) (by decide +kernel), List.mem_of_getElem? (i := 83) (by decide +kernel), by decide +kernel, ⟨by decide +kernel, by decide +kernel⟩, by decide +kernel, by decide, by decide⟩
theorem ok_mX9_invert : iMok mX9_invert := ⟨List.mem_of_getElem? (i := 1329) (by decide +kernel), List.mem_of_getElem? (i := 83) (by decide +kernel), by decide +kernel, ⟨by decide +kernel, by decide +kernel⟩, by decide +kernel, by decide, by decide⟩
theorem ok_mX9_is : iMok mX9_is := ⟨List.mem_of_getElem? (i := 1148) (by decide +kernel), List.mem_of_getElem? (i := 83) (by decide +kernel), by decide +kernel, ⟨by decide +kernel, by decide +kernel⟩, by decide +kernel, by decide, by decide⟩
theorem ok_mX9_isBelow : iMok mX9_isBelow := ⟨List.mem_of_getElem? (i := 1216) (by decide +kernel), List.mem_of_getElem? (i := 83) (by decide +kernel), by decide +kernel, ⟨by decide +kernel, by decide +kernel⟩, by decide +kernel, by decide, by decide⟩
theorem ok_mX9_isDigit : iMok mX9_isDigit := ⟨List.mem_of_getElem? (i := 1140) (by decide +kernel), List.mem_of_getElem? (i := 83) (by decide +kernel), by decide +kernel, ⟨by decide +kernel, by decide +kernel⟩, by decide +kernel, by decide, by decide⟩
theorem ok_mX9_isPatch : iMok mX9_isPatch := ⟨List.mem_of_getElem? (i := 1112) (by decide +kernel), List.mem_of_getElem? (i := 83) (by decide +kernel), by decide +kernel, ⟨by decide +kernel, by decide +kernel⟩, by decide +kernel, by decide, by decide⟩
theorem ok_mX9_isRow : iMok mX9_isRow := ⟨List.mem_of_getElem? (i := 1096) (by decide +kernel), List.mem_of_getElem? (i := 83) (by decide +kernel), by decide +kernel, ⟨by decide +kernel, by decide +kernel⟩, by decide +kernel, by decide, by decide⟩
theorem ok_mX9_isTree : iMok mX9_isTree := ⟨List.mem_of_getElem? (i := 1164) (by decide +kernel), List.mem_of_getElem? (i := 83) (by decide +kernel), by decide +kernel, ⟨by decide +kernel, by decide +kernel⟩, by decide +kernel, by decide, by decide⟩
theorem ok_mX9_isUnlike : iMok mX9_isUnlike := ⟨List.mem_of_getElem? (i := 1232) (by decide +kernel), List.mem_of_getElem? (i := 83) (by decide +kernel), by decide +kernel, ⟨by decide +kernel, by decide +kernel⟩, by decide +kernel, by decide, by decide⟩
theorem ok_mX9_judge : iMok mX9_judge := ⟨List.mem_of_getElem? (i := 1394) (by decide +kernel), List.mem_of_getElem? (i := 83) (by decide +kernel), by decide +kernel, ⟨by decide +kernel, by decide +kernel⟩, by decide +kernel, by decide, by decide⟩
theorem ok_mX9_keeps : iMok mX9_keeps := ⟨List.mem_of_getElem? (i := 1365) (by decide +kernel), List.mem_of_getElem? (i := 83) (by decide +kernel), by decide +kernel, ⟨by decide +kernel, by decide +kernel⟩, by decide +kernel, by decide, by decide⟩
theorem ok_mX9_keepsMove : iMok mX9_keepsMove := ⟨List.mem_of_getElem? (i := 1374) (by decide +kernel), List.mem_of_getElem? (i := 83) (by decide +kernel), by decide +kernel, ⟨by decide +kernel, by decide +kernel⟩, by decide +kernel, by decide, by decide⟩
theorem ok_mX9_keyOf : iMok mX9_keyOf := ⟨List.mem_of_getElem? (i := 1236) (by decide +kernel), List.mem_of_getElem? (i := 83) (by decide +kernel), by decide +kernel, ⟨by decide +kernel, by decide +kernel⟩, by decide +kernel, by decide, by decide⟩
theorem ok_mX9_lays : iMok mX9_lays := ⟨List.mem_of_getElem? (i := 1152) (by decide +kernel), List.mem_of_getElem? (i := 83) (by decide +kernel), by decide +kernel, ⟨by decide +kernel, by decide +kernel⟩, by decide +kernel, by decide, by decide⟩
theorem ok_mX9_loads : iMok mX9_loads := ⟨List.mem_of_getElem? (i := 1172) (by decide +kernel), List.mem_of_getElem? (i := 83) (by decide +kernel), by decide +kernel, ⟨by decide +kernel, by decide +kernel⟩, by decide +kernel, by decide, by decide⟩
theorem ok_mX9_makes : iMok mX9_makes := ⟨List.mem_of_getElem? (i := 1252) (by decide +kernel), List.mem_of_getElem? (i := 83) (by decide +kernel), by decide +kernel, ⟨by decide +kernel, by decide +kernel⟩, by decide +kernel, by decide, by decide⟩
theorem ok_mX9_moves : iMok mX9_moves := ⟨List.mem_of_getElem? (i := 1268) (by decide +kernel), List.mem_of_getElem? (i := 83) (by decide +kernel), by decide +kernel, ⟨by decide +kernel, by decide +kernel⟩, by decide +kernel, by decide, by decide⟩
theorem ok_mX9_moves_ : iMok mX9_moves_ := ⟨List.mem_of_getElem? (i := 1297) (by decide +kernel), List.mem_of_getElem? (i := 83) (by decide +kernel), by decide +kernel, ⟨by decide +kernel, by decide +kernel⟩, by decide +kernel, by decide, by decide⟩
theorem ok_mX9_newPatch : iMok mX9_newPatch := ⟨List.mem_of_getElem? (i := 1289) (by decide +kernel), List.mem_of_getElem? (i := 83) (by decide +kernel), by decide +kernel, ⟨by decide +kernel, by decide +kernel⟩, by decide +kernel, by decide, by decide⟩
theorem ok_mX9_next : iMok mX9_next := ⟨List.mem_of_getElem? (i := 1280) (by decide +kernel), List.mem_of_getElem? (i := 83) (by decide +kernel), by decide +kernel, ⟨by decide +kernel, by decide +kernel⟩, by decide +kernel, by decide, by decide⟩
theorem ok_mX9_no : iMok mX9_no := ⟨List.mem_of_getElem? (i := 1084) (by decide +kernel), List.mem_of_getElem? (i := 83) (by decide +kernel), by decide +kernel, ⟨by decide +kernel, by decide +kernel⟩, by decide +kernel, by decide, by decide⟩
theorem ok_mX9_no10 : iMok mX9_no10 := ⟨List.mem_of_getElem? (i := 1200) (by decide +kernel), List.mem_of_getElem? (i := 83) (by decide +kernel), by decide +kernel, ⟨by decide +kernel, by decide +kernel⟩, by decide +kernel, by decide, by decide⟩
theorem ok_mX9_noRow : iMok mX9_noRow := ⟨List.mem_of_getElem? (i := 1092) (by decide +kernel), List.mem_of_getElem? (i := 83) (by decide +kernel), by decide +kernel, ⟨by decide +kernel, by decide +kernel⟩, by decide +kernel, by decide, by decide⟩
theorem ok_mX9_node : iMok mX9_node := ⟨List.mem_of_getElem? (i := 1132) (by decide +kernel), List.mem_of_getElem? (i := 83) (by decide +kernel), by decide +kernel, ⟨by decide +kernel, by decide +kernel⟩, by decide +kernel, by decide, by decide⟩
theorem ok_mX9_node_ : iMok mX9_node_ := ⟨List.mem_of_getElem? (i := 1168) (by decide +kernel), List.mem_of_getElem? (i := 83) (by decide +kernel), by decide +kernel, ⟨by decide +kernel, by decide +kernel⟩, by decide +kernel, by decide, by decide⟩
theorem ok_mX9_nodes : iMok mX9_nodes := ⟨List.mem_of_getElem? (i := 1160) (by decide +kernel), List.mem_of_getElem? (i := 83) (by decide +kernel), by decide +kernel, ⟨by decide +kernel, by decide +kernel⟩, by decide +kernel, by decide, by decide⟩
theorem ok_mX9_of : iMok mX9_of := ⟨List.mem_of_getElem? (i := 1124) (by decide +kernel), List.mem_of_getElem? (i := 83) (by decide +kernel), by decide +kernel, ⟨by decide +kernel, by decide +kernel⟩, by decide +kernel, by decide, by decide⟩
theorem ok_mX9_ordered : iMok mX9_ordered := ⟨List.mem_of_getElem? (i := 1272) (by decide +kernel), List.mem_of_getElem? (i := 83) (by decide +kernel), by decide +kernel, ⟨by decide +kernel, by decide +kernel⟩, by decide +kernel, by decide, by decide⟩
theorem ok_mX9_parent : iMok mX9_parent := ⟨List.mem_of_getElem? (i := 1180) (by decide +kernel), List.mem_of_getElem? (i := 83) (by decide +kernel), by decide +kernel, ⟨by decide +kernel, by decide +kernel⟩, by decide +kernel, by decide, by decide⟩
theorem ok_mX9_parentKey : iMok mX9_parentKey := ⟨List.mem_of_getElem? (i := 1176) (by decide +kernel), List.mem_of_getElem? (i := 83) (by decide +kernel), by decide +kernel, ⟨by decide +kernel, by decide +kernel⟩, by decide +kernel, by decide, by decide⟩
theorem ok_mX9_patchOf : iMok mX9_patchOf := ⟨List.mem_of_getElem? (i := 1301) (by decide +kernel), List.mem_of_getElem? (i := 83) (by decide +kernel), by decide +kernel, ⟨by decide +kernel, by decide +kernel⟩, by decide +kernel, by decide, by decide⟩
theorem ok_mX9_place : iMok mX9_place := ⟨List.mem_of_getElem? (i := 1184) (by decide +kernel), List.mem_of_getElem? (i := 83) (by decide +kernel), by decide +kernel, ⟨by decide +kernel, by decide +kernel⟩, by decide +kernel, by decide, by decide⟩
theorem ok_mX9_placeIn : iMok mX9_placeIn := ⟨List.mem_of_getElem? (i := 1284) (by decide +kernel), List.mem_of_getElem? (i := 83) (by decide +kernel), by decide +kernel, ⟨by decide +kernel, by decide +kernel⟩, by decide +kernel, by decide, by decide⟩
theorem ok_mX9_put : iMok mX9_put := ⟨List.mem_of_getElem? (i := 1386) (by decide +kernel), List.mem_of_getElem? (i := 83) (by decide +kernel), by decide +kernel, ⟨by decide +kernel, by decide +kernel⟩, by decide +kernel, by decide, by decide⟩
theorem ok_mX9_puts : iMok mX9_puts := ⟨List.mem_of_getElem? (i := 1264) (by decide +kernel), List.mem_of_getElem? (i := 83) (by decide +kernel), by decide +kernel, ⟨by decide +kernel, by decide +kernel⟩, by decide +kernel, by decide, by decide⟩
theorem ok_mX9_rebase : iMok mX9_rebase := ⟨List.mem_of_getElem? (i := 1361) (by decide +kernel), List.mem_of_getElem? (i := 83) (by decide +kernel), by decide +kernel, ⟨by decide +kernel, by decide +kernel⟩, by decide +kernel, by decide, by decide⟩
theorem ok_mX9_restore : iMok mX9_restore := ⟨List.mem_of_getElem? (i := 1419) (by decide +kernel), List.mem_of_getElem? (i := 83) (by decide +kernel), by decide +kernel, ⟨by decide +kernel, by decide +kernel⟩, by decide +kernel, by decide, by decide⟩
theorem ok_mX9_row : iMok mX9_row := ⟨List.mem_of_getElem? (i := 1077) (by decide +kernel), List.mem_of_getElem? (i := 83) (by decide +kernel), by decide +kernel, ⟨by decide +kernel, by decide +kernel⟩, by decide +kernel, by decide, by decide⟩
theorem ok_mX9_same : iMok mX9_same := ⟨List.mem_of_getElem? (i := 1220) (by decide +kernel), List.mem_of_getElem? (i := 83) (by decide +kernel), by decide +kernel, ⟨by decide +kernel, by decide +kernel⟩, by decide +kernel, by decide, by decide⟩
theorem ok_mX9_says : iMok mX9_says := ⟨List.mem_of_getElem? (i := 1120) (by decide +kernel), List.mem_of_getElem? (i := 83) (by decide +kernel), by decide +kernel, ⟨by decide +kernel, by decide +kernel⟩, by decide +kernel, by decide, by decide⟩
theorem ok_mX9_seed : iMok mX9_seed := ⟨List.mem_of_getElem? (i := 1411) (by decide +kernel), List.mem_of_getElem? (i := 83) (by decide +kernel), by decide +kernel, ⟨by decide +kernel, by decide +kernel⟩, by decide +kernel, by decide, by decide⟩
theorem ok_mX9_set : iMok mX9_set := ⟨List.mem_of_getElem? (i := 1088) (by decide +kernel), List.mem_of_getElem? (i := 83) (by decide +kernel), by decide +kernel, ⟨by decide +kernel, by decide +kernel⟩, by decide +kernel, by decide, by decide⟩
theorem ok_mX9_show : iMok mX9_show := ⟨List.mem_of_getElem? (i := 1108) (by decide +kernel), List.mem_of_getElem? (i := 83) (by decide +kernel), by decide +kernel, ⟨by decide +kernel, by decide +kernel⟩, by decide +kernel, by decide, by decide⟩
theorem ok_mX9_sign : iMok mX9_sign := ⟨List.mem_of_getElem? (i := 1136) (by decide +kernel), List.mem_of_getElem? (i := 83) (by decide +kernel), by decide +kernel, ⟨by decide +kernel, by decide +kernel⟩, by decide +kernel, by decide, by decide⟩
theorem ok_mX9_squeeze : iMok mX9_squeeze := ⟨List.mem_of_getElem? (i := 1345) (by decide +kernel), List.mem_of_getElem? (i := 83) (by decide +kernel), by decide +kernel, ⟨by decide +kernel, by decide +kernel⟩, by decide +kernel, by decide, by decide⟩
theorem ok_mX9_squeezes : iMok mX9_squeezes := ⟨List.mem_of_getElem? (i := 1349) (by decide +kernel), List.mem_of_getElem? (i := 83) (by decide +kernel), by decide +kernel, ⟨by decide +kernel, by decide +kernel⟩, by decide +kernel, by decide, by decide⟩
theorem ok_mX9_status : iMok mX9_status := ⟨List.mem_of_getElem? (i := 1423) (by decide +kernel), List.mem_of_getElem? (i := 83) (by decide +kernel), by decide +kernel, ⟨by decide +kernel, by decide +kernel⟩, by decide +kernel, by decide, by decide⟩
theorem ok_mX9_staying : iMok mX9_staying := ⟨List.mem_of_getElem? (i := 1276) (by decide +kernel), List.mem_of_getElem? (i := 83) (by decide +kernel), by decide +kernel, ⟨by decide +kernel, by decide +kernel⟩, by decide +kernel, by decide, by decide⟩
theorem ok_mX9_sticks : iMok mX9_sticks := ⟨List.mem_of_getElem? (i := 1325) (by decide +kernel), List.mem_of_getElem? (i := 83) (by decide +kernel), by decide +kernel, ⟨by decide +kernel, by decide +kernel⟩, by decide +kernel, by decide, by decide⟩
theorem ok_mX9_stuck : iMok mX9_stuck := ⟨List.mem_of_getElem? (i := 1321) (by decide +kernel), List.mem_of_getElem? (i := 83) (by decide +kernel), by decide +kernel, ⟨by decide +kernel, by decide +kernel⟩, by decide +kernel, by decide, by decide⟩
theorem ok_mX9_touched : iMok mX9_touched := ⟨List.mem_of_getElem? (i := 1313) (by decide +kernel), List.mem_of_getElem? (i := 83) (by decide +kernel), by decide +kernel, ⟨by decide +kernel, by decide +kernel⟩, by decide +kernel, by decide, by decide⟩
theorem ok_mX9_tree : iMok mX9_tree := ⟨List.mem_of_getElem? (i := 1128) (by decide +kernel), List.mem_of_getElem? (i := 83) (by decide +kernel), by decide +kernel, ⟨by decide +kernel, by decide +kernel⟩, by decide +kernel, by decide, by decide⟩
theorem ok_mX9_turns : iMok mX9_turns := ⟨List.mem_of_getElem? (i := 1333) (by decide +kernel), List.mem_of_getElem? (i := 83) (by decide +kernel), by decide +kernel, ⟨by decide +kernel, by decide +kernel⟩, by decide +kernel, by decide, by decide⟩
theorem ok_mX9_undoes : iMok mX9_undoes := ⟨List.mem_of_getElem? (i := 1353) (by decide +kernel), List.mem_of_getElem? (i := 83) (by decide +kernel), by decide +kernel, ⟨by decide +kernel, by decide +kernel⟩, by decide +kernel, by decide, by decide⟩
theorem ok_mX9_vanish : iMok mX9_vanish := ⟨List.mem_of_getElem? (i := 1357) (by decide +kernel), List.mem_of_getElem? (i := 83) (by decide +kernel), by decide +kernel, ⟨by decide +kernel, by decide +kernel⟩, by decide +kernel, by decide, by decide⟩
theorem ok_mX9_within : iMok mX9_within := ⟨List.mem_of_getElem? (i := 1080) (by decide +kernel), List.mem_of_getElem? (i := 83) (by decide +kernel), by decide +kernel, ⟨by decide +kernel, by decide +kernel⟩, by decide +kernel, by decide, by decide⟩
def iK (o : Nat) : List (Nat × iM × Nat × Nat) := match o with
  | 0 => [(35, mX7_init_, 2, 1), (41, mX7_keyAt, 0, 1), (45, mX1_clear, 0, 0), (50, mX0_init, 2, 3), (53, mX0_nameOthers, 0, 0), (60, mX0_markStaying, 0, 1), (64, mX0_bringOthers, 0, 1), (67, mX0_takeOthers, 0, 0), (70, mX7_whereOf, 0, 1), (73, mX7_labelAt, 0, 1), (76, mX2_name, 1, 3), (82, mX0_change, 0, 1), (86, mX7_parentKeyAt, 0, 1), (89, mX7_placeAt, 0, 1), (92, mX2_take, 1, 4), (96, mX1_add, 0, 1), (99, mX2_perform, 0, 1), (102, mX0_rankChildren, 0, 1), (105, mX0_measureRisingRows, 0, 1), (108, mX7_endOf, 0, 1), (111, mX7_depthAt, 0, 1), (114, mX7_parentAt, 0, 1), (123, mX0_brought, 0, 3), (126, mX2_give, 1, 4), (129, mX2_move, 1, 5)]
  | 1 => [(28, mX3_size, 0, 0), (33, mX3_editAt, 0, 1), (37, mX1_add, 0, 1), (41, mX1_editAt, 0, 1), (42, mX2_namesAsWell, 0, 1), (46, mX2_joinedWith, 0, 1), (50, mX2_turned, 0, 0), (54, mX2_isLike, 0, 1), (57, mX2_over, 0, 1), (61, mX2_fitted, 0, 1), (65, mX2_perform, 0, 1)]
  | 2 => [(33, mX2_init, 2, 7), (36, mX2_name, 1, 3), (40, mX2_give, 1, 4), (44, mX2_take, 1, 4), (47, mX2_move, 1, 5), (51, mX7_whereOf, 0, 1), (57, mX7_labelAt, 0, 1), (60, mX2_fitsAsTake, 0, 2), (64, mX2_fitsAsGive, 0, 2), (67, mX2_fitsAsMove, 0, 2), (70, mX7_childCount, 0, 1), (73, mX7_parentKeyAt, 0, 1), (76, mX7_placeAt, 0, 1), (82, mX7_isWithin, 0, 2), (86, mX2_lastPlaceOfMove, 0, 3), (90, mX7_parentAt, 0, 1), (93, mX7_rename, 0, 2), (97, mX7_remove, 0, 1), (101, mX7_spot, 0, 3), (105, mX7_depthAt, 0, 1), (108, mX7_insert, 0, 4), (112, mX7_carry, 0, 3), (116, mX2_nameOver, 0, 2), (120, mX2_takeOver, 0, 2), (123, mX2_giveOver, 0, 2), (126, mX2_moveOver, 0, 2)]
  | 3 => [(9, mX1_takeEdits, 0, 0), (21, mX1_takeConflicts, 0, 0), (39, mX3_conflictCount, 0, 0), (51, mX2_fits, 0, 1), (55, mX2_perform, 0, 1)]
  | 4 => [(11, mX7_init, 2, 0), (29, mX5_length, 0, 0), (35, mX4_readNode, 0, 0), (38, mX4_readSign, 0, 1), (42, mX5_intAt, 0, 1), (45, mX8_isLabel, 4, 1), (52, mX4_isDigit, 0, 1), (55, mX7_whereOf, 0, 1), (58, mX7_insert, 0, 4)]
  | 5 => [(19, mX5_has, 0, 1), (23, mX5_longAt, 0, 1), (27, mX5_cutToSort, 0, 1)]
  | 6 => [(33, mX6_treeAt, 0, 1), (40, mX6_patchAt, 0, 1), (44, mX3_size, 0, 0)]
  | 7 => [(31, mX7_has, 0, 1), (35, mX7_parentAt, 0, 1), (39, mX7_keyAt, 0, 1), (42, mX7_endOf, 0, 1), (45, mX7_depthAt, 0, 1), (48, mX7_isWithin, 0, 2), (58, mX5_intAt, 0, 1), (63, mX7_turnRound, 0, 2)]
  | 8 => [(24, mX1_init, 3, 0), (31, mX6_init, 2, 0), (46, mX8_isShelf, 1, 1), (50, mX8_refuse, 0, 1), (54, mX5_init, 2, 2), (57, mX8_rowAt, 0, 1), (61, mX8_whyNoRow, 0, 1), (64, mX5_has, 0, 1), (67, mX5_keep, 0, 2), (74, mX5_hasRun, 0, 2), (88, mX5_longAt, 0, 1), (92, mX8_patchAt, 0, 1), (96, mX3_isOf, 0, 1), (101, mX3_saysAs, 0, 1), (106, mX4_init, 2, 1), (109, mX4_read, 0, 0), (117, mX6_addTree, 0, 1), (121, mX8_treeAt, 0, 1), (130, mX7_has, 0, 1), (131, mX7_keyAt, 0, 1), (134, mX7_labelAt, 0, 1), (137, mX7_parentKeyAt, 0, 1), (140, mX7_placeAt, 0, 1), (143, mX7_childCount, 0, 1), (146, mX7_depthAt, 0, 1), (149, mX7_endOf, 0, 1), (152, mX8_refuseLower, 0, 1), (155, mX7_whereOf, 0, 1), (158, mX7_spot, 0, 3), (162, mX7_lowestOver, 0, 2), (166, mX7_firstUnlike, 0, 1), (172, mX6_dropTree, 0, 0), (175, mX0_draftInto, 1, 3), (181, mX8_keepDraft, 0, 2), (185, mX1_countOf, 0, 1), (188, mX3_size, 0, 0), (193, mX3_countOf, 0, 1), (194, mX3_editAt, 0, 1), (198, mX2_told, 0, 1), (203, mX3_keyBits, 0, 1), (206, mX7_init_, 2, 1), (209, mX3_changeUntilMisfit, 0, 1), (212, mX6_replaceTree, 0, 2), (216, mX3_conflictCount, 0, 0), (219, mX3_conflictAt, 0, 2), (222, mX1_clear, 0, 0), (225, mX2_turned, 0, 0), (229, mX1_add, 0, 1), (233, mX1_addAll, 0, 1), (237, mX1_addSqueezed, 0, 1), (240, mX1_addRebased, 0, 3), (244, mX8_isLabel, 1, 1), (247, mX2_name, 1, 3), (251, mX2_move, 1, 5), (255, mX2_fits, 0, 1), (262, mX6_forgetPatch, 0, 0), (265, mX8_emptyVainShelves, 0, 0), (268, mX5_length, 0, 0), (271, mX7_firstWrong, 0, 2), (275, mX8_passDay, 0, 1), (281, mX6_init_, 2, 1), (284, mX6_nodeCount, 0, 0), (287, mX6_editCount, 0, 0), (290, mX8_fullShelves, 0, 0), (293, mX6_treeAt, 0, 1), (294, mX6_patchAt, 0, 1), (295, mX3_init, 2, 4), (298, mX6_addPatch, 0, 1), (302, mX6_draw, 0, 1), (305, mX7_insert, 0, 4), (309, mX7_remove, 0, 1), (313, mX7_rename, 0, 2)]
  | 9 => [(99, mX9_no, 0, 1), (106, mX9_within, 1, 3), (113, mX9_isRow, 0, 1), (117, mX9_noRow, 0, 1), (120, mX9_isPatch, 0, 1), (123, mX9_of, 0, 2), (130, mX9_parent, 0, 1), (133, mX9_end, 0, 1), (136, mX9_child, 0, 2), (145, mX9_sign, 0, 0), (149, mX9_isDigit, 0, 0), (153, mX9_find, 0, 1), (156, mX9_is, 0, 1), (159, mX9_node, 0, 1), (162, mX9_lays, 0, 1), (166, mX9_isTree, 0, 1), (169, mX9_loads, 0, 1), (172, mX9_parentKey, 0, 1), (175, mX9_place, 0, 1), (178, mX9_children, 0, 1), (181, mX9_no10, 0, 1), (184, mX9_isBelow, 0, 2), (188, mX9_cuts, 0, 2), (192, mX9_puts, 0, 3), (196, mX9_moves, 0, 3), (203, mX9_makes, 0, 7), (207, mX9_does, 0, 2), (211, mX9_keyOf, 0, 2), (214, mX9_next, 0, 3), (218, mX9_placeIn, 0, 2), (226, mX9_staying, 0, 2), (230, mX9_indexOf, 0, 2), (233, mX9_goes, 0, 7), (236, mX9_ordered, 0, 3), (245, mX9_isUnlike, 0, 2), (248, mX9_differs, 0, 2), (251, mX9_newPatch, 0, 2), (254, mX9_edit, 0, 2), (257, mX9_stuck, 0, 1), (260, mX9_turns, 0, 2), (264, mX9_all, 0, 1), (267, mX9_undoes, 0, 1), (270, mX9_vanish, 0, 2), (273, mX9_squeezes, 0, 0), (276, mX9_gives, 0, 3), (279, mX9_keepsMove, 0, 3), (285, mX9_keeps, 0, 1), (289, mX9_draw, 0, 1), (292, mX9_day, 0, 0)]
  | 10 => [(9, mX8_init, 2, 0), (12, mX9_init, 2, 0), (13, mX8_row, 0, 3), (17, mX9_row, 0, 3), (20, mX8_set, 0, 3), (24, mX9_set, 0, 3), (25, mX8_copy, 0, 5), (29, mX9_copy, 0, 5), (30, mX8_element, 0, 2), (34, mX9_element, 0, 2), (35, mX8_show, 0, 2), (39, mX9_show, 0, 2), (40, mX8_holds, 0, 1), (44, mX9_holds, 0, 1), (45, mX8_says, 0, 2), (48, mX9_says, 0, 2), (49, mX8_tree, 0, 1), (52, mX9_tree, 0, 1), (53, mX8_fault, 0, 0), (57, mX9_fault, 0, 0), (58, mX8_nodes, 0, 1), (61, mX9_nodes, 0, 1), (62, mX8_node, 0, 3), (65, mX9_node_, 0, 3), (66, mX8_find, 0, 2), (69, mX9_find_, 0, 2), (70, mX8_child, 0, 3), (73, mX9_child_, 0, 3), (74, mX8_above, 0, 3), (77, mX9_above, 0, 3), (78, mX8_same, 0, 2), (81, mX9_same, 0, 2), (82, mX8_drop, 0, 1), (85, mX9_drop, 0, 1), (86, mX8_difference, 0, 2), (89, mX9_difference, 0, 2), (90, mX8_far, 0, 2), (93, mX9_far, 0, 2), (94, mX8_moves, 0, 2), (97, mX9_moves_, 0, 2), (98, mX8_patchOf, 0, 2), (101, mX9_patchOf, 0, 2), (102, mX8_edit, 0, 3), (105, mX9_edit_, 0, 3), (106, mX8_touched, 0, 2), (109, mX9_touched, 0, 2), (110, mX8_apply, 0, 2), (113, mX9_apply, 0, 2), (114, mX8_sticks, 0, 2), (117, mX9_sticks, 0, 2), (118, mX8_invert, 0, 1), (121, mX9_invert, 0, 1), (122, mX8_behind, 0, 2), (125, mX9_behind, 0, 2), (126, mX8_squeeze, 0, 1), (129, mX9_squeeze, 0, 1), (130, mX8_rebase, 0, 2), (133, mX9_rebase, 0, 2), (134, mX8_conflict, 0, 3), (137, mX9_conflict, 0, 3), (138, mX8_hand, 0, 3), (141, mX9_hand, 0, 3), (142, mX8_put, 0, 4), (146, mX9_put, 0, 4), (147, mX8_forget, 0, 0), (150, mX9_forget, 0, 0), (151, mX8_judge, 0, 3), (154, mX9_judge, 0, 3), (155, mX8_days, 0, 2), (158, mX9_days, 0, 2), (159, mX8_seed, 0, 1), (162, mX9_seed, 0, 1), (163, mX8_image, 0, 0), (166, mX9_image, 0, 0), (167, mX8_restore, 0, 0), (170, mX9_restore, 0, 0), (171, mX8_status, 0, 1), (174, mX9_status, 0, 1)]
  | _ => []
def iKok (o : Nat) (e : Nat × iM × Nat × Nat) : Prop := iMok e.2.1 ∧ (parseMethodDescriptor e.2.1.1.desc).map (fun d => d.parameters.length) = some e.2.2.2 ∧ (match e.2.2.1 with
  | 0 => Cond.methodLink (iOwn o) e.1 e.2.1.1 ∈ lw_tbl ∧ Cond.instanceMethod e.2.1.1 ∈ lw_tbl ∧ Cond.selects e.2.1.1.cls e.2.1.1 e.2.1.1 ∈ lw_tbl
  | 1 => Cond.methodLink (iOwn o) e.1 e.2.1.1 ∈ lw_tbl ∧ Cond.static e.2.1.1 ∈ lw_tbl ∧ True
  | 2 => Cond.methodLink (iOwn o) e.1 e.2.1.1 ∈ lw_tbl ∧ Cond.instanceMethod e.2.1.1 ∈ lw_tbl ∧ (e.2.1.1.name = "<init>" ∧ e.2.1.2.2.2.1 = none)
  | 3 => Cond.methodLinkNest (iOwn o) e.1 e.2.1.1 RX8 ∈ lw_tbl ∧ Cond.instanceMethod e.2.1.1 ∈ lw_tbl ∧ (e.2.1.1.name = "<init>" ∧ e.2.1.2.2.2.1 = none)
  | _ => Cond.methodLinkNest (iOwn o) e.1 e.2.1.1 RX8 ∈ lw_tbl ∧ Cond.static e.2.1.1 ∈ lw_tbl ∧ True)
theorem iKok_0_35 : iKok 0 (35, mX7_init_, 2, 1) := ⟨ok_mX7_init_, by decide +kernel, List.mem_of_getElem? (i := 497) (by decide +kernel), List.mem_of_getElem? (i := 498) (by decide +kernel), ⟨by decide +kernel, rfl⟩⟩
theorem iKok_0_41 : iKok 0 (41, mX7_keyAt, 0, 1) := ⟨ok_mX7_keyAt, by decide +kernel, List.mem_of_getElem? (i := 485) (by decide +kernel), List.mem_of_getElem? (i := 395) (by decide +kernel), List.mem_of_getElem? (i := 396) (by decide +kernel)⟩
theorem iKok_0_45 : iKok 0 (45, mX1_clear, 0, 0) := ⟨ok_mX1_clear, by decide +kernel, List.mem_of_getElem? (i := 486) (by decide +kernel), List.mem_of_getElem? (i := 487) (by decide +kernel), List.mem_of_getElem? (i := 488) (by decide +kernel)⟩
theorem iKok_0_50 : iKok 0 (50, mX0_init, 2, 3) := ⟨ok_mX0_init, by decide +kernel, List.mem_of_getElem? (i := 492) (by decide +kernel), List.mem_of_getElem? (i := 493) (by decide +kernel), ⟨by decide +kernel, rfl⟩⟩
theorem iKok_0_53 : iKok 0 (53, mX0_nameOthers, 0, 0) := ⟨ok_mX0_nameOthers, by decide +kernel, List.mem_of_getElem? (i := 523) (by decide +kernel), List.mem_of_getElem? (i := 525) (by decide +kernel), List.mem_of_getElem? (i := 10) (by decide +kernel)⟩
theorem iKok_0_60 : iKok 0 (60, mX0_markStaying, 0, 1) := ⟨ok_mX0_markStaying, by decide +kernel, List.mem_of_getElem? (i := 595) (by decide +kernel), List.mem_of_getElem? (i := 597) (by decide +kernel), List.mem_of_getElem? (i := 13) (by decide +kernel)⟩
theorem iKok_0_64 : iKok 0 (64, mX0_bringOthers, 0, 1) := ⟨ok_mX0_bringOthers, by decide +kernel, List.mem_of_getElem? (i := 611) (by decide +kernel), List.mem_of_getElem? (i := 613) (by decide +kernel), List.mem_of_getElem? (i := 16) (by decide +kernel)⟩
theorem iKok_0_67 : iKok 0 (67, mX0_takeOthers, 0, 0) := ⟨ok_mX0_takeOthers, by decide +kernel, List.mem_of_getElem? (i := 627) (by decide +kernel), List.mem_of_getElem? (i := 629) (by decide +kernel), List.mem_of_getElem? (i := 18) (by decide +kernel)⟩
theorem iKok_0_70 : iKok 0 (70, mX7_whereOf, 0, 1) := ⟨ok_mX7_whereOf, by decide +kernel, List.mem_of_getElem? (i := 527) (by decide +kernel), List.mem_of_getElem? (i := 354) (by decide +kernel), List.mem_of_getElem? (i := 355) (by decide +kernel)⟩
theorem iKok_0_73 : iKok 0 (73, mX7_labelAt, 0, 1) := ⟨ok_mX7_labelAt, by decide +kernel, List.mem_of_getElem? (i := 528) (by decide +kernel), List.mem_of_getElem? (i := 400) (by decide +kernel), List.mem_of_getElem? (i := 401) (by decide +kernel)⟩
theorem iKok_0_76 : iKok 0 (76, mX2_name, 1, 3) := ⟨ok_mX2_name, by decide +kernel, List.mem_of_getElem? (i := 529) (by decide +kernel), List.mem_of_getElem? (i := 530) (by decide +kernel), trivial⟩
theorem iKok_0_82 : iKok 0 (82, mX0_change, 0, 1) := ⟨ok_mX0_change, by decide +kernel, List.mem_of_getElem? (i := 563) (by decide +kernel), List.mem_of_getElem? (i := 565) (by decide +kernel), List.mem_of_getElem? (i := 11) (by decide +kernel)⟩
theorem iKok_0_86 : iKok 0 (86, mX7_parentKeyAt, 0, 1) := ⟨ok_mX7_parentKeyAt, by decide +kernel, List.mem_of_getElem? (i := 623) (by decide +kernel), List.mem_of_getElem? (i := 404) (by decide +kernel), List.mem_of_getElem? (i := 405) (by decide +kernel)⟩
theorem iKok_0_89 : iKok 0 (89, mX7_placeAt, 0, 1) := ⟨ok_mX7_placeAt, by decide +kernel, List.mem_of_getElem? (i := 619) (by decide +kernel), List.mem_of_getElem? (i := 413) (by decide +kernel), List.mem_of_getElem? (i := 414) (by decide +kernel)⟩
theorem iKok_0_92 : iKok 0 (92, mX2_take, 1, 4) := ⟨ok_mX2_take, by decide +kernel, List.mem_of_getElem? (i := 631) (by decide +kernel), List.mem_of_getElem? (i := 632) (by decide +kernel), trivial⟩
theorem iKok_0_96 : iKok 0 (96, mX1_add, 0, 1) := ⟨ok_mX1_add, by decide +kernel, List.mem_of_getElem? (i := 567) (by decide +kernel), List.mem_of_getElem? (i := 568) (by decide +kernel), List.mem_of_getElem? (i := 569) (by decide +kernel)⟩
theorem iKok_0_99 : iKok 0 (99, mX2_perform, 0, 1) := ⟨ok_mX2_perform, by decide +kernel, List.mem_of_getElem? (i := 571) (by decide +kernel), List.mem_of_getElem? (i := 572) (by decide +kernel), List.mem_of_getElem? (i := 573) (by decide +kernel)⟩
theorem iKok_0_102 : iKok 0 (102, mX0_rankChildren, 0, 1) := ⟨ok_mX0_rankChildren, by decide +kernel, List.mem_of_getElem? (i := 599) (by decide +kernel), List.mem_of_getElem? (i := 601) (by decide +kernel), List.mem_of_getElem? (i := 14) (by decide +kernel)⟩
theorem iKok_0_105 : iKok 0 (105, mX0_measureRisingRows, 0, 1) := ⟨ok_mX0_measureRisingRows, by decide +kernel, List.mem_of_getElem? (i := 606) (by decide +kernel), List.mem_of_getElem? (i := 608) (by decide +kernel), List.mem_of_getElem? (i := 15) (by decide +kernel)⟩
theorem iKok_0_108 : iKok 0 (108, mX7_endOf, 0, 1) := ⟨ok_mX7_endOf, by decide +kernel, List.mem_of_getElem? (i := 603) (by decide +kernel), List.mem_of_getElem? (i := 425) (by decide +kernel), List.mem_of_getElem? (i := 426) (by decide +kernel)⟩
theorem iKok_0_111 : iKok 0 (111, mX7_depthAt, 0, 1) := ⟨ok_mX7_depthAt, by decide +kernel, List.mem_of_getElem? (i := 604) (by decide +kernel), List.mem_of_getElem? (i := 421) (by decide +kernel), List.mem_of_getElem? (i := 422) (by decide +kernel)⟩
theorem iKok_0_114 : iKok 0 (114, mX7_parentAt, 0, 1) := ⟨ok_mX7_parentAt, by decide +kernel, List.mem_of_getElem? (i := 605) (by decide +kernel), List.mem_of_getElem? (i := 408) (by decide +kernel), List.mem_of_getElem? (i := 409) (by decide +kernel)⟩
theorem iKok_0_123 : iKok 0 (123, mX0_brought, 0, 3) := ⟨ok_mX0_brought, by decide +kernel, List.mem_of_getElem? (i := 615) (by decide +kernel), List.mem_of_getElem? (i := 617) (by decide +kernel), List.mem_of_getElem? (i := 17) (by decide +kernel)⟩
theorem iKok_0_126 : iKok 0 (126, mX2_give, 1, 4) := ⟨ok_mX2_give, by decide +kernel, List.mem_of_getElem? (i := 620) (by decide +kernel), List.mem_of_getElem? (i := 621) (by decide +kernel), trivial⟩
theorem iKok_0_129 : iKok 0 (129, mX2_move, 1, 5) := ⟨ok_mX2_move, by decide +kernel, List.mem_of_getElem? (i := 624) (by decide +kernel), List.mem_of_getElem? (i := 625) (by decide +kernel), trivial⟩
theorem iKok_0 : ∀ e ∈ iK 0, iKok 0 e := List.forall_mem_cons.mpr ⟨iKok_0_35, List.forall_mem_cons.mpr ⟨iKok_0_41, List.forall_mem_cons.mpr ⟨iKok_0_45, List.forall_mem_cons.mpr ⟨iKok_0_50, List.forall_mem_cons.mpr ⟨iKok_0_53, List.forall_mem_cons.mpr ⟨iKok_0_60, List.forall_mem_cons.mpr ⟨iKok_0_64, List.forall_mem_cons.mpr ⟨iKok_0_67, List.forall_mem_cons.mpr ⟨iKok_0_70, List.forall_mem_cons.mpr ⟨iKok_0_73, List.forall_mem_cons.mpr ⟨iKok_0_76, List.forall_mem_cons.mpr ⟨iKok_0_82, List.forall_mem_cons.mpr ⟨iKok_0_86, List.forall_mem_cons.mpr ⟨iKok_0_89, List.forall_mem_cons.mpr ⟨iKok_0_92, List.forall_mem_cons.mpr ⟨iKok_0_96, List.forall_mem_cons.mpr ⟨iKok_0_99, List.forall_mem_cons.mpr ⟨iKok_0_102, List.forall_mem_cons.mpr ⟨iKok_0_105, List.forall_mem_cons.mpr ⟨iKok_0_108, List.forall_mem_cons.mpr ⟨iKok_0_111, List.forall_mem_cons.mpr ⟨iKok_0_114, List.forall_mem_cons.mpr ⟨iKok_0_123, List.forall_mem_cons.mpr ⟨iKok_0_126, List.forall_mem_cons.mpr ⟨iKok_0_129, fun _ h => absurd h List.not_mem_nil⟩⟩⟩⟩⟩⟩⟩⟩⟩⟩⟩⟩⟩⟩⟩⟩⟩⟩⟩⟩⟩⟩⟩⟩⟩
theorem iKok_1_28 : iKok 1 (28, mX3_size, 0, 0) := ⟨ok_mX3_size, by decide +kernel, List.mem_of_getElem? (i := 802) (by decide +kernel), List.mem_of_getElem? (i := 699) (by decide +kernel), List.mem_of_getElem? (i := 700) (by decide +kernel)⟩
theorem iKok_1_33 : iKok 1 (33, mX3_editAt, 0, 1) := ⟨ok_mX3_editAt, by decide +kernel, List.mem_of_getElem? (i := 803) (by decide +kernel), List.mem_of_getElem? (i := 711) (by decide +kernel), List.mem_of_getElem? (i := 712) (by decide +kernel)⟩
theorem iKok_1_37 : iKok 1 (37, mX1_add, 0, 1) := ⟨ok_mX1_add, by decide +kernel, List.mem_of_getElem? (i := 804) (by decide +kernel), List.mem_of_getElem? (i := 568) (by decide +kernel), List.mem_of_getElem? (i := 569) (by decide +kernel)⟩
theorem iKok_1_41 : iKok 1 (41, mX1_editAt, 0, 1) := ⟨ok_mX1_editAt, by decide +kernel, List.mem_of_getElem? (i := 690) (by decide +kernel), List.mem_of_getElem? (i := 691) (by decide +kernel), List.mem_of_getElem? (i := 692) (by decide +kernel)⟩
theorem iKok_1_42 : iKok 1 (42, mX2_namesAsWell, 0, 1) := ⟨ok_mX2_namesAsWell, by decide +kernel, List.mem_of_getElem? (i := 813) (by decide +kernel), List.mem_of_getElem? (i := 814) (by decide +kernel), List.mem_of_getElem? (i := 815) (by decide +kernel)⟩
theorem iKok_1_46 : iKok 1 (46, mX2_joinedWith, 0, 1) := ⟨ok_mX2_joinedWith, by decide +kernel, List.mem_of_getElem? (i := 817) (by decide +kernel), List.mem_of_getElem? (i := 818) (by decide +kernel), List.mem_of_getElem? (i := 819) (by decide +kernel)⟩
theorem iKok_1_50 : iKok 1 (50, mX2_turned, 0, 0) := ⟨ok_mX2_turned, by decide +kernel, List.mem_of_getElem? (i := 821) (by decide +kernel), List.mem_of_getElem? (i := 786) (by decide +kernel), List.mem_of_getElem? (i := 787) (by decide +kernel)⟩
theorem iKok_1_54 : iKok 1 (54, mX2_isLike, 0, 1) := ⟨ok_mX2_isLike, by decide +kernel, List.mem_of_getElem? (i := 822) (by decide +kernel), List.mem_of_getElem? (i := 823) (by decide +kernel), List.mem_of_getElem? (i := 824) (by decide +kernel)⟩
theorem iKok_1_57 : iKok 1 (57, mX2_over, 0, 1) := ⟨ok_mX2_over, by decide +kernel, List.mem_of_getElem? (i := 834) (by decide +kernel), List.mem_of_getElem? (i := 835) (by decide +kernel), List.mem_of_getElem? (i := 836) (by decide +kernel)⟩
theorem iKok_1_61 : iKok 1 (61, mX2_fitted, 0, 1) := ⟨ok_mX2_fitted, by decide +kernel, List.mem_of_getElem? (i := 854) (by decide +kernel), List.mem_of_getElem? (i := 855) (by decide +kernel), List.mem_of_getElem? (i := 856) (by decide +kernel)⟩
theorem iKok_1_65 : iKok 1 (65, mX2_perform, 0, 1) := ⟨ok_mX2_perform, by decide +kernel, List.mem_of_getElem? (i := 859) (by decide +kernel), List.mem_of_getElem? (i := 572) (by decide +kernel), List.mem_of_getElem? (i := 573) (by decide +kernel)⟩
theorem iKok_1 : ∀ e ∈ iK 1, iKok 1 e := List.forall_mem_cons.mpr ⟨iKok_1_28, List.forall_mem_cons.mpr ⟨iKok_1_33, List.forall_mem_cons.mpr ⟨iKok_1_37, List.forall_mem_cons.mpr ⟨iKok_1_41, List.forall_mem_cons.mpr ⟨iKok_1_42, List.forall_mem_cons.mpr ⟨iKok_1_46, List.forall_mem_cons.mpr ⟨iKok_1_50, List.forall_mem_cons.mpr ⟨iKok_1_54, List.forall_mem_cons.mpr ⟨iKok_1_57, List.forall_mem_cons.mpr ⟨iKok_1_61, List.forall_mem_cons.mpr ⟨iKok_1_65, fun _ h => absurd h List.not_mem_nil⟩⟩⟩⟩⟩⟩⟩⟩⟩⟩⟩
theorem iKok_2_33 : iKok 2 (33, mX2_init, 2, 7) := ⟨ok_mX2_init, by decide +kernel, List.mem_of_getElem? (i := 534) (by decide +kernel), List.mem_of_getElem? (i := 535) (by decide +kernel), ⟨by decide +kernel, rfl⟩⟩
theorem iKok_2_36 : iKok 2 (36, mX2_name, 1, 3) := ⟨ok_mX2_name, by decide +kernel, List.mem_of_getElem? (i := 789) (by decide +kernel), List.mem_of_getElem? (i := 530) (by decide +kernel), trivial⟩
theorem iKok_2_40 : iKok 2 (40, mX2_give, 1, 4) := ⟨ok_mX2_give, by decide +kernel, List.mem_of_getElem? (i := 790) (by decide +kernel), List.mem_of_getElem? (i := 621) (by decide +kernel), trivial⟩
theorem iKok_2_44 : iKok 2 (44, mX2_take, 1, 4) := ⟨ok_mX2_take, by decide +kernel, List.mem_of_getElem? (i := 791) (by decide +kernel), List.mem_of_getElem? (i := 632) (by decide +kernel), trivial⟩
theorem iKok_2_47 : iKok 2 (47, mX2_move, 1, 5) := ⟨ok_mX2_move, by decide +kernel, List.mem_of_getElem? (i := 792) (by decide +kernel), List.mem_of_getElem? (i := 625) (by decide +kernel), trivial⟩
theorem iKok_2_51 : iKok 2 (51, mX7_whereOf, 0, 1) := ⟨ok_mX7_whereOf, by decide +kernel, List.mem_of_getElem? (i := 575) (by decide +kernel), List.mem_of_getElem? (i := 354) (by decide +kernel), List.mem_of_getElem? (i := 355) (by decide +kernel)⟩
theorem iKok_2_57 : iKok 2 (57, mX7_labelAt, 0, 1) := ⟨ok_mX7_labelAt, by decide +kernel, List.mem_of_getElem? (i := 740) (by decide +kernel), List.mem_of_getElem? (i := 400) (by decide +kernel), List.mem_of_getElem? (i := 401) (by decide +kernel)⟩
theorem iKok_2_60 : iKok 2 (60, mX2_fitsAsTake, 0, 2) := ⟨ok_mX2_fitsAsTake, by decide +kernel, List.mem_of_getElem? (i := 741) (by decide +kernel), List.mem_of_getElem? (i := 743) (by decide +kernel), List.mem_of_getElem? (i := 20) (by decide +kernel)⟩
theorem iKok_2_64 : iKok 2 (64, mX2_fitsAsGive, 0, 2) := ⟨ok_mX2_fitsAsGive, by decide +kernel, List.mem_of_getElem? (i := 748) (by decide +kernel), List.mem_of_getElem? (i := 750) (by decide +kernel), List.mem_of_getElem? (i := 21) (by decide +kernel)⟩
theorem iKok_2_67 : iKok 2 (67, mX2_fitsAsMove, 0, 2) := ⟨ok_mX2_fitsAsMove, by decide +kernel, List.mem_of_getElem? (i := 752) (by decide +kernel), List.mem_of_getElem? (i := 754) (by decide +kernel), List.mem_of_getElem? (i := 22) (by decide +kernel)⟩
theorem iKok_2_70 : iKok 2 (70, mX7_childCount, 0, 1) := ⟨ok_mX7_childCount, by decide +kernel, List.mem_of_getElem? (i := 745) (by decide +kernel), List.mem_of_getElem? (i := 417) (by decide +kernel), List.mem_of_getElem? (i := 418) (by decide +kernel)⟩
theorem iKok_2_73 : iKok 2 (73, mX7_parentKeyAt, 0, 1) := ⟨ok_mX7_parentKeyAt, by decide +kernel, List.mem_of_getElem? (i := 746) (by decide +kernel), List.mem_of_getElem? (i := 404) (by decide +kernel), List.mem_of_getElem? (i := 405) (by decide +kernel)⟩
theorem iKok_2_76 : iKok 2 (76, mX7_placeAt, 0, 1) := ⟨ok_mX7_placeAt, by decide +kernel, List.mem_of_getElem? (i := 747) (by decide +kernel), List.mem_of_getElem? (i := 413) (by decide +kernel), List.mem_of_getElem? (i := 414) (by decide +kernel)⟩
theorem iKok_2_82 : iKok 2 (82, mX7_isWithin, 0, 2) := ⟨ok_mX7_isWithin, by decide +kernel, List.mem_of_getElem? (i := 756) (by decide +kernel), List.mem_of_getElem? (i := 456) (by decide +kernel), List.mem_of_getElem? (i := 457) (by decide +kernel)⟩
theorem iKok_2_86 : iKok 2 (86, mX2_lastPlaceOfMove, 0, 3) := ⟨ok_mX2_lastPlaceOfMove, by decide +kernel, List.mem_of_getElem? (i := 757) (by decide +kernel), List.mem_of_getElem? (i := 759) (by decide +kernel), List.mem_of_getElem? (i := 23) (by decide +kernel)⟩
theorem iKok_2_90 : iKok 2 (90, mX7_parentAt, 0, 1) := ⟨ok_mX7_parentAt, by decide +kernel, List.mem_of_getElem? (i := 761) (by decide +kernel), List.mem_of_getElem? (i := 408) (by decide +kernel), List.mem_of_getElem? (i := 409) (by decide +kernel)⟩
theorem iKok_2_93 : iKok 2 (93, mX7_rename, 0, 2) := ⟨ok_mX7_rename, by decide +kernel, List.mem_of_getElem? (i := 576) (by decide +kernel), List.mem_of_getElem? (i := 577) (by decide +kernel), List.mem_of_getElem? (i := 578) (by decide +kernel)⟩
theorem iKok_2_97 : iKok 2 (97, mX7_remove, 0, 1) := ⟨ok_mX7_remove, by decide +kernel, List.mem_of_getElem? (i := 580) (by decide +kernel), List.mem_of_getElem? (i := 581) (by decide +kernel), List.mem_of_getElem? (i := 582) (by decide +kernel)⟩
theorem iKok_2_101 : iKok 2 (101, mX7_spot, 0, 3) := ⟨ok_mX7_spot, by decide +kernel, List.mem_of_getElem? (i := 584) (by decide +kernel), List.mem_of_getElem? (i := 442) (by decide +kernel), List.mem_of_getElem? (i := 443) (by decide +kernel)⟩
theorem iKok_2_105 : iKok 2 (105, mX7_depthAt, 0, 1) := ⟨ok_mX7_depthAt, by decide +kernel, List.mem_of_getElem? (i := 585) (by decide +kernel), List.mem_of_getElem? (i := 421) (by decide +kernel), List.mem_of_getElem? (i := 422) (by decide +kernel)⟩
theorem iKok_2_108 : iKok 2 (108, mX7_insert, 0, 4) := ⟨ok_mX7_insert, by decide +kernel, List.mem_of_getElem? (i := 586) (by decide +kernel), List.mem_of_getElem? (i := 358) (by decide +kernel), List.mem_of_getElem? (i := 359) (by decide +kernel)⟩
theorem iKok_2_112 : iKok 2 (112, mX7_carry, 0, 3) := ⟨ok_mX7_carry, by decide +kernel, List.mem_of_getElem? (i := 587) (by decide +kernel), List.mem_of_getElem? (i := 588) (by decide +kernel), List.mem_of_getElem? (i := 589) (by decide +kernel)⟩
theorem iKok_2_116 : iKok 2 (116, mX2_nameOver, 0, 2) := ⟨ok_mX2_nameOver, by decide +kernel, List.mem_of_getElem? (i := 838) (by decide +kernel), List.mem_of_getElem? (i := 840) (by decide +kernel), List.mem_of_getElem? (i := 24) (by decide +kernel)⟩
theorem iKok_2_120 : iKok 2 (120, mX2_takeOver, 0, 2) := ⟨ok_mX2_takeOver, by decide +kernel, List.mem_of_getElem? (i := 842) (by decide +kernel), List.mem_of_getElem? (i := 844) (by decide +kernel), List.mem_of_getElem? (i := 25) (by decide +kernel)⟩
theorem iKok_2_123 : iKok 2 (123, mX2_giveOver, 0, 2) := ⟨ok_mX2_giveOver, by decide +kernel, List.mem_of_getElem? (i := 846) (by decide +kernel), List.mem_of_getElem? (i := 848) (by decide +kernel), List.mem_of_getElem? (i := 26) (by decide +kernel)⟩
theorem iKok_2_126 : iKok 2 (126, mX2_moveOver, 0, 2) := ⟨ok_mX2_moveOver, by decide +kernel, List.mem_of_getElem? (i := 850) (by decide +kernel), List.mem_of_getElem? (i := 852) (by decide +kernel), List.mem_of_getElem? (i := 27) (by decide +kernel)⟩
theorem iKok_2 : ∀ e ∈ iK 2, iKok 2 e := List.forall_mem_cons.mpr ⟨iKok_2_33, List.forall_mem_cons.mpr ⟨iKok_2_36, List.forall_mem_cons.mpr ⟨iKok_2_40, List.forall_mem_cons.mpr ⟨iKok_2_44, List.forall_mem_cons.mpr ⟨iKok_2_47, List.forall_mem_cons.mpr ⟨iKok_2_51, List.forall_mem_cons.mpr ⟨iKok_2_57, List.forall_mem_cons.mpr ⟨iKok_2_60, List.forall_mem_cons.mpr ⟨iKok_2_64, List.forall_mem_cons.mpr ⟨iKok_2_67, List.forall_mem_cons.mpr ⟨iKok_2_70, List.forall_mem_cons.mpr ⟨iKok_2_73, List.forall_mem_cons.mpr ⟨iKok_2_76, List.forall_mem_cons.mpr ⟨iKok_2_82, List.forall_mem_cons.mpr ⟨iKok_2_86, List.forall_mem_cons.mpr ⟨iKok_2_90, List.forall_mem_cons.mpr ⟨iKok_2_93, List.forall_mem_cons.mpr ⟨iKok_2_97, List.forall_mem_cons.mpr ⟨iKok_2_101, List.forall_mem_cons.mpr ⟨iKok_2_105, List.forall_mem_cons.mpr ⟨iKok_2_108, List.forall_mem_cons.mpr ⟨iKok_2_112, List.forall_mem_cons.mpr ⟨iKok_2_116, List.forall_mem_cons.mpr ⟨iKok_2_120, List.forall_mem_cons.mpr ⟨iKok_2_123, List.forall_mem_cons.mpr ⟨iKok_2_126, fun _ h => absurd h List.not_mem_nil⟩⟩⟩⟩⟩⟩⟩⟩⟩⟩⟩⟩⟩⟩⟩⟩⟩⟩⟩⟩⟩⟩⟩⟩⟩⟩
theorem iKok_3_9 : iKok 3 (9, mX1_takeEdits, 0, 0) := ⟨ok_mX1_takeEdits, by decide +kernel, List.mem_of_getElem? (i := 644) (by decide +kernel), List.mem_of_getElem? (i := 645) (by decide +kernel), List.mem_of_getElem? (i := 646) (by decide +kernel)⟩
theorem iKok_3_21 : iKok 3 (21, mX1_takeConflicts, 0, 0) := ⟨ok_mX1_takeConflicts, by decide +kernel, List.mem_of_getElem? (i := 652) (by decide +kernel), List.mem_of_getElem? (i := 653) (by decide +kernel), List.mem_of_getElem? (i := 654) (by decide +kernel)⟩
theorem iKok_3_39 : iKok 3 (39, mX3_conflictCount, 0, 0) := ⟨ok_mX3_conflictCount, by decide +kernel, List.mem_of_getElem? (i := 277) (by decide +kernel), List.mem_of_getElem? (i := 278) (by decide +kernel), List.mem_of_getElem? (i := 279) (by decide +kernel)⟩
theorem iKok_3_51 : iKok 3 (51, mX2_fits, 0, 1) := ⟨ok_mX2_fits, by decide +kernel, List.mem_of_getElem? (i := 736) (by decide +kernel), List.mem_of_getElem? (i := 737) (by decide +kernel), List.mem_of_getElem? (i := 738) (by decide +kernel)⟩
theorem iKok_3_55 : iKok 3 (55, mX2_perform, 0, 1) := ⟨ok_mX2_perform, by decide +kernel, List.mem_of_getElem? (i := 762) (by decide +kernel), List.mem_of_getElem? (i := 572) (by decide +kernel), List.mem_of_getElem? (i := 573) (by decide +kernel)⟩
theorem iKok_3 : ∀ e ∈ iK 3, iKok 3 e := List.forall_mem_cons.mpr ⟨iKok_3_9, List.forall_mem_cons.mpr ⟨iKok_3_21, List.forall_mem_cons.mpr ⟨iKok_3_39, List.forall_mem_cons.mpr ⟨iKok_3_51, List.forall_mem_cons.mpr ⟨iKok_3_55, fun _ h => absurd h List.not_mem_nil⟩⟩⟩⟩⟩
theorem iKok_4_11 : iKok 4 (11, mX7_init, 2, 0) := ⟨ok_mX7_init, by decide +kernel, List.mem_of_getElem? (i := 293) (by decide +kernel), List.mem_of_getElem? (i := 294) (by decide +kernel), ⟨by decide +kernel, rfl⟩⟩
theorem iKok_4_29 : iKok 4 (29, mX5_length, 0, 0) := ⟨ok_mX5_length, by decide +kernel, List.mem_of_getElem? (i := 333) (by decide +kernel), List.mem_of_getElem? (i := 334) (by decide +kernel), List.mem_of_getElem? (i := 335) (by decide +kernel)⟩
theorem iKok_4_35 : iKok 4 (35, mX4_readNode, 0, 0) := ⟨ok_mX4_readNode, by decide +kernel, List.mem_of_getElem? (i := 337) (by decide +kernel), List.mem_of_getElem? (i := 339) (by decide +kernel), List.mem_of_getElem? (i := 5) (by decide +kernel)⟩
theorem iKok_4_38 : iKok 4 (38, mX4_readSign, 0, 1) := ⟨ok_mX4_readSign, by decide +kernel, List.mem_of_getElem? (i := 362) (by decide +kernel), List.mem_of_getElem? (i := 364) (by decide +kernel), List.mem_of_getElem? (i := 7) (by decide +kernel)⟩
theorem iKok_4_42 : iKok 4 (42, mX5_intAt, 0, 1) := ⟨ok_mX5_intAt, by decide +kernel, List.mem_of_getElem? (i := 341) (by decide +kernel), List.mem_of_getElem? (i := 342) (by decide +kernel), List.mem_of_getElem? (i := 343) (by decide +kernel)⟩
theorem iKok_4_45 : iKok 4 (45, mX8_isLabel, 4, 1) := ⟨ok_mX8_isLabel, by decide +kernel, List.mem_of_getElem? (i := 346) (by decide +kernel), List.mem_of_getElem? (i := 347) (by decide +kernel), trivial⟩
theorem iKok_4_52 : iKok 4 (52, mX4_isDigit, 0, 1) := ⟨ok_mX4_isDigit, by decide +kernel, List.mem_of_getElem? (i := 349) (by decide +kernel), List.mem_of_getElem? (i := 351) (by decide +kernel), List.mem_of_getElem? (i := 6) (by decide +kernel)⟩
theorem iKok_4_55 : iKok 4 (55, mX7_whereOf, 0, 1) := ⟨ok_mX7_whereOf, by decide +kernel, List.mem_of_getElem? (i := 353) (by decide +kernel), List.mem_of_getElem? (i := 354) (by decide +kernel), List.mem_of_getElem? (i := 355) (by decide +kernel)⟩
theorem iKok_4_58 : iKok 4 (58, mX7_insert, 0, 4) := ⟨ok_mX7_insert, by decide +kernel, List.mem_of_getElem? (i := 357) (by decide +kernel), List.mem_of_getElem? (i := 358) (by decide +kernel), List.mem_of_getElem? (i := 359) (by decide +kernel)⟩
theorem iKok_4 : ∀ e ∈ iK 4, iKok 4 e := List.forall_mem_cons.mpr ⟨iKok_4_11, List.forall_mem_cons.mpr ⟨iKok_4_29, List.forall_mem_cons.mpr ⟨iKok_4_35, List.forall_mem_cons.mpr ⟨iKok_4_38, List.forall_mem_cons.mpr ⟨iKok_4_42, List.forall_mem_cons.mpr ⟨iKok_4_45, List.forall_mem_cons.mpr ⟨iKok_4_52, List.forall_mem_cons.mpr ⟨iKok_4_55, List.forall_mem_cons.mpr ⟨iKok_4_58, fun _ h => absurd h List.not_mem_nil⟩⟩⟩⟩⟩⟩⟩⟩⟩
theorem iKok_5_19 : iKok 5 (19, mX5_has, 0, 1) := ⟨ok_mX5_has, by decide +kernel, List.mem_of_getElem? (i := 225) (by decide +kernel), List.mem_of_getElem? (i := 218) (by decide +kernel), List.mem_of_getElem? (i := 219) (by decide +kernel)⟩
theorem iKok_5_23 : iKok 5 (23, mX5_longAt, 0, 1) := ⟨ok_mX5_longAt, by decide +kernel, List.mem_of_getElem? (i := 345) (by decide +kernel), List.mem_of_getElem? (i := 246) (by decide +kernel), List.mem_of_getElem? (i := 247) (by decide +kernel)⟩
theorem iKok_5_27 : iKok 5 (27, mX5_cutToSort, 0, 1) := ⟨ok_mX5_cutToSort, by decide +kernel, List.mem_of_getElem? (i := 226) (by decide +kernel), List.mem_of_getElem? (i := 228) (by decide +kernel), List.mem_of_getElem? (i := 3) (by decide +kernel)⟩
theorem iKok_5 : ∀ e ∈ iK 5, iKok 5 e := List.forall_mem_cons.mpr ⟨iKok_5_19, List.forall_mem_cons.mpr ⟨iKok_5_23, List.forall_mem_cons.mpr ⟨iKok_5_27, fun _ h => absurd h List.not_mem_nil⟩⟩⟩
theorem iKok_6_33 : iKok 6 (33, mX6_treeAt, 0, 1) := ⟨ok_mX6_treeAt, by decide +kernel, List.mem_of_getElem? (i := 933) (by decide +kernel), List.mem_of_getElem? (i := 383) (by decide +kernel), List.mem_of_getElem? (i := 384) (by decide +kernel)⟩
theorem iKok_6_40 : iKok 6 (40, mX6_patchAt, 0, 1) := ⟨ok_mX6_patchAt, by decide +kernel, List.mem_of_getElem? (i := 938) (by decide +kernel), List.mem_of_getElem? (i := 258) (by decide +kernel), List.mem_of_getElem? (i := 259) (by decide +kernel)⟩
theorem iKok_6_44 : iKok 6 (44, mX3_size, 0, 0) := ⟨ok_mX3_size, by decide +kernel, List.mem_of_getElem? (i := 939) (by decide +kernel), List.mem_of_getElem? (i := 699) (by decide +kernel), List.mem_of_getElem? (i := 700) (by decide +kernel)⟩
theorem iKok_6 : ∀ e ∈ iK 6, iKok 6 e := List.forall_mem_cons.mpr ⟨iKok_6_33, List.forall_mem_cons.mpr ⟨iKok_6_40, List.forall_mem_cons.mpr ⟨iKok_6_44, fun _ h => absurd h List.not_mem_nil⟩⟩⟩
theorem iKok_7_31 : iKok 7 (31, mX7_has, 0, 1) := ⟨ok_mX7_has, by decide +kernel, List.mem_of_getElem? (i := 398) (by decide +kernel), List.mem_of_getElem? (i := 391) (by decide +kernel), List.mem_of_getElem? (i := 392) (by decide +kernel)⟩
theorem iKok_7_35 : iKok 7 (35, mX7_parentAt, 0, 1) := ⟨ok_mX7_parentAt, by decide +kernel, List.mem_of_getElem? (i := 407) (by decide +kernel), List.mem_of_getElem? (i := 408) (by decide +kernel), List.mem_of_getElem? (i := 409) (by decide +kernel)⟩
theorem iKok_7_39 : iKok 7 (39, mX7_keyAt, 0, 1) := ⟨ok_mX7_keyAt, by decide +kernel, List.mem_of_getElem? (i := 411) (by decide +kernel), List.mem_of_getElem? (i := 395) (by decide +kernel), List.mem_of_getElem? (i := 396) (by decide +kernel)⟩
theorem iKok_7_42 : iKok 7 (42, mX7_endOf, 0, 1) := ⟨ok_mX7_endOf, by decide +kernel, List.mem_of_getElem? (i := 445) (by decide +kernel), List.mem_of_getElem? (i := 425) (by decide +kernel), List.mem_of_getElem? (i := 426) (by decide +kernel)⟩
theorem iKok_7_45 : iKok 7 (45, mX7_depthAt, 0, 1) := ⟨ok_mX7_depthAt, by decide +kernel, List.mem_of_getElem? (i := 446) (by decide +kernel), List.mem_of_getElem? (i := 421) (by decide +kernel), List.mem_of_getElem? (i := 422) (by decide +kernel)⟩
theorem iKok_7_48 : iKok 7 (48, mX7_isWithin, 0, 2) := ⟨ok_mX7_isWithin, by decide +kernel, List.mem_of_getElem? (i := 455) (by decide +kernel), List.mem_of_getElem? (i := 456) (by decide +kernel), List.mem_of_getElem? (i := 457) (by decide +kernel)⟩
theorem iKok_7_58 : iKok 7 (58, mX5_intAt, 0, 1) := ⟨ok_mX5_intAt, by decide +kernel, List.mem_of_getElem? (i := 893) (by decide +kernel), List.mem_of_getElem? (i := 342) (by decide +kernel), List.mem_of_getElem? (i := 343) (by decide +kernel)⟩
theorem iKok_7_63 : iKok 7 (63, mX7_turnRound, 0, 2) := ⟨ok_mX7_turnRound, by decide +kernel, List.mem_of_getElem? (i := 591) (by decide +kernel), List.mem_of_getElem? (i := 593) (by decide +kernel), List.mem_of_getElem? (i := 12) (by decide +kernel)⟩
theorem iKok_7 : ∀ e ∈ iK 7, iKok 7 e := List.forall_mem_cons.mpr ⟨iKok_7_31, List.forall_mem_cons.mpr ⟨iKok_7_35, List.forall_mem_cons.mpr ⟨iKok_7_39, List.forall_mem_cons.mpr ⟨iKok_7_42, List.forall_mem_cons.mpr ⟨iKok_7_45, List.forall_mem_cons.mpr ⟨iKok_7_48, List.forall_mem_cons.mpr ⟨iKok_7_58, List.forall_mem_cons.mpr ⟨iKok_7_63, fun _ h => absurd h List.not_mem_nil⟩⟩⟩⟩⟩⟩⟩⟩
theorem iKok_8_24 : iKok 8 (24, mX1_init, 3, 0) := ⟨ok_mX1_init, by decide +kernel, List.mem_of_getElem? (i := 104) (by decide +kernel), List.mem_of_getElem? (i := 105) (by decide +kernel), ⟨by decide +kernel, rfl⟩⟩
theorem iKok_8_31 : iKok 8 (31, mX6_init, 2, 0) := ⟨ok_mX6_init, by decide +kernel, List.mem_of_getElem? (i := 127) (by decide +kernel), List.mem_of_getElem? (i := 128) (by decide +kernel), ⟨by decide +kernel, rfl⟩⟩
theorem iKok_8_46 : iKok 8 (46, mX8_isShelf, 1, 1) := ⟨ok_mX8_isShelf, by decide +kernel, List.mem_of_getElem? (i := 183) (by decide +kernel), List.mem_of_getElem? (i := 184) (by decide +kernel), trivial⟩
theorem iKok_8_50 : iKok 8 (50, mX8_refuse, 0, 1) := ⟨ok_mX8_refuse, by decide +kernel, List.mem_of_getElem? (i := 186) (by decide +kernel), List.mem_of_getElem? (i := 188) (by decide +kernel), List.mem_of_getElem? (i := 0) (by decide +kernel)⟩
theorem iKok_8_54 : iKok 8 (54, mX5_init, 2, 2) := ⟨ok_mX5_init, by decide +kernel, List.mem_of_getElem? (i := 191) (by decide +kernel), List.mem_of_getElem? (i := 192) (by decide +kernel), ⟨by decide +kernel, rfl⟩⟩
theorem iKok_8_57 : iKok 8 (57, mX8_rowAt, 0, 1) := ⟨ok_mX8_rowAt, by decide +kernel, List.mem_of_getElem? (i := 209) (by decide +kernel), List.mem_of_getElem? (i := 211) (by decide +kernel), List.mem_of_getElem? (i := 1) (by decide +kernel)⟩
theorem iKok_8_61 : iKok 8 (61, mX8_whyNoRow, 0, 1) := ⟨ok_mX8_whyNoRow, by decide +kernel, List.mem_of_getElem? (i := 213) (by decide +kernel), List.mem_of_getElem? (i := 215) (by decide +kernel), List.mem_of_getElem? (i := 2) (by decide +kernel)⟩
theorem iKok_8_64 : iKok 8 (64, mX5_has, 0, 1) := ⟨ok_mX5_has, by decide +kernel, List.mem_of_getElem? (i := 217) (by decide +kernel), List.mem_of_getElem? (i := 218) (by decide +kernel), List.mem_of_getElem? (i := 219) (by decide +kernel)⟩
theorem iKok_8_67 : iKok 8 (67, mX5_keep, 0, 2) := ⟨ok_mX5_keep, by decide +kernel, List.mem_of_getElem? (i := 221) (by decide +kernel), List.mem_of_getElem? (i := 222) (by decide +kernel), List.mem_of_getElem? (i := 223) (by decide +kernel)⟩
theorem iKok_8_74 : iKok 8 (74, mX5_hasRun, 0, 2) := ⟨ok_mX5_hasRun, by decide +kernel, List.mem_of_getElem? (i := 234) (by decide +kernel), List.mem_of_getElem? (i := 235) (by decide +kernel), List.mem_of_getElem? (i := 236) (by decide +kernel)⟩
theorem iKok_8_88 : iKok 8 (88, mX5_longAt, 0, 1) := ⟨ok_mX5_longAt, by decide +kernel, List.mem_of_getElem? (i := 245) (by decide +kernel), List.mem_of_getElem? (i := 246) (by decide +kernel), List.mem_of_getElem? (i := 247) (by decide +kernel)⟩
theorem iKok_8_92 : iKok 8 (92, mX8_patchAt, 0, 1) := ⟨ok_mX8_patchAt, by decide +kernel, List.mem_of_getElem? (i := 253) (by decide +kernel), List.mem_of_getElem? (i := 255) (by decide +kernel), List.mem_of_getElem? (i := 4) (by decide +kernel)⟩
theorem iKok_8_96 : iKok 8 (96, mX3_isOf, 0, 1) := ⟨ok_mX3_isOf, by decide +kernel, List.mem_of_getElem? (i := 269) (by decide +kernel), List.mem_of_getElem? (i := 270) (by decide +kernel), List.mem_of_getElem? (i := 271) (by decide +kernel)⟩
theorem iKok_8_101 : iKok 8 (101, mX3_saysAs, 0, 1) := ⟨ok_mX3_saysAs, by decide +kernel, List.mem_of_getElem? (i := 273) (by decide +kernel), List.mem_of_getElem? (i := 274) (by decide +kernel), List.mem_of_getElem? (i := 275) (by decide +kernel)⟩
theorem iKok_8_106 : iKok 8 (106, mX4_init, 2, 1) := ⟨ok_mX4_init, by decide +kernel, List.mem_of_getElem? (i := 287) (by decide +kernel), List.mem_of_getElem? (i := 288) (by decide +kernel), ⟨by decide +kernel, rfl⟩⟩
theorem iKok_8_109 : iKok 8 (109, mX4_read, 0, 0) := ⟨ok_mX4_read, by decide +kernel, List.mem_of_getElem? (i := 329) (by decide +kernel), List.mem_of_getElem? (i := 330) (by decide +kernel), List.mem_of_getElem? (i := 331) (by decide +kernel)⟩
theorem iKok_8_117 : iKok 8 (117, mX6_addTree, 0, 1) := ⟨ok_mX6_addTree, by decide +kernel, List.mem_of_getElem? (i := 366) (by decide +kernel), List.mem_of_getElem? (i := 367) (by decide +kernel), List.mem_of_getElem? (i := 368) (by decide +kernel)⟩
theorem iKok_8_121 : iKok 8 (121, mX8_treeAt, 0, 1) := ⟨ok_mX8_treeAt, by decide +kernel, List.mem_of_getElem? (i := 378) (by decide +kernel), List.mem_of_getElem? (i := 380) (by decide +kernel), List.mem_of_getElem? (i := 8) (by decide +kernel)⟩
theorem iKok_8_130 : iKok 8 (130, mX7_has, 0, 1) := ⟨ok_mX7_has, by decide +kernel, List.mem_of_getElem? (i := 390) (by decide +kernel), List.mem_of_getElem? (i := 391) (by decide +kernel), List.mem_of_getElem? (i := 392) (by decide +kernel)⟩
theorem iKok_8_131 : iKok 8 (131, mX7_keyAt, 0, 1) := ⟨ok_mX7_keyAt, by decide +kernel, List.mem_of_getElem? (i := 394) (by decide +kernel), List.mem_of_getElem? (i := 395) (by decide +kernel), List.mem_of_getElem? (i := 396) (by decide +kernel)⟩
theorem iKok_8_134 : iKok 8 (134, mX7_labelAt, 0, 1) := ⟨ok_mX7_labelAt, by decide +kernel, List.mem_of_getElem? (i := 399) (by decide +kernel), List.mem_of_getElem? (i := 400) (by decide +kernel), List.mem_of_getElem? (i := 401) (by decide +kernel)⟩
theorem iKok_8_137 : iKok 8 (137, mX7_parentKeyAt, 0, 1) := ⟨ok_mX7_parentKeyAt, by decide +kernel, List.mem_of_getElem? (i := 403) (by decide +kernel), List.mem_of_getElem? (i := 404) (by decide +kernel), List.mem_of_getElem? (i := 405) (by decide +kernel)⟩
theorem iKok_8_140 : iKok 8 (140, mX7_placeAt, 0, 1) := ⟨ok_mX7_placeAt, by decide +kernel, List.mem_of_getElem? (i := 412) (by decide +kernel), List.mem_of_getElem? (i := 413) (by decide +kernel), List.mem_of_getElem? (i := 414) (by decide +kernel)⟩
theorem iKok_8_143 : iKok 8 (143, mX7_childCount, 0, 1) := ⟨ok_mX7_childCount, by decide +kernel, List.mem_of_getElem? (i := 416) (by decide +kernel), List.mem_of_getElem? (i := 417) (by decide +kernel), List.mem_of_getElem? (i := 418) (by decide +kernel)⟩
theorem iKok_8_146 : iKok 8 (146, mX7_depthAt, 0, 1) := ⟨ok_mX7_depthAt, by decide +kernel, List.mem_of_getElem? (i := 420) (by decide +kernel), List.mem_of_getElem? (i := 421) (by decide +kernel), List.mem_of_getElem? (i := 422) (by decide +kernel)⟩
theorem iKok_8_149 : iKok 8 (149, mX7_endOf, 0, 1) := ⟨ok_mX7_endOf, by decide +kernel, List.mem_of_getElem? (i := 424) (by decide +kernel), List.mem_of_getElem? (i := 425) (by decide +kernel), List.mem_of_getElem? (i := 426) (by decide +kernel)⟩
theorem iKok_8_152 : iKok 8 (152, mX8_refuseLower, 0, 1) := ⟨ok_mX8_refuseLower, by decide +kernel, List.mem_of_getElem? (i := 432) (by decide +kernel), List.mem_of_getElem? (i := 434) (by decide +kernel), List.mem_of_getElem? (i := 9) (by decide +kernel)⟩
theorem iKok_8_155 : iKok 8 (155, mX7_whereOf, 0, 1) := ⟨ok_mX7_whereOf, by decide +kernel, List.mem_of_getElem? (i := 436) (by decide +kernel), List.mem_of_getElem? (i := 354) (by decide +kernel), List.mem_of_getElem? (i := 355) (by decide +kernel)⟩
theorem iKok_8_158 : iKok 8 (158, mX7_spot, 0, 3) := ⟨ok_mX7_spot, by decide +kernel, List.mem_of_getElem? (i := 441) (by decide +kernel), List.mem_of_getElem? (i := 442) (by decide +kernel), List.mem_of_getElem? (i := 443) (by decide +kernel)⟩
theorem iKok_8_162 : iKok 8 (162, mX7_lowestOver, 0, 2) := ⟨ok_mX7_lowestOver, by decide +kernel, List.mem_of_getElem? (i := 451) (by decide +kernel), List.mem_of_getElem? (i := 452) (by decide +kernel), List.mem_of_getElem? (i := 453) (by decide +kernel)⟩
theorem iKok_8_166 : iKok 8 (166, mX7_firstUnlike, 0, 1) := ⟨ok_mX7_firstUnlike, by decide +kernel, List.mem_of_getElem? (i := 463) (by decide +kernel), List.mem_of_getElem? (i := 464) (by decide +kernel), List.mem_of_getElem? (i := 465) (by decide +kernel)⟩
theorem iKok_8_172 : iKok 8 (172, mX6_dropTree, 0, 0) := ⟨ok_mX6_dropTree, by decide +kernel, List.mem_of_getElem? (i := 474) (by decide +kernel), List.mem_of_getElem? (i := 475) (by decide +kernel), List.mem_of_getElem? (i := 476) (by decide +kernel)⟩
theorem iKok_8_175 : iKok 8 (175, mX0_draftInto, 1, 3) := ⟨ok_mX0_draftInto, by decide +kernel, List.mem_of_getElem? (i := 482) (by decide +kernel), List.mem_of_getElem? (i := 483) (by decide +kernel), trivial⟩
theorem iKok_8_181 : iKok 8 (181, mX8_keepDraft, 0, 2) := ⟨ok_mX8_keepDraft, by decide +kernel, List.mem_of_getElem? (i := 634) (by decide +kernel), List.mem_of_getElem? (i := 636) (by decide +kernel), List.mem_of_getElem? (i := 19) (by decide +kernel)⟩
theorem iKok_8_185 : iKok 8 (185, mX1_countOf, 0, 1) := ⟨ok_mX1_countOf, by decide +kernel, List.mem_of_getElem? (i := 686) (by decide +kernel), List.mem_of_getElem? (i := 687) (by decide +kernel), List.mem_of_getElem? (i := 688) (by decide +kernel)⟩
theorem iKok_8_188 : iKok 8 (188, mX3_size, 0, 0) := ⟨ok_mX3_size, by decide +kernel, List.mem_of_getElem? (i := 698) (by decide +kernel), List.mem_of_getElem? (i := 699) (by decide +kernel), List.mem_of_getElem? (i := 700) (by decide +kernel)⟩
theorem iKok_8_193 : iKok 8 (193, mX3_countOf, 0, 1) := ⟨ok_mX3_countOf, by decide +kernel, List.mem_of_getElem? (i := 702) (by decide +kernel), List.mem_of_getElem? (i := 703) (by decide +kernel), List.mem_of_getElem? (i := 704) (by decide +kernel)⟩
theorem iKok_8_194 : iKok 8 (194, mX3_editAt, 0, 1) := ⟨ok_mX3_editAt, by decide +kernel, List.mem_of_getElem? (i := 710) (by decide +kernel), List.mem_of_getElem? (i := 711) (by decide +kernel), List.mem_of_getElem? (i := 712) (by decide +kernel)⟩
theorem iKok_8_198 : iKok 8 (198, mX2_told, 0, 1) := ⟨ok_mX2_told, by decide +kernel, List.mem_of_getElem? (i := 714) (by decide +kernel), List.mem_of_getElem? (i := 715) (by decide +kernel), List.mem_of_getElem? (i := 716) (by decide +kernel)⟩
theorem iKok_8_203 : iKok 8 (203, mX3_keyBits, 0, 1) := ⟨ok_mX3_keyBits, by decide +kernel, List.mem_of_getElem? (i := 722) (by decide +kernel), List.mem_of_getElem? (i := 723) (by decide +kernel), List.mem_of_getElem? (i := 724) (by decide +kernel)⟩
theorem iKok_8_206 : iKok 8 (206, mX7_init_, 2, 1) := ⟨ok_mX7_init_, by decide +kernel, List.mem_of_getElem? (i := 731) (by decide +kernel), List.mem_of_getElem? (i := 498) (by decide +kernel), ⟨by decide +kernel, rfl⟩⟩
theorem iKok_8_209 : iKok 8 (209, mX3_changeUntilMisfit, 0, 1) := ⟨ok_mX3_changeUntilMisfit, by decide +kernel, List.mem_of_getElem? (i := 732) (by decide +kernel), List.mem_of_getElem? (i := 733) (by decide +kernel), List.mem_of_getElem? (i := 734) (by decide +kernel)⟩
theorem iKok_8_212 : iKok 8 (212, mX6_replaceTree, 0, 2) := ⟨ok_mX6_replaceTree, by decide +kernel, List.mem_of_getElem? (i := 763) (by decide +kernel), List.mem_of_getElem? (i := 764) (by decide +kernel), List.mem_of_getElem? (i := 765) (by decide +kernel)⟩
theorem iKok_8_216 : iKok 8 (216, mX3_conflictCount, 0, 0) := ⟨ok_mX3_conflictCount, by decide +kernel, List.mem_of_getElem? (i := 775) (by decide +kernel), List.mem_of_getElem? (i := 278) (by decide +kernel), List.mem_of_getElem? (i := 279) (by decide +kernel)⟩
theorem iKok_8_219 : iKok 8 (219, mX3_conflictAt, 0, 2) := ⟨ok_mX3_conflictAt, by decide +kernel, List.mem_of_getElem? (i := 776) (by decide +kernel), List.mem_of_getElem? (i := 777) (by decide +kernel), List.mem_of_getElem? (i := 778) (by decide +kernel)⟩
theorem iKok_8_222 : iKok 8 (222, mX1_clear, 0, 0) := ⟨ok_mX1_clear, by decide +kernel, List.mem_of_getElem? (i := 784) (by decide +kernel), List.mem_of_getElem? (i := 487) (by decide +kernel), List.mem_of_getElem? (i := 488) (by decide +kernel)⟩
theorem iKok_8_225 : iKok 8 (225, mX2_turned, 0, 0) := ⟨ok_mX2_turned, by decide +kernel, List.mem_of_getElem? (i := 785) (by decide +kernel), List.mem_of_getElem? (i := 786) (by decide +kernel), List.mem_of_getElem? (i := 787) (by decide +kernel)⟩
theorem iKok_8_229 : iKok 8 (229, mX1_add, 0, 1) := ⟨ok_mX1_add, by decide +kernel, List.mem_of_getElem? (i := 793) (by decide +kernel), List.mem_of_getElem? (i := 568) (by decide +kernel), List.mem_of_getElem? (i := 569) (by decide +kernel)⟩
theorem iKok_8_233 : iKok 8 (233, mX1_addAll, 0, 1) := ⟨ok_mX1_addAll, by decide +kernel, List.mem_of_getElem? (i := 798) (by decide +kernel), List.mem_of_getElem? (i := 799) (by decide +kernel), List.mem_of_getElem? (i := 800) (by decide +kernel)⟩
theorem iKok_8_237 : iKok 8 (237, mX1_addSqueezed, 0, 1) := ⟨ok_mX1_addSqueezed, by decide +kernel, List.mem_of_getElem? (i := 809) (by decide +kernel), List.mem_of_getElem? (i := 810) (by decide +kernel), List.mem_of_getElem? (i := 811) (by decide +kernel)⟩
theorem iKok_8_240 : iKok 8 (240, mX1_addRebased, 0, 3) := ⟨ok_mX1_addRebased, by decide +kernel, List.mem_of_getElem? (i := 830) (by decide +kernel), List.mem_of_getElem? (i := 831) (by decide +kernel), List.mem_of_getElem? (i := 832) (by decide +kernel)⟩
theorem iKok_8_244 : iKok 8 (244, mX8_isLabel, 1, 1) := ⟨ok_mX8_isLabel, by decide +kernel, List.mem_of_getElem? (i := 864) (by decide +kernel), List.mem_of_getElem? (i := 347) (by decide +kernel), trivial⟩
theorem iKok_8_247 : iKok 8 (247, mX2_name, 1, 3) := ⟨ok_mX2_name, by decide +kernel, List.mem_of_getElem? (i := 865) (by decide +kernel), List.mem_of_getElem? (i := 530) (by decide +kernel), trivial⟩
theorem iKok_8_251 : iKok 8 (251, mX2_move, 1, 5) := ⟨ok_mX2_move, by decide +kernel, List.mem_of_getElem? (i := 870) (by decide +kernel), List.mem_of_getElem? (i := 625) (by decide +kernel), trivial⟩
theorem iKok_8_255 : iKok 8 (255, mX2_fits, 0, 1) := ⟨ok_mX2_fits, by decide +kernel, List.mem_of_getElem? (i := 871) (by decide +kernel), List.mem_of_getElem? (i := 737) (by decide +kernel), List.mem_of_getElem? (i := 738) (by decide +kernel)⟩
theorem iKok_8_262 : iKok 8 (262, mX6_forgetPatch, 0, 0) := ⟨ok_mX6_forgetPatch, by decide +kernel, List.mem_of_getElem? (i := 876) (by decide +kernel), List.mem_of_getElem? (i := 877) (by decide +kernel), List.mem_of_getElem? (i := 878) (by decide +kernel)⟩
theorem iKok_8_265 : iKok 8 (265, mX8_emptyVainShelves, 0, 0) := ⟨ok_mX8_emptyVainShelves, by decide +kernel, List.mem_of_getElem? (i := 880) (by decide +kernel), List.mem_of_getElem? (i := 882) (by decide +kernel), List.mem_of_getElem? (i := 28) (by decide +kernel)⟩
theorem iKok_8_268 : iKok 8 (268, mX5_length, 0, 0) := ⟨ok_mX5_length, by decide +kernel, List.mem_of_getElem? (i := 888) (by decide +kernel), List.mem_of_getElem? (i := 334) (by decide +kernel), List.mem_of_getElem? (i := 335) (by decide +kernel)⟩
theorem iKok_8_271 : iKok 8 (271, mX7_firstWrong, 0, 2) := ⟨ok_mX7_firstWrong, by decide +kernel, List.mem_of_getElem? (i := 889) (by decide +kernel), List.mem_of_getElem? (i := 890) (by decide +kernel), List.mem_of_getElem? (i := 891) (by decide +kernel)⟩
theorem iKok_8_275 : iKok 8 (275, mX8_passDay, 0, 1) := ⟨ok_mX8_passDay, by decide +kernel, List.mem_of_getElem? (i := 898) (by decide +kernel), List.mem_of_getElem? (i := 900) (by decide +kernel), List.mem_of_getElem? (i := 29) (by decide +kernel)⟩
theorem iKok_8_281 : iKok 8 (281, mX6_init_, 2, 1) := ⟨ok_mX6_init_, by decide +kernel, List.mem_of_getElem? (i := 918) (by decide +kernel), List.mem_of_getElem? (i := 919) (by decide +kernel), ⟨by decide +kernel, rfl⟩⟩
theorem iKok_8_284 : iKok 8 (284, mX6_nodeCount, 0, 0) := ⟨ok_mX6_nodeCount, by decide +kernel, List.mem_of_getElem? (i := 929) (by decide +kernel), List.mem_of_getElem? (i := 930) (by decide +kernel), List.mem_of_getElem? (i := 931) (by decide +kernel)⟩
theorem iKok_8_287 : iKok 8 (287, mX6_editCount, 0, 0) := ⟨ok_mX6_editCount, by decide +kernel, List.mem_of_getElem? (i := 934) (by decide +kernel), List.mem_of_getElem? (i := 935) (by decide +kernel), List.mem_of_getElem? (i := 936) (by decide +kernel)⟩
theorem iKok_8_290 : iKok 8 (290, mX8_fullShelves, 0, 0) := ⟨ok_mX8_fullShelves, by decide +kernel, List.mem_of_getElem? (i := 940) (by decide +kernel), List.mem_of_getElem? (i := 942) (by decide +kernel), List.mem_of_getElem? (i := 30) (by decide +kernel)⟩
theorem iKok_8_293 : iKok 8 (293, mX6_treeAt, 0, 1) := ⟨ok_mX6_treeAt, by decide +kernel, List.mem_of_getElem? (i := 382) (by decide +kernel), List.mem_of_getElem? (i := 383) (by decide +kernel), List.mem_of_getElem? (i := 384) (by decide +kernel)⟩
theorem iKok_8_294 : iKok 8 (294, mX6_patchAt, 0, 1) := ⟨ok_mX6_patchAt, by decide +kernel, List.mem_of_getElem? (i := 257) (by decide +kernel), List.mem_of_getElem? (i := 258) (by decide +kernel), List.mem_of_getElem? (i := 259) (by decide +kernel)⟩
theorem iKok_8_295 : iKok 8 (295, mX3_init, 2, 4) := ⟨ok_mX3_init, by decide +kernel, List.mem_of_getElem? (i := 640) (by decide +kernel), List.mem_of_getElem? (i := 641) (by decide +kernel), ⟨by decide +kernel, rfl⟩⟩
theorem iKok_8_298 : iKok 8 (298, mX6_addPatch, 0, 1) := ⟨ok_mX6_addPatch, by decide +kernel, List.mem_of_getElem? (i := 674) (by decide +kernel), List.mem_of_getElem? (i := 675) (by decide +kernel), List.mem_of_getElem? (i := 676) (by decide +kernel)⟩
theorem iKok_8_302 : iKok 8 (302, mX6_draw, 0, 1) := ⟨ok_mX6_draw, by decide +kernel, List.mem_of_getElem? (i := 902) (by decide +kernel), List.mem_of_getElem? (i := 903) (by decide +kernel), List.mem_of_getElem? (i := 904) (by decide +kernel)⟩
theorem iKok_8_305 : iKok 8 (305, mX7_insert, 0, 4) := ⟨ok_mX7_insert, by decide +kernel, List.mem_of_getElem? (i := 907) (by decide +kernel), List.mem_of_getElem? (i := 358) (by decide +kernel), List.mem_of_getElem? (i := 359) (by decide +kernel)⟩
theorem iKok_8_309 : iKok 8 (309, mX7_remove, 0, 1) := ⟨ok_mX7_remove, by decide +kernel, List.mem_of_getElem? (i := 908) (by decide +kernel), List.mem_of_getElem? (i := 581) (by decide +kernel), List.mem_of_getElem? (i := 582) (by decide +kernel)⟩
theorem iKok_8_313 : iKok 8 (313, mX7_rename, 0, 2) := ⟨ok_mX7_rename, by decide +kernel, List.mem_of_getElem? (i := 909) (by decide +kernel), List.mem_of_getElem? (i := 577) (by decide +kernel), List.mem_of_getElem? (i := 578) (by decide +kernel)⟩
theorem iKok_8 : ∀ e ∈ iK 8, iKok 8 e := List.forall_mem_cons.mpr ⟨iKok_8_24, List.forall_mem_cons.mpr ⟨iKok_8_31, List.forall_mem_cons.mpr ⟨iKok_8_46, List.forall_mem_cons.mpr ⟨iKok_8_50, List.forall_mem_cons.mpr ⟨iKok_8_54, List.forall_mem_cons.mpr ⟨iKok_8_57, List.forall_mem_cons.mpr ⟨iKok_8_61, List.forall_mem_cons.mpr ⟨iKok_8_64, List.forall_mem_cons.mpr ⟨iKok_8_67, List.forall_mem_cons.mpr ⟨iKok_8_74, List.forall_mem_cons.mpr ⟨iKok_8_88, List.forall_mem_cons.mpr ⟨iKok_8_92, List.forall_mem_cons.mpr ⟨iKok_8_96, List.forall_mem_cons.mpr ⟨iKok_8_101, List.forall_mem_cons.mpr ⟨iKok_8_106, List.forall_mem_cons.mpr ⟨iKok_8_109, List.forall_mem_cons.mpr ⟨iKok_8_117, List.forall_mem_cons.mpr ⟨iKok_8_121, List.forall_mem_cons.mpr ⟨iKok_8_130, List.forall_mem_cons.mpr ⟨iKok_8_131, List.forall_mem_cons.mpr ⟨iKok_8_134, List.forall_mem_cons.mpr ⟨iKok_8_137, List.forall_mem_cons.mpr ⟨iKok_8_140, List.forall_mem_cons.mpr ⟨iKok_8_143, List.forall_mem_cons.mpr ⟨iKok_8_146, List.forall_mem_cons.mpr ⟨iKok_8_149, List.forall_mem_cons.mpr ⟨iKok_8_152, List.forall_mem_cons.mpr ⟨iKok_8_155, List.forall_mem_cons.mpr ⟨iKok_8_158, List.forall_mem_cons.mpr ⟨iKok_8_162, List.forall_mem_cons.mpr ⟨iKok_8_166, List.forall_mem_cons.mpr ⟨iKok_8_172, List.forall_mem_cons.mpr ⟨iKok_8_175, List.forall_mem_cons.mpr ⟨iKok_8_181, List.forall_mem_cons.mpr ⟨iKok_8_185, List.forall_mem_cons.mpr ⟨iKok_8_188, List.forall_mem_cons.mpr ⟨iKok_8_193, List.forall_mem_cons.mpr ⟨iKok_8_194, List.forall_mem_cons.mpr ⟨iKok_8_198, List.forall_mem_cons.mpr ⟨iKok_8_203, List.forall_mem_cons.mpr ⟨iKok_8_206, List.forall_mem_cons.mpr ⟨iKok_8_209, List.forall_mem_cons.mpr ⟨iKok_8_212, List.forall_mem_cons.mpr ⟨iKok_8_216, List.forall_mem_cons.mpr ⟨iKok_8_219, List.forall_mem_cons.mpr ⟨iKok_8_222, List.forall_mem_cons.mpr ⟨iKok_8_225, List.forall_mem_cons.mpr ⟨iKok_8_229, List.forall_mem_cons.mpr ⟨iKok_8_233, List.forall_mem_cons.mpr ⟨iKok_8_237, List.forall_mem_cons.mpr ⟨iKok_8_240, List.forall_mem_cons.mpr ⟨iKok_8_244, List.forall_mem_cons.mpr ⟨iKok_8_247, List.forall_mem_cons.mpr ⟨iKok_8_251, List.forall_mem_cons.mpr ⟨iKok_8_255, List.forall_mem_cons.mpr ⟨iKok_8_262, List.forall_mem_cons.mpr ⟨iKok_8_265, List.forall_mem_cons.mpr ⟨iKok_8_268, List.forall_mem_cons.mpr ⟨iKok_8_271, List.forall_mem_cons.mpr ⟨iKok_8_275, List.forall_mem_cons.mpr ⟨iKok_8_281, List.forall_mem_cons.mpr ⟨iKok_8_284, List.forall_mem_cons.mpr ⟨iKok_8_287, List.forall_mem_cons.mpr ⟨iKok_8_290, List.forall_mem_cons.mpr ⟨iKok_8_293, List.forall_mem_cons.mpr ⟨iKok_8_294, List.forall_mem_cons.mpr ⟨iKok_8_295, List.forall_mem_cons.mpr ⟨iKok_8_298, List.forall_mem_cons.mpr ⟨iKok_8_302, List.forall_mem_cons.mpr ⟨iKok_8_305, List.forall_mem_cons.mpr ⟨iKok_8_309, List.forall_mem_cons.mpr ⟨iKok_8_313, fun _ h => absurd h List.not_mem_nil⟩⟩⟩⟩⟩⟩⟩⟩⟩⟩⟩⟩⟩⟩⟩⟩⟩⟩⟩⟩⟩⟩⟩⟩⟩⟩⟩⟩⟩⟩⟩⟩⟩⟩⟩⟩⟩⟩⟩⟩⟩⟩⟩⟩⟩⟩⟩⟩⟩⟩⟩⟩⟩⟩⟩⟩⟩⟩⟩⟩⟩⟩⟩⟩⟩⟩⟩⟩⟩⟩⟩⟩
theorem iKok_9_99 : iKok 9 (99, mX9_no, 0, 1) := ⟨ok_mX9_no, by decide +kernel, List.mem_of_getElem? (i := 1081) (by decide +kernel), List.mem_of_getElem? (i := 1083) (by decide +kernel), List.mem_of_getElem? (i := 31) (by decide +kernel)⟩
theorem iKok_9_106 : iKok 9 (106, mX9_within, 1, 3) := ⟨ok_mX9_within, by decide +kernel, List.mem_of_getElem? (i := 1078) (by decide +kernel), List.mem_of_getElem? (i := 1079) (by decide +kernel), trivial⟩
theorem iKok_9_113 : iKok 9 (113, mX9_isRow, 0, 1) := ⟨ok_mX9_isRow, by decide +kernel, List.mem_of_getElem? (i := 1093) (by decide +kernel), List.mem_of_getElem? (i := 1095) (by decide +kernel), List.mem_of_getElem? (i := 33) (by decide +kernel)⟩
theorem iKok_9_117 : iKok 9 (117, mX9_noRow, 0, 1) := ⟨ok_mX9_noRow, by decide +kernel, List.mem_of_getElem? (i := 1089) (by decide +kernel), List.mem_of_getElem? (i := 1091) (by decide +kernel), List.mem_of_getElem? (i := 32) (by decide +kernel)⟩
theorem iKok_9_120 : iKok 9 (120, mX9_isPatch, 0, 1) := ⟨ok_mX9_isPatch, by decide +kernel, List.mem_of_getElem? (i := 1109) (by decide +kernel), List.mem_of_getElem? (i := 1111) (by decide +kernel), List.mem_of_getElem? (i := 34) (by decide +kernel)⟩
theorem iKok_9_123 : iKok 9 (123, mX9_of, 0, 2) := ⟨ok_mX9_of, by decide +kernel, List.mem_of_getElem? (i := 1121) (by decide +kernel), List.mem_of_getElem? (i := 1123) (by decide +kernel), List.mem_of_getElem? (i := 35) (by decide +kernel)⟩
theorem iKok_9_130 : iKok 9 (130, mX9_parent, 0, 1) := ⟨ok_mX9_parent, by decide +kernel, List.mem_of_getElem? (i := 1177) (by decide +kernel), List.mem_of_getElem? (i := 1179) (by decide +kernel), List.mem_of_getElem? (i := 45) (by decide +kernel)⟩
theorem iKok_9_133 : iKok 9 (133, mX9_end, 0, 1) := ⟨ok_mX9_end, by decide +kernel, List.mem_of_getElem? (i := 1189) (by decide +kernel), List.mem_of_getElem? (i := 1191) (by decide +kernel), List.mem_of_getElem? (i := 48) (by decide +kernel)⟩
theorem iKok_9_136 : iKok 9 (136, mX9_child, 0, 2) := ⟨ok_mX9_child, by decide +kernel, List.mem_of_getElem? (i := 1205) (by decide +kernel), List.mem_of_getElem? (i := 1207) (by decide +kernel), List.mem_of_getElem? (i := 50) (by decide +kernel)⟩
theorem iKok_9_145 : iKok 9 (145, mX9_sign, 0, 0) := ⟨ok_mX9_sign, by decide +kernel, List.mem_of_getElem? (i := 1133) (by decide +kernel), List.mem_of_getElem? (i := 1135) (by decide +kernel), List.mem_of_getElem? (i := 37) (by decide +kernel)⟩
theorem iKok_9_149 : iKok 9 (149, mX9_isDigit, 0, 0) := ⟨ok_mX9_isDigit, by decide +kernel, List.mem_of_getElem? (i := 1137) (by decide +kernel), List.mem_of_getElem? (i := 1139) (by decide +kernel), List.mem_of_getElem? (i := 38) (by decide +kernel)⟩
theorem iKok_9_153 : iKok 9 (153, mX9_find, 0, 1) := ⟨ok_mX9_find, by decide +kernel, List.mem_of_getElem? (i := 1141) (by decide +kernel), List.mem_of_getElem? (i := 1143) (by decide +kernel), List.mem_of_getElem? (i := 39) (by decide +kernel)⟩
theorem iKok_9_156 : iKok 9 (156, mX9_is, 0, 1) := ⟨ok_mX9_is, by decide +kernel, List.mem_of_getElem? (i := 1145) (by decide +kernel), List.mem_of_getElem? (i := 1147) (by decide +kernel), List.mem_of_getElem? (i := 40) (by decide +kernel)⟩
theorem iKok_9_159 : iKok 9 (159, mX9_node, 0, 1) := ⟨ok_mX9_node, by decide +kernel, List.mem_of_getElem? (i := 1129) (by decide +kernel), List.mem_of_getElem? (i := 1131) (by decide +kernel), List.mem_of_getElem? (i := 36) (by decide +kernel)⟩
theorem iKok_9_162 : iKok 9 (162, mX9_lays, 0, 1) := ⟨ok_mX9_lays, by decide +kernel, List.mem_of_getElem? (i := 1149) (by decide +kernel), List.mem_of_getElem? (i := 1151) (by decide +kernel), List.mem_of_getElem? (i := 41) (by decide +kernel)⟩
theorem iKok_9_166 : iKok 9 (166, mX9_isTree, 0, 1) := ⟨ok_mX9_isTree, by decide +kernel, List.mem_of_getElem? (i := 1161) (by decide +kernel), List.mem_of_getElem? (i := 1163) (by decide +kernel), List.mem_of_getElem? (i := 42) (by decide +kernel)⟩
theorem iKok_9_169 : iKok 9 (169, mX9_loads, 0, 1) := ⟨ok_mX9_loads, by decide +kernel, List.mem_of_getElem? (i := 1169) (by decide +kernel), List.mem_of_getElem? (i := 1171) (by decide +kernel), List.mem_of_getElem? (i := 43) (by decide +kernel)⟩
theorem iKok_9_172 : iKok 9 (172, mX9_parentKey, 0, 1) := ⟨ok_mX9_parentKey, by decide +kernel, List.mem_of_getElem? (i := 1173) (by decide +kernel), List.mem_of_getElem? (i := 1175) (by decide +kernel), List.mem_of_getElem? (i := 44) (by decide +kernel)⟩
theorem iKok_9_175 : iKok 9 (175, mX9_place, 0, 1) := ⟨ok_mX9_place, by decide +kernel, List.mem_of_getElem? (i := 1181) (by decide +kernel), List.mem_of_getElem? (i := 1183) (by decide +kernel), List.mem_of_getElem? (i := 46) (by decide +kernel)⟩
theorem iKok_9_178 : iKok 9 (178, mX9_children, 0, 1) := ⟨ok_mX9_children, by decide +kernel, List.mem_of_getElem? (i := 1185) (by decide +kernel), List.mem_of_getElem? (i := 1187) (by decide +kernel), List.mem_of_getElem? (i := 47) (by decide +kernel)⟩
theorem iKok_9_181 : iKok 9 (181, mX9_no10, 0, 1) := ⟨ok_mX9_no10, by decide +kernel, List.mem_of_getElem? (i := 1197) (by decide +kernel), List.mem_of_getElem? (i := 1199) (by decide +kernel), List.mem_of_getElem? (i := 49) (by decide +kernel)⟩
theorem iKok_9_184 : iKok 9 (184, mX9_isBelow, 0, 2) := ⟨ok_mX9_isBelow, by decide +kernel, List.mem_of_getElem? (i := 1213) (by decide +kernel), List.mem_of_getElem? (i := 1215) (by decide +kernel), List.mem_of_getElem? (i := 51) (by decide +kernel)⟩
theorem iKok_9_188 : iKok 9 (188, mX9_cuts, 0, 2) := ⟨ok_mX9_cuts, by decide +kernel, List.mem_of_getElem? (i := 1257) (by decide +kernel), List.mem_of_getElem? (i := 1259) (by decide +kernel), List.mem_of_getElem? (i := 59) (by decide +kernel)⟩
theorem iKok_9_192 : iKok 9 (192, mX9_puts, 0, 3) := ⟨ok_mX9_puts, by decide +kernel, List.mem_of_getElem? (i := 1261) (by decide +kernel), List.mem_of_getElem? (i := 1263) (by decide +kernel), List.mem_of_getElem? (i := 60) (by decide +kernel)⟩
theorem iKok_9_196 : iKok 9 (196, mX9_moves, 0, 3) := ⟨ok_mX9_moves, by decide +kernel, List.mem_of_getElem? (i := 1265) (by decide +kernel), List.mem_of_getElem? (i := 1267) (by decide +kernel), List.mem_of_getElem? (i := 61) (by decide +kernel)⟩
theorem iKok_9_203 : iKok 9 (203, mX9_makes, 0, 7) := ⟨ok_mX9_makes, by decide +kernel, List.mem_of_getElem? (i := 1249) (by decide +kernel), List.mem_of_getElem? (i := 1251) (by decide +kernel), List.mem_of_getElem? (i := 57) (by decide +kernel)⟩
theorem iKok_9_207 : iKok 9 (207, mX9_does, 0, 2) := ⟨ok_mX9_does, by decide +kernel, List.mem_of_getElem? (i := 1253) (by decide +kernel), List.mem_of_getElem? (i := 1255) (by decide +kernel), List.mem_of_getElem? (i := 58) (by decide +kernel)⟩
theorem iKok_9_211 : iKok 9 (211, mX9_keyOf, 0, 2) := ⟨ok_mX9_keyOf, by decide +kernel, List.mem_of_getElem? (i := 1233) (by decide +kernel), List.mem_of_getElem? (i := 1235) (by decide +kernel), List.mem_of_getElem? (i := 53) (by decide +kernel)⟩
theorem iKok_9_214 : iKok 9 (214, mX9_next, 0, 3) := ⟨ok_mX9_next, by decide +kernel, List.mem_of_getElem? (i := 1277) (by decide +kernel), List.mem_of_getElem? (i := 1279) (by decide +kernel), List.mem_of_getElem? (i := 64) (by decide +kernel)⟩
theorem iKok_9_218 : iKok 9 (218, mX9_placeIn, 0, 2) := ⟨ok_mX9_placeIn, by decide +kernel, List.mem_of_getElem? (i := 1281) (by decide +kernel), List.mem_of_getElem? (i := 1283) (by decide +kernel), List.mem_of_getElem? (i := 65) (by decide +kernel)⟩
theorem iKok_9_226 : iKok 9 (226, mX9_staying, 0, 2) := ⟨ok_mX9_staying, by decide +kernel, List.mem_of_getElem? (i := 1273) (by decide +kernel), List.mem_of_getElem? (i := 1275) (by decide +kernel), List.mem_of_getElem? (i := 63) (by decide +kernel)⟩
theorem iKok_9_230 : iKok 9 (230, mX9_indexOf, 0, 2) := ⟨ok_mX9_indexOf, by decide +kernel, List.mem_of_getElem? (i := 1241) (by decide +kernel), List.mem_of_getElem? (i := 1243) (by decide +kernel), List.mem_of_getElem? (i := 55) (by decide +kernel)⟩
theorem iKok_9_233 : iKok 9 (233, mX9_goes, 0, 7) := ⟨ok_mX9_goes, by decide +kernel, List.mem_of_getElem? (i := 1245) (by decide +kernel), List.mem_of_getElem? (i := 1247) (by decide +kernel), List.mem_of_getElem? (i := 56) (by decide +kernel)⟩
theorem iKok_9_236 : iKok 9 (236, mX9_ordered, 0, 3) := ⟨ok_mX9_ordered, by decide +kernel, List.mem_of_getElem? (i := 1269) (by decide +kernel), List.mem_of_getElem? (i := 1271) (by decide +kernel), List.mem_of_getElem? (i := 62) (by decide +kernel)⟩
theorem iKok_9_245 : iKok 9 (245, mX9_isUnlike, 0, 2) := ⟨ok_mX9_isUnlike, by decide +kernel, List.mem_of_getElem? (i := 1229) (by decide +kernel), List.mem_of_getElem? (i := 1231) (by decide +kernel), List.mem_of_getElem? (i := 52) (by decide +kernel)⟩
theorem iKok_9_248 : iKok 9 (248, mX9_differs, 0, 2) := ⟨ok_mX9_differs, by decide +kernel, List.mem_of_getElem? (i := 1237) (by decide +kernel), List.mem_of_getElem? (i := 1239) (by decide +kernel), List.mem_of_getElem? (i := 54) (by decide +kernel)⟩
theorem iKok_9_251 : iKok 9 (251, mX9_newPatch, 0, 2) := ⟨ok_mX9_newPatch, by decide +kernel, List.mem_of_getElem? (i := 1286) (by decide +kernel), List.mem_of_getElem? (i := 1288) (by decide +kernel), List.mem_of_getElem? (i := 66) (by decide +kernel)⟩
theorem iKok_9_254 : iKok 9 (254, mX9_edit, 0, 2) := ⟨ok_mX9_edit, by decide +kernel, List.mem_of_getElem? (i := 1302) (by decide +kernel), List.mem_of_getElem? (i := 1304) (by decide +kernel), List.mem_of_getElem? (i := 67) (by decide +kernel)⟩
theorem iKok_9_257 : iKok 9 (257, mX9_stuck, 0, 1) := ⟨ok_mX9_stuck, by decide +kernel, List.mem_of_getElem? (i := 1318) (by decide +kernel), List.mem_of_getElem? (i := 1320) (by decide +kernel), List.mem_of_getElem? (i := 68) (by decide +kernel)⟩
theorem iKok_9_260 : iKok 9 (260, mX9_turns, 0, 2) := ⟨ok_mX9_turns, by decide +kernel, List.mem_of_getElem? (i := 1330) (by decide +kernel), List.mem_of_getElem? (i := 1332) (by decide +kernel), List.mem_of_getElem? (i := 69) (by decide +kernel)⟩
theorem iKok_9_264 : iKok 9 (264, mX9_all, 0, 1) := ⟨ok_mX9_all, by decide +kernel, List.mem_of_getElem? (i := 1338) (by decide +kernel), List.mem_of_getElem? (i := 1340) (by decide +kernel), List.mem_of_getElem? (i := 70) (by decide +kernel)⟩
theorem iKok_9_267 : iKok 9 (267, mX9_undoes, 0, 1) := ⟨ok_mX9_undoes, by decide +kernel, List.mem_of_getElem? (i := 1350) (by decide +kernel), List.mem_of_getElem? (i := 1352) (by decide +kernel), List.mem_of_getElem? (i := 72) (by decide +kernel)⟩
theorem iKok_9_270 : iKok 9 (270, mX9_vanish, 0, 2) := ⟨ok_mX9_vanish, by decide +kernel, List.mem_of_getElem? (i := 1354) (by decide +kernel), List.mem_of_getElem? (i := 1356) (by decide +kernel), List.mem_of_getElem? (i := 73) (by decide +kernel)⟩
theorem iKok_9_273 : iKok 9 (273, mX9_squeezes, 0, 0) := ⟨ok_mX9_squeezes, by decide +kernel, List.mem_of_getElem? (i := 1346) (by decide +kernel), List.mem_of_getElem? (i := 1348) (by decide +kernel), List.mem_of_getElem? (i := 71) (by decide +kernel)⟩
theorem iKok_9_276 : iKok 9 (276, mX9_gives, 0, 3) := ⟨ok_mX9_gives, by decide +kernel, List.mem_of_getElem? (i := 1366) (by decide +kernel), List.mem_of_getElem? (i := 1368) (by decide +kernel), List.mem_of_getElem? (i := 75) (by decide +kernel)⟩
theorem iKok_9_279 : iKok 9 (279, mX9_keepsMove, 0, 3) := ⟨ok_mX9_keepsMove, by decide +kernel, List.mem_of_getElem? (i := 1371) (by decide +kernel), List.mem_of_getElem? (i := 1373) (by decide +kernel), List.mem_of_getElem? (i := 76) (by decide +kernel)⟩
theorem iKok_9_285 : iKok 9 (285, mX9_keeps, 0, 1) := ⟨ok_mX9_keeps, by decide +kernel, List.mem_of_getElem? (i := 1362) (by decide +kernel), List.mem_of_getElem? (i := 1364) (by decide +kernel), List.mem_of_getElem? (i := 74) (by decide +kernel)⟩
theorem iKok_9_289 : iKok 9 (289, mX9_draw, 0, 1) := ⟨ok_mX9_draw, by decide +kernel, List.mem_of_getElem? (i := 1403) (by decide +kernel), List.mem_of_getElem? (i := 1405) (by decide +kernel), List.mem_of_getElem? (i := 78) (by decide +kernel)⟩
theorem iKok_9_292 : iKok 9 (292, mX9_day, 0, 0) := ⟨ok_mX9_day, by decide +kernel, List.mem_of_getElem? (i := 1399) (by decide +kernel), List.mem_of_getElem? (i := 1401) (by decide +kernel), List.mem_of_getElem? (i := 77) (by decide +kernel)⟩
theorem iKok_9 : ∀ e ∈ iK 9, iKok 9 e := List.forall_mem_cons.mpr ⟨iKok_9_99, List.forall_mem_cons.mpr ⟨iKok_9_106, List.forall_mem_cons.mpr ⟨iKok_9_113, List.forall_mem_cons.mpr ⟨iKok_9_117, List.forall_mem_cons.mpr ⟨iKok_9_120, List.forall_mem_cons.mpr ⟨iKok_9_123, List.forall_mem_cons.mpr ⟨iKok_9_130, List.forall_mem_cons.mpr ⟨iKok_9_133, List.forall_mem_cons.mpr ⟨iKok_9_136, List.forall_mem_cons.mpr ⟨iKok_9_145, List.forall_mem_cons.mpr ⟨iKok_9_149, List.forall_mem_cons.mpr ⟨iKok_9_153, List.forall_mem_cons.mpr ⟨iKok_9_156, List.forall_mem_cons.mpr ⟨iKok_9_159, List.forall_mem_cons.mpr ⟨iKok_9_162, List.forall_mem_cons.mpr ⟨iKok_9_166, List.forall_mem_cons.mpr ⟨iKok_9_169, List.forall_mem_cons.mpr ⟨iKok_9_172, List.forall_mem_cons.mpr ⟨iKok_9_175, List.forall_mem_cons.mpr ⟨iKok_9_178, List.forall_mem_cons.mpr ⟨iKok_9_181, List.forall_mem_cons.mpr ⟨iKok_9_184, List.forall_mem_cons.mpr ⟨iKok_9_188, List.forall_mem_cons.mpr ⟨iKok_9_192, List.forall_mem_cons.mpr ⟨iKok_9_196, List.forall_mem_cons.mpr ⟨iKok_9_203, List.forall_mem_cons.mpr ⟨iKok_9_207, List.forall_mem_cons.mpr ⟨iKok_9_211, List.forall_mem_cons.mpr ⟨iKok_9_214, List.forall_mem_cons.mpr ⟨iKok_9_218, List.forall_mem_cons.mpr ⟨iKok_9_226, List.forall_mem_cons.mpr ⟨iKok_9_230, List.forall_mem_cons.mpr ⟨iKok_9_233, List.forall_mem_cons.mpr ⟨iKok_9_236, List.forall_mem_cons.mpr ⟨iKok_9_245, List.forall_mem_cons.mpr ⟨iKok_9_248, List.forall_mem_cons.mpr ⟨iKok_9_251, List.forall_mem_cons.mpr ⟨iKok_9_254, List.forall_mem_cons.mpr ⟨iKok_9_257, List.forall_mem_cons.mpr ⟨iKok_9_260, List.forall_mem_cons.mpr ⟨iKok_9_264, List.forall_mem_cons.mpr ⟨iKok_9_267, List.forall_mem_cons.mpr ⟨iKok_9_270, List.forall_mem_cons.mpr ⟨iKok_9_273, List.forall_mem_cons.mpr ⟨iKok_9_276, List.forall_mem_cons.mpr ⟨iKok_9_279, List.forall_mem_cons.mpr ⟨iKok_9_285, List.forall_mem_cons.mpr ⟨iKok_9_289, List.forall_mem_cons.mpr ⟨iKok_9_292, fun _ h => absurd h List.not_mem_nil⟩⟩⟩⟩⟩⟩⟩⟩⟩⟩⟩⟩⟩⟩⟩⟩⟩⟩⟩⟩⟩⟩⟩⟩⟩⟩⟩⟩⟩⟩⟩⟩⟩⟩⟩⟩⟩⟩⟩⟩⟩⟩⟩⟩⟩⟩⟩⟩⟩
theorem iKok_10_9 : iKok 10 (9, mX8_init, 2, 0) := ⟨ok_mX8_init, by decide +kernel, List.mem_of_getElem? (i := 94) (by decide +kernel), List.mem_of_getElem? (i := 95) (by decide +kernel), ⟨by decide +kernel, rfl⟩⟩
theorem iKok_10_12 : iKok 10 (12, mX9_init, 2, 0) := ⟨ok_mX9_init, by decide +kernel, List.mem_of_getElem? (i := 946) (by decide +kernel), List.mem_of_getElem? (i := 947) (by decide +kernel), ⟨by decide +kernel, rfl⟩⟩
theorem iKok_10_13 : iKok 10 (13, mX8_row, 0, 3) := ⟨ok_mX8_row, by decide +kernel, List.mem_of_getElem? (i := 179) (by decide +kernel), List.mem_of_getElem? (i := 180) (by decide +kernel), List.mem_of_getElem? (i := 181) (by decide +kernel)⟩
theorem iKok_10_17 : iKok 10 (17, mX9_row, 0, 3) := ⟨ok_mX9_row, by decide +kernel, List.mem_of_getElem? (i := 1074) (by decide +kernel), List.mem_of_getElem? (i := 1075) (by decide +kernel), List.mem_of_getElem? (i := 1076) (by decide +kernel)⟩
theorem iKok_10_20 : iKok 10 (20, mX8_set, 0, 3) := ⟨ok_mX8_set, by decide +kernel, List.mem_of_getElem? (i := 205) (by decide +kernel), List.mem_of_getElem? (i := 206) (by decide +kernel), List.mem_of_getElem? (i := 207) (by decide +kernel)⟩
theorem iKok_10_24 : iKok 10 (24, mX9_set, 0, 3) := ⟨ok_mX9_set, by decide +kernel, List.mem_of_getElem? (i := 1085) (by decide +kernel), List.mem_of_getElem? (i := 1086) (by decide +kernel), List.mem_of_getElem? (i := 1087) (by decide +kernel)⟩
theorem iKok_10_25 : iKok 10 (25, mX8_copy, 0, 5) := ⟨ok_mX8_copy, by decide +kernel, List.mem_of_getElem? (i := 230) (by decide +kernel), List.mem_of_getElem? (i := 231) (by decide +kernel), List.mem_of_getElem? (i := 232) (by decide +kernel)⟩
theorem iKok_10_29 : iKok 10 (29, mX9_copy, 0, 5) := ⟨ok_mX9_copy, by decide +kernel, List.mem_of_getElem? (i := 1097) (by decide +kernel), List.mem_of_getElem? (i := 1098) (by decide +kernel), List.mem_of_getElem? (i := 1099) (by decide +kernel)⟩
theorem iKok_10_30 : iKok 10 (30, mX8_element, 0, 2) := ⟨ok_mX8_element, by decide +kernel, List.mem_of_getElem? (i := 241) (by decide +kernel), List.mem_of_getElem? (i := 242) (by decide +kernel), List.mem_of_getElem? (i := 243) (by decide +kernel)⟩
theorem iKok_10_34 : iKok 10 (34, mX9_element, 0, 2) := ⟨ok_mX9_element, by decide +kernel, List.mem_of_getElem? (i := 1101) (by decide +kernel), List.mem_of_getElem? (i := 1102) (by decide +kernel), List.mem_of_getElem? (i := 1103) (by decide +kernel)⟩
theorem iKok_10_35 : iKok 10 (35, mX8_show, 0, 2) := ⟨ok_mX8_show, by decide +kernel, List.mem_of_getElem? (i := 249) (by decide +kernel), List.mem_of_getElem? (i := 250) (by decide +kernel), List.mem_of_getElem? (i := 251) (by decide +kernel)⟩
theorem iKok_10_39 : iKok 10 (39, mX9_show, 0, 2) := ⟨ok_mX9_show, by decide +kernel, List.mem_of_getElem? (i := 1105) (by decide +kernel), List.mem_of_getElem? (i := 1106) (by decide +kernel), List.mem_of_getElem? (i := 1107) (by decide +kernel)⟩
theorem iKok_10_40 : iKok 10 (40, mX8_holds, 0, 1) := ⟨ok_mX8_holds, by decide +kernel, List.mem_of_getElem? (i := 261) (by decide +kernel), List.mem_of_getElem? (i := 262) (by decide +kernel), List.mem_of_getElem? (i := 263) (by decide +kernel)⟩
theorem iKok_10_44 : iKok 10 (44, mX9_holds, 0, 1) := ⟨ok_mX9_holds, by decide +kernel, List.mem_of_getElem? (i := 1113) (by decide +kernel), List.mem_of_getElem? (i := 1114) (by decide +kernel), List.mem_of_getElem? (i := 1115) (by decide +kernel)⟩
theorem iKok_10_45 : iKok 10 (45, mX8_says, 0, 2) := ⟨ok_mX8_says, by decide +kernel, List.mem_of_getElem? (i := 265) (by decide +kernel), List.mem_of_getElem? (i := 266) (by decide +kernel), List.mem_of_getElem? (i := 267) (by decide +kernel)⟩
theorem iKok_10_48 : iKok 10 (48, mX9_says, 0, 2) := ⟨ok_mX9_says, by decide +kernel, List.mem_of_getElem? (i := 1117) (by decide +kernel), List.mem_of_getElem? (i := 1118) (by decide +kernel), List.mem_of_getElem? (i := 1119) (by decide +kernel)⟩
theorem iKok_10_49 : iKok 10 (49, mX8_tree, 0, 1) := ⟨ok_mX8_tree, by decide +kernel, List.mem_of_getElem? (i := 281) (by decide +kernel), List.mem_of_getElem? (i := 282) (by decide +kernel), List.mem_of_getElem? (i := 283) (by decide +kernel)⟩
theorem iKok_10_52 : iKok 10 (52, mX9_tree, 0, 1) := ⟨ok_mX9_tree, by decide +kernel, List.mem_of_getElem? (i := 1125) (by decide +kernel), List.mem_of_getElem? (i := 1126) (by decide +kernel), List.mem_of_getElem? (i := 1127) (by decide +kernel)⟩
theorem iKok_10_53 : iKok 10 (53, mX8_fault, 0, 0) := ⟨ok_mX8_fault, by decide +kernel, List.mem_of_getElem? (i := 370) (by decide +kernel), List.mem_of_getElem? (i := 371) (by decide +kernel), List.mem_of_getElem? (i := 372) (by decide +kernel)⟩
theorem iKok_10_57 : iKok 10 (57, mX9_fault, 0, 0) := ⟨ok_mX9_fault, by decide +kernel, List.mem_of_getElem? (i := 1153) (by decide +kernel), List.mem_of_getElem? (i := 1154) (by decide +kernel), List.mem_of_getElem? (i := 1155) (by decide +kernel)⟩
theorem iKok_10_58 : iKok 10 (58, mX8_nodes, 0, 1) := ⟨ok_mX8_nodes, by decide +kernel, List.mem_of_getElem? (i := 374) (by decide +kernel), List.mem_of_getElem? (i := 375) (by decide +kernel), List.mem_of_getElem? (i := 376) (by decide +kernel)⟩
theorem iKok_10_61 : iKok 10 (61, mX9_nodes, 0, 1) := ⟨ok_mX9_nodes, by decide +kernel, List.mem_of_getElem? (i := 1157) (by decide +kernel), List.mem_of_getElem? (i := 1158) (by decide +kernel), List.mem_of_getElem? (i := 1159) (by decide +kernel)⟩
theorem iKok_10_62 : iKok 10 (62, mX8_node, 0, 3) := ⟨ok_mX8_node, by decide +kernel, List.mem_of_getElem? (i := 386) (by decide +kernel), List.mem_of_getElem? (i := 387) (by decide +kernel), List.mem_of_getElem? (i := 388) (by decide +kernel)⟩
theorem iKok_10_65 : iKok 10 (65, mX9_node_, 0, 3) := ⟨ok_mX9_node_, by decide +kernel, List.mem_of_getElem? (i := 1165) (by decide +kernel), List.mem_of_getElem? (i := 1166) (by decide +kernel), List.mem_of_getElem? (i := 1167) (by decide +kernel)⟩
theorem iKok_10_66 : iKok 10 (66, mX8_find, 0, 2) := ⟨ok_mX8_find, by decide +kernel, List.mem_of_getElem? (i := 428) (by decide +kernel), List.mem_of_getElem? (i := 429) (by decide +kernel), List.mem_of_getElem? (i := 430) (by decide +kernel)⟩
theorem iKok_10_69 : iKok 10 (69, mX9_find_, 0, 2) := ⟨ok_mX9_find_, by decide +kernel, List.mem_of_getElem? (i := 1193) (by decide +kernel), List.mem_of_getElem? (i := 1194) (by decide +kernel), List.mem_of_getElem? (i := 1195) (by decide +kernel)⟩
theorem iKok_10_70 : iKok 10 (70, mX8_child, 0, 3) := ⟨ok_mX8_child, by decide +kernel, List.mem_of_getElem? (i := 437) (by decide +kernel), List.mem_of_getElem? (i := 438) (by decide +kernel), List.mem_of_getElem? (i := 439) (by decide +kernel)⟩
theorem iKok_10_73 : iKok 10 (73, mX9_child_, 0, 3) := ⟨ok_mX9_child_, by decide +kernel, List.mem_of_getElem? (i := 1201) (by decide +kernel), List.mem_of_getElem? (i := 1202) (by decide +kernel), List.mem_of_getElem? (i := 1203) (by decide +kernel)⟩
theorem iKok_10_74 : iKok 10 (74, mX8_above, 0, 3) := ⟨ok_mX8_above, by decide +kernel, List.mem_of_getElem? (i := 447) (by decide +kernel), List.mem_of_getElem? (i := 448) (by decide +kernel), List.mem_of_getElem? (i := 449) (by decide +kernel)⟩
theorem iKok_10_77 : iKok 10 (77, mX9_above, 0, 3) := ⟨ok_mX9_above, by decide +kernel, List.mem_of_getElem? (i := 1209) (by decide +kernel), List.mem_of_getElem? (i := 1210) (by decide +kernel), List.mem_of_getElem? (i := 1211) (by decide +kernel)⟩
theorem iKok_10_78 : iKok 10 (78, mX8_same, 0, 2) := ⟨ok_mX8_same, by decide +kernel, List.mem_of_getElem? (i := 459) (by decide +kernel), List.mem_of_getElem? (i := 460) (by decide +kernel), List.mem_of_getElem? (i := 461) (by decide +kernel)⟩
theorem iKok_10_81 : iKok 10 (81, mX9_same, 0, 2) := ⟨ok_mX9_same, by decide +kernel, List.mem_of_getElem? (i := 1217) (by decide +kernel), List.mem_of_getElem? (i := 1218) (by decide +kernel), List.mem_of_getElem? (i := 1219) (by decide +kernel)⟩
theorem iKok_10_82 : iKok 10 (82, mX8_drop, 0, 1) := ⟨ok_mX8_drop, by decide +kernel, List.mem_of_getElem? (i := 470) (by decide +kernel), List.mem_of_getElem? (i := 471) (by decide +kernel), List.mem_of_getElem? (i := 472) (by decide +kernel)⟩
theorem iKok_10_85 : iKok 10 (85, mX9_drop, 0, 1) := ⟨ok_mX9_drop, by decide +kernel, List.mem_of_getElem? (i := 1221) (by decide +kernel), List.mem_of_getElem? (i := 1222) (by decide +kernel), List.mem_of_getElem? (i := 1223) (by decide +kernel)⟩
theorem iKok_10_86 : iKok 10 (86, mX8_difference, 0, 2) := ⟨ok_mX8_difference, by decide +kernel, List.mem_of_getElem? (i := 478) (by decide +kernel), List.mem_of_getElem? (i := 479) (by decide +kernel), List.mem_of_getElem? (i := 480) (by decide +kernel)⟩
theorem iKok_10_89 : iKok 10 (89, mX9_difference, 0, 2) := ⟨ok_mX9_difference, by decide +kernel, List.mem_of_getElem? (i := 1225) (by decide +kernel), List.mem_of_getElem? (i := 1226) (by decide +kernel), List.mem_of_getElem? (i := 1227) (by decide +kernel)⟩
theorem iKok_10_90 : iKok 10 (90, mX8_far, 0, 2) := ⟨ok_mX8_far, by decide +kernel, List.mem_of_getElem? (i := 678) (by decide +kernel), List.mem_of_getElem? (i := 679) (by decide +kernel), List.mem_of_getElem? (i := 680) (by decide +kernel)⟩
theorem iKok_10_93 : iKok 10 (93, mX9_far, 0, 2) := ⟨ok_mX9_far, by decide +kernel, List.mem_of_getElem? (i := 1290) (by decide +kernel), List.mem_of_getElem? (i := 1291) (by decide +kernel), List.mem_of_getElem? (i := 1292) (by decide +kernel)⟩
theorem iKok_10_94 : iKok 10 (94, mX8_moves, 0, 2) := ⟨ok_mX8_moves, by decide +kernel, List.mem_of_getElem? (i := 682) (by decide +kernel), List.mem_of_getElem? (i := 683) (by decide +kernel), List.mem_of_getElem? (i := 684) (by decide +kernel)⟩
theorem iKok_10_97 : iKok 10 (97, mX9_moves_, 0, 2) := ⟨ok_mX9_moves_, by decide +kernel, List.mem_of_getElem? (i := 1294) (by decide +kernel), List.mem_of_getElem? (i := 1295) (by decide +kernel), List.mem_of_getElem? (i := 1296) (by decide +kernel)⟩
theorem iKok_10_98 : iKok 10 (98, mX8_patchOf, 0, 2) := ⟨ok_mX8_patchOf, by decide +kernel, List.mem_of_getElem? (i := 694) (by decide +kernel), List.mem_of_getElem? (i := 695) (by decide +kernel), List.mem_of_getElem? (i := 696) (by decide +kernel)⟩
theorem iKok_10_101 : iKok 10 (101, mX9_patchOf, 0, 2) := ⟨ok_mX9_patchOf, by decide +kernel, List.mem_of_getElem? (i := 1298) (by decide +kernel), List.mem_of_getElem? (i := 1299) (by decide +kernel), List.mem_of_getElem? (i := 1300) (by decide +kernel)⟩
theorem iKok_10_102 : iKok 10 (102, mX8_edit, 0, 3) := ⟨ok_mX8_edit, by decide +kernel, List.mem_of_getElem? (i := 706) (by decide +kernel), List.mem_of_getElem? (i := 707) (by decide +kernel), List.mem_of_getElem? (i := 708) (by decide +kernel)⟩
theorem iKok_10_105 : iKok 10 (105, mX9_edit_, 0, 3) := ⟨ok_mX9_edit_, by decide +kernel, List.mem_of_getElem? (i := 1306) (by decide +kernel), List.mem_of_getElem? (i := 1307) (by decide +kernel), List.mem_of_getElem? (i := 1308) (by decide +kernel)⟩
theorem iKok_10_106 : iKok 10 (106, mX8_touched, 0, 2) := ⟨ok_mX8_touched, by decide +kernel, List.mem_of_getElem? (i := 718) (by decide +kernel), List.mem_of_getElem? (i := 719) (by decide +kernel), List.mem_of_getElem? (i := 720) (by decide +kernel)⟩
theorem iKok_10_109 : iKok 10 (109, mX9_touched, 0, 2) := ⟨ok_mX9_touched, by decide +kernel, List.mem_of_getElem? (i := 1310) (by decide +kernel), List.mem_of_getElem? (i := 1311) (by decide +kernel), List.mem_of_getElem? (i := 1312) (by decide +kernel)⟩
theorem iKok_10_110 : iKok 10 (110, mX8_apply, 0, 2) := ⟨ok_mX8_apply, by decide +kernel, List.mem_of_getElem? (i := 726) (by decide +kernel), List.mem_of_getElem? (i := 727) (by decide +kernel), List.mem_of_getElem? (i := 728) (by decide +kernel)⟩
theorem iKok_10_113 : iKok 10 (113, mX9_apply, 0, 2) := ⟨ok_mX9_apply, by decide +kernel, List.mem_of_getElem? (i := 1314) (by decide +kernel), List.mem_of_getElem? (i := 1315) (by decide +kernel), List.mem_of_getElem? (i := 1316) (by decide +kernel)⟩
theorem iKok_10_114 : iKok 10 (114, mX8_sticks, 0, 2) := ⟨ok_mX8_sticks, by decide +kernel, List.mem_of_getElem? (i := 767) (by decide +kernel), List.mem_of_getElem? (i := 768) (by decide +kernel), List.mem_of_getElem? (i := 769) (by decide +kernel)⟩
theorem iKok_10_117 : iKok 10 (117, mX9_sticks, 0, 2) := ⟨ok_mX9_sticks, by decide +kernel, List.mem_of_getElem? (i := 1322) (by decide +kernel), List.mem_of_getElem? (i := 1323) (by decide +kernel), List.mem_of_getElem? (i := 1324) (by decide +kernel)⟩
theorem iKok_10_118 : iKok 10 (118, mX8_invert, 0, 1) := ⟨ok_mX8_invert, by decide +kernel, List.mem_of_getElem? (i := 780) (by decide +kernel), List.mem_of_getElem? (i := 781) (by decide +kernel), List.mem_of_getElem? (i := 782) (by decide +kernel)⟩
theorem iKok_10_121 : iKok 10 (121, mX9_invert, 0, 1) := ⟨ok_mX9_invert, by decide +kernel, List.mem_of_getElem? (i := 1326) (by decide +kernel), List.mem_of_getElem? (i := 1327) (by decide +kernel), List.mem_of_getElem? (i := 1328) (by decide +kernel)⟩
theorem iKok_10_122 : iKok 10 (122, mX8_behind, 0, 2) := ⟨ok_mX8_behind, by decide +kernel, List.mem_of_getElem? (i := 794) (by decide +kernel), List.mem_of_getElem? (i := 795) (by decide +kernel), List.mem_of_getElem? (i := 796) (by decide +kernel)⟩
theorem iKok_10_125 : iKok 10 (125, mX9_behind, 0, 2) := ⟨ok_mX9_behind, by decide +kernel, List.mem_of_getElem? (i := 1334) (by decide +kernel), List.mem_of_getElem? (i := 1335) (by decide +kernel), List.mem_of_getElem? (i := 1336) (by decide +kernel)⟩
theorem iKok_10_126 : iKok 10 (126, mX8_squeeze, 0, 1) := ⟨ok_mX8_squeeze, by decide +kernel, List.mem_of_getElem? (i := 805) (by decide +kernel), List.mem_of_getElem? (i := 806) (by decide +kernel), List.mem_of_getElem? (i := 807) (by decide +kernel)⟩
theorem iKok_10_129 : iKok 10 (129, mX9_squeeze, 0, 1) := ⟨ok_mX9_squeeze, by decide +kernel, List.mem_of_getElem? (i := 1342) (by decide +kernel), List.mem_of_getElem? (i := 1343) (by decide +kernel), List.mem_of_getElem? (i := 1344) (by decide +kernel)⟩
theorem iKok_10_130 : iKok 10 (130, mX8_rebase, 0, 2) := ⟨ok_mX8_rebase, by decide +kernel, List.mem_of_getElem? (i := 826) (by decide +kernel), List.mem_of_getElem? (i := 827) (by decide +kernel), List.mem_of_getElem? (i := 828) (by decide +kernel)⟩
theorem iKok_10_133 : iKok 10 (133, mX9_rebase, 0, 2) := ⟨ok_mX9_rebase, by decide +kernel, List.mem_of_getElem? (i := 1358) (by decide +kernel), List.mem_of_getElem? (i := 1359) (by decide +kernel), List.mem_of_getElem? (i := 1360) (by decide +kernel)⟩
theorem iKok_10_134 : iKok 10 (134, mX8_conflict, 0, 3) := ⟨ok_mX8_conflict, by decide +kernel, List.mem_of_getElem? (i := 771) (by decide +kernel), List.mem_of_getElem? (i := 772) (by decide +kernel), List.mem_of_getElem? (i := 773) (by decide +kernel)⟩
theorem iKok_10_137 : iKok 10 (137, mX9_conflict, 0, 3) := ⟨ok_mX9_conflict, by decide +kernel, List.mem_of_getElem? (i := 1375) (by decide +kernel), List.mem_of_getElem? (i := 1376) (by decide +kernel), List.mem_of_getElem? (i := 1377) (by decide +kernel)⟩
theorem iKok_10_138 : iKok 10 (138, mX8_hand, 0, 3) := ⟨ok_mX8_hand, by decide +kernel, List.mem_of_getElem? (i := 860) (by decide +kernel), List.mem_of_getElem? (i := 861) (by decide +kernel), List.mem_of_getElem? (i := 862) (by decide +kernel)⟩
theorem iKok_10_141 : iKok 10 (141, mX9_hand, 0, 3) := ⟨ok_mX9_hand, by decide +kernel, List.mem_of_getElem? (i := 1379) (by decide +kernel), List.mem_of_getElem? (i := 1380) (by decide +kernel), List.mem_of_getElem? (i := 1381) (by decide +kernel)⟩
theorem iKok_10_142 : iKok 10 (142, mX8_put, 0, 4) := ⟨ok_mX8_put, by decide +kernel, List.mem_of_getElem? (i := 866) (by decide +kernel), List.mem_of_getElem? (i := 867) (by decide +kernel), List.mem_of_getElem? (i := 868) (by decide +kernel)⟩
theorem iKok_10_146 : iKok 10 (146, mX9_put, 0, 4) := ⟨ok_mX9_put, by decide +kernel, List.mem_of_getElem? (i := 1383) (by decide +kernel), List.mem_of_getElem? (i := 1384) (by decide +kernel), List.mem_of_getElem? (i := 1385) (by decide +kernel)⟩
theorem iKok_10_147 : iKok 10 (147, mX8_forget, 0, 0) := ⟨ok_mX8_forget, by decide +kernel, List.mem_of_getElem? (i := 872) (by decide +kernel), List.mem_of_getElem? (i := 873) (by decide +kernel), List.mem_of_getElem? (i := 874) (by decide +kernel)⟩
theorem iKok_10_150 : iKok 10 (150, mX9_forget, 0, 0) := ⟨ok_mX9_forget, by decide +kernel, List.mem_of_getElem? (i := 1387) (by decide +kernel), List.mem_of_getElem? (i := 1388) (by decide +kernel), List.mem_of_getElem? (i := 1389) (by decide +kernel)⟩
theorem iKok_10_151 : iKok 10 (151, mX8_judge, 0, 3) := ⟨ok_mX8_judge, by decide +kernel, List.mem_of_getElem? (i := 884) (by decide +kernel), List.mem_of_getElem? (i := 885) (by decide +kernel), List.mem_of_getElem? (i := 886) (by decide +kernel)⟩
theorem iKok_10_154 : iKok 10 (154, mX9_judge, 0, 3) := ⟨ok_mX9_judge, by decide +kernel, List.mem_of_getElem? (i := 1391) (by decide +kernel), List.mem_of_getElem? (i := 1392) (by decide +kernel), List.mem_of_getElem? (i := 1393) (by decide +kernel)⟩
theorem iKok_10_155 : iKok 10 (155, mX8_days, 0, 2) := ⟨ok_mX8_days, by decide +kernel, List.mem_of_getElem? (i := 894) (by decide +kernel), List.mem_of_getElem? (i := 895) (by decide +kernel), List.mem_of_getElem? (i := 896) (by decide +kernel)⟩
theorem iKok_10_158 : iKok 10 (158, mX9_days, 0, 2) := ⟨ok_mX9_days, by decide +kernel, List.mem_of_getElem? (i := 1395) (by decide +kernel), List.mem_of_getElem? (i := 1396) (by decide +kernel), List.mem_of_getElem? (i := 1397) (by decide +kernel)⟩
theorem iKok_10_159 : iKok 10 (159, mX8_seed, 0, 1) := ⟨ok_mX8_seed, by decide +kernel, List.mem_of_getElem? (i := 910) (by decide +kernel), List.mem_of_getElem? (i := 911) (by decide +kernel), List.mem_of_getElem? (i := 912) (by decide +kernel)⟩
theorem iKok_10_162 : iKok 10 (162, mX9_seed, 0, 1) := ⟨ok_mX9_seed, by decide +kernel, List.mem_of_getElem? (i := 1408) (by decide +kernel), List.mem_of_getElem? (i := 1409) (by decide +kernel), List.mem_of_getElem? (i := 1410) (by decide +kernel)⟩
theorem iKok_10_163 : iKok 10 (163, mX8_image, 0, 0) := ⟨ok_mX8_image, by decide +kernel, List.mem_of_getElem? (i := 914) (by decide +kernel), List.mem_of_getElem? (i := 915) (by decide +kernel), List.mem_of_getElem? (i := 916) (by decide +kernel)⟩
theorem iKok_10_166 : iKok 10 (166, mX9_image, 0, 0) := ⟨ok_mX9_image, by decide +kernel, List.mem_of_getElem? (i := 1412) (by decide +kernel), List.mem_of_getElem? (i := 1413) (by decide +kernel), List.mem_of_getElem? (i := 1414) (by decide +kernel)⟩
theorem iKok_10_167 : iKok 10 (167, mX8_restore, 0, 0) := ⟨ok_mX8_restore, by decide +kernel, List.mem_of_getElem? (i := 921) (by decide +kernel), List.mem_of_getElem? (i := 922) (by decide +kernel), List.mem_of_getElem? (i := 923) (by decide +kernel)⟩
theorem iKok_10_170 : iKok 10 (170, mX9_restore, 0, 0) := ⟨ok_mX9_restore, by decide +kernel, List.mem_of_getElem? (i := 1416) (by decide +kernel), List.mem_of_getElem? (i := 1417) (by decide +kernel), List.mem_of_getElem? (i := 1418) (by decide +kernel)⟩
theorem iKok_10_171 : iKok 10 (171, mX8_status, 0, 1) := ⟨ok_mX8_status, by decide +kernel, List.mem_of_getElem? (i := 925) (by decide +kernel), List.mem_of_getElem? (i := 926) (by decide +kernel), List.mem_of_getElem? (i := 927) (by decide +kernel)⟩
theorem iKok_10_174 : iKok 10 (174, mX9_status, 0, 1) := ⟨ok_mX9_status, by decide +kernel, List.mem_of_getElem? (i := 1420) (by decide +kernel), List.mem_of_getElem? (i := 1421) (by decide +kernel), List.mem_of_getElem? (i := 1422) (by decide +kernel)⟩
theorem iKok_10 : ∀ e ∈ iK 10, iKok 10 e := List.forall_mem_cons.mpr ⟨iKok_10_9, List.forall_mem_cons.mpr ⟨iKok_10_12, List.forall_mem_cons.mpr ⟨iKok_10_13, List.forall_mem_cons.mpr ⟨iKok_10_17, List.forall_mem_cons.mpr ⟨iKok_10_20, List.forall_mem_cons.mpr ⟨iKok_10_24, List.forall_mem_cons.mpr ⟨iKok_10_25, List.forall_mem_cons.mpr ⟨iKok_10_29, List.forall_mem_cons.mpr ⟨iKok_10_30, List.forall_mem_cons.mpr ⟨iKok_10_34, List.forall_mem_cons.mpr ⟨iKok_10_35, List.forall_mem_cons.mpr ⟨iKok_10_39, List.forall_mem_cons.mpr ⟨iKok_10_40, List.forall_mem_cons.mpr ⟨iKok_10_44, List.forall_mem_cons.mpr ⟨iKok_10_45, List.forall_mem_cons.mpr ⟨iKok_10_48, List.forall_mem_cons.mpr ⟨iKok_10_49, List.forall_mem_cons.mpr ⟨iKok_10_52, List.forall_mem_cons.mpr ⟨iKok_10_53, List.forall_mem_cons.mpr ⟨iKok_10_57, List.forall_mem_cons.mpr ⟨iKok_10_58, List.forall_mem_cons.mpr ⟨iKok_10_61, List.forall_mem_cons.mpr ⟨iKok_10_62, List.forall_mem_cons.mpr ⟨iKok_10_65, List.forall_mem_cons.mpr ⟨iKok_10_66, List.forall_mem_cons.mpr ⟨iKok_10_69, List.forall_mem_cons.mpr ⟨iKok_10_70, List.forall_mem_cons.mpr ⟨iKok_10_73, List.forall_mem_cons.mpr ⟨iKok_10_74, List.forall_mem_cons.mpr ⟨iKok_10_77, List.forall_mem_cons.mpr ⟨iKok_10_78, List.forall_mem_cons.mpr ⟨iKok_10_81, List.forall_mem_cons.mpr ⟨iKok_10_82, List.forall_mem_cons.mpr ⟨iKok_10_85, List.forall_mem_cons.mpr ⟨iKok_10_86, List.forall_mem_cons.mpr ⟨iKok_10_89, List.forall_mem_cons.mpr ⟨iKok_10_90, List.forall_mem_cons.mpr ⟨iKok_10_93, List.forall_mem_cons.mpr ⟨iKok_10_94, List.forall_mem_cons.mpr ⟨iKok_10_97, List.forall_mem_cons.mpr ⟨iKok_10_98, List.forall_mem_cons.mpr ⟨iKok_10_101, List.forall_mem_cons.mpr ⟨iKok_10_102, List.forall_mem_cons.mpr ⟨iKok_10_105, List.forall_mem_cons.mpr ⟨iKok_10_106, List.forall_mem_cons.mpr ⟨iKok_10_109, List.forall_mem_cons.mpr ⟨iKok_10_110, List.forall_mem_cons.mpr ⟨iKok_10_113, List.forall_mem_cons.mpr ⟨iKok_10_114, List.forall_mem_cons.mpr ⟨iKok_10_117, List.forall_mem_cons.mpr ⟨iKok_10_118, List.forall_mem_cons.mpr ⟨iKok_10_121, List.forall_mem_cons.mpr ⟨iKok_10_122, List.forall_mem_cons.mpr ⟨iKok_10_125, List.forall_mem_cons.mpr ⟨iKok_10_126, List.forall_mem_cons.mpr ⟨iKok_10_129, List.forall_mem_cons.mpr ⟨iKok_10_130, List.forall_mem_cons.mpr ⟨iKok_10_133, List.forall_mem_cons.mpr ⟨iKok_10_134, List.forall_mem_cons.mpr ⟨iKok_10_137, List.forall_mem_cons.mpr ⟨iKok_10_138, List.forall_mem_cons.mpr ⟨iKok_10_141, List.forall_mem_cons.mpr ⟨iKok_10_142, List.forall_mem_cons.mpr ⟨iKok_10_146, List.forall_mem_cons.mpr ⟨iKok_10_147, List.forall_mem_cons.mpr ⟨iKok_10_150, List.forall_mem_cons.mpr ⟨iKok_10_151, List.forall_mem_cons.mpr ⟨iKok_10_154, List.forall_mem_cons.mpr ⟨iKok_10_155, List.forall_mem_cons.mpr ⟨iKok_10_158, List.forall_mem_cons.mpr ⟨iKok_10_159, List.forall_mem_cons.mpr ⟨iKok_10_162, List.forall_mem_cons.mpr ⟨iKok_10_163, List.forall_mem_cons.mpr ⟨iKok_10_166, List.forall_mem_cons.mpr ⟨iKok_10_167, List.forall_mem_cons.mpr ⟨iKok_10_170, List.forall_mem_cons.mpr ⟨iKok_10_171, List.forall_mem_cons.mpr ⟨iKok_10_174, fun _ h => absurd h List.not_mem_nil⟩⟩⟩⟩⟩⟩⟩⟩⟩⟩⟩⟩⟩⟩⟩⟩⟩⟩⟩⟩⟩⟩⟩⟩⟩⟩⟩⟩⟩⟩⟩⟩⟩⟩⟩⟩⟩⟩⟩⟩⟩⟩⟩⟩⟩⟩⟩⟩⟩⟩⟩⟩⟩⟩⟩⟩⟩⟩⟩⟩⟩⟩⟩⟩⟩⟩⟩⟩⟩⟩⟩⟩⟩⟩⟩⟩⟩⟩
def iO (o : Nat) : Nat := match o with
  | 0 => 3
  | 1 => 3
  | 2 => 3
  | 3 => 3
  | 4 => 3
  | 5 => 3
  | 6 => 3
  | 7 => 3
  | 8 => 1
  | 9 => 1
  | _ => 0
theorem iOok : ∀ o, o < 11 → iO o ≠ 0 → Cond.methodLink (iOwn o) (iO o) objectInit ∈ lw_tbl := by
  intro o h h0
  match o, h, h0 with
  | 0, _, _ => exact List.mem_of_getElem? (i := 495) (by decide +kernel)
  | 1, _, _ => exact List.mem_of_getElem? (i := 107) (by decide +kernel)
  | 2, _, _ => exact List.mem_of_getElem? (i := 537) (by decide +kernel)
  | 3, _, _ => exact List.mem_of_getElem? (i := 643) (by decide +kernel)
  | 4, _, _ => exact List.mem_of_getElem? (i := 290) (by decide +kernel)
  | 5, _, _ => exact List.mem_of_getElem? (i := 194) (by decide +kernel)
  | 6, _, _ => exact List.mem_of_getElem? (i := 130) (by decide +kernel)
  | 7, _, _ => exact List.mem_of_getElem? (i := 296) (by decide +kernel)
  | 8, _, _ => exact List.mem_of_getElem? (i := 97) (by decide +kernel)
  | 9, _, _ => exact List.mem_of_getElem? (i := 949) (by decide +kernel)
  | 10, _, h0 => exact absurd rfl h0
def iP (o : Nat) : Nat := match o with
  | 1 => 81
  | 7 => 25
  | 8 => 82
  | _ => 0
theorem iPok : ∀ o, o < 11 → iP o ≠ 0 → Cond.methodLink (iOwn o) (iP o) arraycopyName ∈ lw_tbl := by
  intro o h h0
  match o, h, h0 with
  | 0, _, h0 => exact absurd rfl h0
  | 1, _, _ => exact List.mem_of_getElem? (i := 656) (by decide +kernel)
  | 2, _, h0 => exact absurd rfl h0
  | 3, _, h0 => exact absurd rfl h0
  | 4, _, h0 => exact absurd rfl h0
  | 5, _, h0 => exact absurd rfl h0
  | 6, _, h0 => exact absurd rfl h0
  | 7, _, _ => exact List.mem_of_getElem? (i := 361) (by decide +kernel)
  | 8, _, _ => exact List.mem_of_getElem? (i := 238) (by decide +kernel)
  | 9, _, h0 => exact absurd rfl h0
  | 10, _, h0 => exact absurd rfl h0
def iX (o : Nat) : Nat := match o with
  | 0 => 117
  | 1 => 78
  | 7 => 52
  | 9 => 221
  | _ => 0
theorem iXok : ∀ o, o < 11 → iX o ≠ 0 → Cond.methodLink (iOwn o) (iX o) Lib.Math.max.name ∈ lw_tbl := by
  intro o h h0
  match o, h, h0 with
  | 0, _, _ => exact List.mem_of_getElem? (i := 610) (by decide +kernel)
  | 1, _, _ => exact List.mem_of_getElem? (i := 651) (by decide +kernel)
  | 2, _, h0 => exact absurd rfl h0
  | 3, _, h0 => exact absurd rfl h0
  | 4, _, h0 => exact absurd rfl h0
  | 5, _, h0 => exact absurd rfl h0
  | 6, _, h0 => exact absurd rfl h0
  | 7, _, _ => exact List.mem_of_getElem? (i := 467) (by decide +kernel)
  | 8, _, h0 => exact absurd rfl h0
  | 9, _, _ => exact List.mem_of_getElem? (i := 1285) (by decide +kernel)
  | 10, _, h0 => exact absurd rfl h0
def iI (o : Nat) : Nat := match o with
  | 1 => 72
  | 2 => 129
  | 9 => 282
  | _ => 0
theorem iIok : ∀ o, o < 11 → iI o ≠ 0 → Cond.methodLink (iOwn o) (iI o) Lib.Math.min.name ∈ lw_tbl := by
  intro o h h0
  match o, h, h0 with
  | 0, _, h0 => exact absurd rfl h0
  | 1, _, _ => exact List.mem_of_getElem? (i := 648) (by decide +kernel)
  | 2, _, _ => exact List.mem_of_getElem? (i := 858) (by decide +kernel)
  | 3, _, h0 => exact absurd rfl h0
  | 4, _, h0 => exact absurd rfl h0
  | 5, _, h0 => exact absurd rfl h0
  | 6, _, h0 => exact absurd rfl h0
  | 7, _, h0 => exact absurd rfl h0
  | 8, _, h0 => exact absurd rfl h0
  | 9, _, _ => exact List.mem_of_getElem? (i := 1370) (by decide +kernel)
  | 10, _, h0 => exact absurd rfl h0
