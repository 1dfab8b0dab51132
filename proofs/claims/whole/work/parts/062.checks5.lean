theorem ck_M_nameSize : chkI mi_M_nameSize mt_M_nameSize = true := by decide +kernel
theorem ck_M_addName : chkI mi_M_addName mt_M_addName = true := by decide +kernel
theorem ck_M_add : chkI mi_M_add mt_M_add = true := by decide +kernel
theorem ck_M_addOperand : chkI mi_M_addOperand mt_M_addOperand = true := by decide +kernel
theorem ck_M_splice : chkI mi_M_splice mt_M_splice = true := by decide +kernel
theorem ck_M_setIt : chkI mi_M_setIt mt_M_setIt = true := by decide +kernel
theorem ck_M_addIt : chkI mi_M_addIt mt_M_addIt = true := by decide +kernel
theorem ck_M_pull : chkI mi_M_pull mt_M_pull = true := by decide +kernel
theorem ck_law : chkM "PathShelfLaw" code false k_W_law = true := by decide +kernel
def All2 : List Mi_ → List (Mt_ × Nat × Nat) → Prop
  | [], _ => True
  | a :: r, b :: t => chkI a b = true ∧ All2 r t
  | _ :: _, [] => False
theorem All2.get : ∀ {l1 : List Mi_} {l2 : List (Mt_ × Nat × Nat)}, All2 l1 l2 → ∀ (i : Nat) (y : Mi_), l1[i]? = some y → ∃ mt, l2[i]? = some mt ∧ chkI y mt = true
  | [], _, _, i, y, h => by simp at h
  | a :: r, b :: t, hA, i, y, h => by
    cases i with
    | zero => cases h; exact ⟨b, rfl, hA.1⟩
    | succ i => exact All2.get hA.2 i y h
  | _ :: _, [], hA, _, _, _ => hA.elim
theorem mi_all : All2 miL mtL := ⟨ck_P_init, ck_R_init, ck_H_init, ck_S_init, ck_T_init, ck_L_init, ck_E_init, ck_C_init, ck_P_put, ck_R_add, ck_P_set, ck_P_cut, ck_P_size, ck_P_at, ck_R_cell, ck_P_path, ck_P_nameOf, ck_H_add, ck_P_step, ck_P_insert, ck_T_readDocument, ck_T_begin, ck_T_addNode, ck_T_readContent, ck_T_faultAt, ck_T_readBytes, ck_T_readOn, ck_T_closeNest, ck_T_readPart, ck_T_readName, ck_T_element, ck_T_documentNumber, ck_R_signedNumber, ck_S_placeOf, ck_S_keep, ck_R_become, ck_R_addPart, ck_P_fetch, ck_P_remove, ck_S_drop, ck_P_index, ck_H_become, ck_P_entries, ck_L_follow, ck_L_goOn, ck_H_name, ck_L_note, ck_L_entryTotal, ck_L_isNew, ck_T_areEqual, ck_P_where, ck_T_readOperand, ck_C_become, ck_P_anywhere, ck_P_find, ck_P_seek, ck_P_leadingCondition, ck_C_suitsIndex, ck_P_hasIndex, ck_H_isSame, ck_C_holds, ck_C_someIsEqual, ck_T_isEqual, ck_R_compare, ck_C_someHasSize, ck_T_itemTotal, ck_C_someComparesSo, ck_C_difference, ck_C_isSo, ck_P_found, ck_P_examined, ck_P_change, ck_H_isOnly, ck_E_apply, ck_E_aim, ck_E_writeNew, ck_E_openNest, ck_R_addName, ck_H_lastName, ck_E_writeElement, ck_E_alter, ck_E_writeSum, ck_E_writeOthers, ck_E_splice, ck_P_count, ck_M_init, ck_M_put, ck_M_in, ck_M_set, ck_M_cut, ck_M_size, ck_M_at, ck_M_path, ck_M_name, ck_M_isLetter, ck_M_step, ck_M_insert, ck_M_read, ck_M_wrong, ck_M_readPlain, ck_M_readText, ck_M_readName, ck_M_nameEnd, ck_M_behind, ck_M_numberAt, ck_M_value, ck_M_holder, ck_M_move, ck_M_fetch, ck_M_remove, ck_M_count, ck_M_index, ck_M_copyPath, ck_M_entries, ck_M_gather, ck_M_come, ck_M_lead, ck_M_seek, ck_M_isName, ck_M_items, ck_M_turn, ck_M_equal, ck_M_where, ck_M_anywhere, ck_M_find, ck_M_match, ck_M_uses, ck_M_samePath, ck_M_holds, ck_M_isEqual, ck_M_isCompared, ck_M_compare, ck_M_isLong, ck_M_found, ck_M_examined, ck_M_change, ck_M_operate, ck_M_go, ck_M_arrive, ck_M_nameSize, ck_M_addName, ck_M_add, ck_M_addOperand, ck_M_splice, ck_M_setIt, ck_M_addIt, ck_M_pull, trivial⟩
theorem mi_ok (i : Nat) (y : Mi_) (h : miL[i]? = some y) : ∃ mt, mtL[i]? = some mt ∧ chkI y mt = true := All2.get mi_all i y h
