/-! THE START: classes, array classes, nest words out of the tables -/
def cnI : List Nat := [79, 266, 232, 107, 87, 123, 209, 148, 659]
theorem cn_0 : isW (cnI.getD 0 0) (.instantiable Rn0 14) = true := by decide +kernel
theorem cn_1 : isW (cnI.getD 1 0) (.instantiable Rn1 3) = true := by decide +kernel
theorem cn_2 : isW (cnI.getD 2 0) (.instantiable Rn2 8) = true := by decide +kernel
theorem cn_3 : isW (cnI.getD 3 0) (.instantiable Rn3 2) = true := by decide +kernel
theorem cn_4 : isW (cnI.getD 4 0) (.instantiable Rn4 2) = true := by decide +kernel
theorem cn_5 : isW (cnI.getD 5 0) (.instantiable Rn5 3) = true := by decide +kernel
theorem cn_6 : isW (cnI.getD 6 0) (.instantiable Rn6 4) = true := by decide +kernel
theorem cn_7 : isW (cnI.getD 7 0) (.instantiable Rn7 12) = true := by decide +kernel
theorem cn_8 : isW (cnI.getD 8 0) (.instantiable Rn8 26) = true := by decide +kernel
theorem cls_inst (c : Nat) (q : vw_C) (h : cls_[c]? = some q) : Cond.instantiable q.1 q.2.2 ∈ wsG := by
  rcases c with _ | _ | _ | _ | _ | _ | _ | _ | _ | c
  · cases h; exact isW_mem cn_0
  · cases h; exact isW_mem cn_1
  · cases h; exact isW_mem cn_2
  · cases h; exact isW_mem cn_3
  · cases h; exact isW_mem cn_4
  · cases h; exact isW_mem cn_5
  · cases h; exact isW_mem cn_6
  · cases h; exact isW_mem cn_7
  · cases h; exact isW_mem cn_8
  · simp [cls_] at h
theorem st_int : Cond.arrayClass .int ∈ lw_tbl := List.mem_of_getElem? (i := 105) (by decide +kernel)
theorem st_bool : Cond.arrayClass .boolean ∈ lw_tbl := List.mem_of_getElem? (i := 230) (by decide +kernel)
theorem st_over3 : Cond.arrayOver (.object Rn1) ∈ lw_tbl := List.mem_of_getElem? (i := 146) (by decide +kernel)
theorem st_over5 : Cond.arrayOver (.object Rn3) ∈ lw_tbl := List.mem_of_getElem? (i := 144) (by decide +kernel)
theorem st_over6 : Cond.arrayOver (.object Rn4) ∈ lw_tbl := List.mem_of_getElem? (i := 129) (by decide +kernel)
theorem st_nest0 : Cond.methodLinkNest "PathShelf" 20 ⟨"PathShelf$Path", "<init>", "()V"⟩ "PathShelf" ∈ lw_tbl := List.mem_of_getElem? (i := 108) (by decide +kernel)
theorem st_nest1 : Cond.methodLinkNest "PathShelf" 44 ⟨"PathShelf$Tree", "<init>", "()V"⟩ "PathShelf" ∈ lw_tbl := List.mem_of_getElem? (i := 149) (by decide +kernel)
theorem st_nest2 : Cond.methodLinkNest "PathShelf" 51 ⟨"PathShelf$Trail", "<init>", "()V"⟩ "PathShelf" ∈ lw_tbl := List.mem_of_getElem? (i := 210) (by decide +kernel)
theorem st_nest3 : Cond.methodLinkNest "PathShelf" 58 ⟨"PathShelf$Editor", "<init>", "()V"⟩ "PathShelf" ∈ lw_tbl := List.mem_of_getElem? (i := 233) (by decide +kernel)
theorem st_nest4 : Cond.methodLinkNest "PathShelf$Editor" 25 ⟨"PathShelf$Tree", "<init>", "()V"⟩ "PathShelf" ∈ lw_tbl := List.mem_of_getElem? (i := 240) (by decide +kernel)
theorem st_nest5 : Cond.methodLinkNest "PathShelf" 70 ⟨"PathShelf$Condition", "<init>", "()V"⟩ "PathShelf" ∈ lw_tbl := List.mem_of_getElem? (i := 267) (by decide +kernel)
theorem st_nest6 : Cond.methodLinkNest "PathShelf$Condition" 11 ⟨"PathShelf$Path", "<init>", "()V"⟩ "PathShelf" ∈ lw_tbl := List.mem_of_getElem? (i := 272) (by decide +kernel)
theorem st_nest : ∀ q ∈ nsL, Cond.methodLinkNest q.1 q.2.1 q.2.2.1 q.2.2.2 ∈ lw_tbl := List.forall_mem_cons.mpr ⟨st_nest0, List.forall_mem_cons.mpr ⟨st_nest1, List.forall_mem_cons.mpr ⟨st_nest2, List.forall_mem_cons.mpr ⟨st_nest3, List.forall_mem_cons.mpr ⟨st_nest4, List.forall_mem_cons.mpr ⟨st_nest5, List.forall_mem_cons.mpr ⟨st_nest6, fun _ h => absurd h List.not_mem_nil⟩⟩⟩⟩⟩⟩⟩
