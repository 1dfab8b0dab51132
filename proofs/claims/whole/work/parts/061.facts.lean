def yT (c j : Nat) : FieldType := ((cls_[c]?).bind fun q => parseFieldDescriptor (q.2.1 j).2.2.1).getD .int
def isRefTy : FieldType → Bool
  | .object _ => true
  | .array _ => true
  | _ => false
def chkC (c : Nat) (q : vw_C) (is : List Nat) : Bool := (List.range q.2.2).all fun k => isW (is.getD k 0) (u_lay q.1 q.2.1 k) && decide (parseFieldDescriptor (q.2.1 k).2.2.1 = some (yT c k)) && decide (defaultValue (yT c k) = if fkT c k = 0 then .int 0 else .null) && ((List.range q.2.2).all fun j => Nat.beq k j || decide ((q.2.1 k).2.1 ≠ (q.2.1 j).2.1)) && (!(Nat.beq (fkT c k) 0) || decide (yT c k = .int)) && (Nat.beq (fkT c k) 0 || isRefTy (yT c k))
theorem cl_0 : chkC 0 (Rn0, Tn0, 14) (clI.getD 0 []) = true := by decide +kernel
theorem cl_1 : chkC 1 (Rn1, Tn1, 3) (clI.getD 1 []) = true := by decide +kernel
theorem cl_2 : chkC 2 (Rn2, Tn2, 8) (clI.getD 2 []) = true := by decide +kernel
theorem cl_3 : chkC 3 (Rn3, Tn3, 2) (clI.getD 3 []) = true := by decide +kernel
theorem cl_4 : chkC 4 (Rn4, Tn4, 2) (clI.getD 4 []) = true := by decide +kernel
theorem cl_5 : chkC 5 (Rn5, Tn5, 3) (clI.getD 5 []) = true := by decide +kernel
theorem cl_6 : chkC 6 (Rn6, Tn6, 4) (clI.getD 6 []) = true := by decide +kernel
theorem cl_7 : chkC 7 (Rn7, Tn7, 12) (clI.getD 7 []) = true := by decide +kernel
theorem cl_8 : chkC 8 (Rn8, Tn8, 26) (clI.getD 8 []) = true := by decide +kernel
theorem cl_all : ∀ (c : Nat) (q : vw_C), cls_[c]? = some q → chkC c q (clI.getD c []) = true := by
  intro c q h
  rcases c with _ | _ | _ | _ | _ | _ | _ | _ | _ | c
  · cases h; exact cl_0
  · cases h; exact cl_1
  · cases h; exact cl_2
  · cases h; exact cl_3
  · cases h; exact cl_4
  · cases h; exact cl_5
  · cases h; exact cl_6
  · cases h; exact cl_7
  · cases h; exact cl_8
  · simp [cls_] at h
theorem cls_ok (c : Nat) (q : vw_C) (h : cls_[c]? = some q) : (∀ w ∈ u_ws q.1 q.2.1 q.2.2, w ∈ wsG) ∧ (∀ k, k < q.2.2 → parseFieldDescriptor (q.2.1 k).2.2.1 = some (yT c k)) ∧ (∀ a, a < q.2.2 → ∀ b, b < q.2.2 → a ≠ b → (q.2.1 a).2.1 ≠ (q.2.1 b).2.1) ∧ (∀ k, k < q.2.2 → defaultValue (yT c k) = if fkT c k = 0 then .int 0 else .null) ∧ ∀ k, k < q.2.2 → (fkT c k = 0 → yT c k = .int) ∧ (¬ fkT c k = 0 → isRefTy (yT c k) = true) := by
  have hc := cl_all c q h
  unfold chkC at hc
  simp only [List.all_eq_true, List.mem_range, Bool.and_eq_true, decide_eq_true_eq] at hc
  refine ⟨fun w hw => ?_, fun k hk => (hc k hk).1.1.1.1.2, fun a ha b hb hne => ?_, fun k hk => (hc k hk).1.1.1.2, fun k hk => ⟨fun h0 => ?_, fun h0 => ?_⟩⟩
  · obtain ⟨k, hk, rfl⟩ := List.mem_map.mp hw
    exact isW_mem (hc k (List.mem_range.mp hk)).1.1.1.1.1
  · have := (hc a ha).1.1.2 b hb
    rw [Bool.or_eq_true] at this
    rcases this with h1 | h1
    · exact absurd (Nat.eq_of_beq_eq_true h1) hne
    · exact of_decide_eq_true h1
  · have := (hc k hk).1.2
    rw [h0] at this
    simpa using this
  · have := (hc k hk).2
    rw [Bool.or_eq_true] at this
    rcases this with h1 | h1
    · exact absurd (Nat.eq_of_beq_eq_true h1) h0
    · exact h1
theorem nf_some {c j : Nat} (h : j < nfT c) : ∃ q, cls_[c]? = some q ∧ j < q.2.2 := by
  unfold nfT at h
  cases hq : cls_[c]? with
  | none => rw [hq] at h; exact absurd h (Nat.not_lt_zero _)
  | some q => rw [hq] at h; exact ⟨q, rfl, h⟩
theorem yT_int {c j : Nat} (hj : j < nfT c) (hf : fkT c j = 0) (x : Int32) : narrow (yT c j) (.int x) = .int x ∧ fits (yT c j) (.int x) = true := by
  obtain ⟨q, hq, h⟩ := nf_some hj
  rw [((cls_ok c q hq).2.2.2.2 j h).1 hf]
  exact ⟨rfl, rfl⟩
theorem yT_ref {c j : Nat} (hj : j < nfT c) (hf : ¬ fkT c j = 0) (a : Nat) : narrow (yT c j) (.ref a) = .ref a ∧ fits (yT c j) (.ref a) = true := by
  obtain ⟨q, hq, h⟩ := nf_some hj
  have := ((cls_ok c q hq).2.2.2.2 j h).2 hf
  cases hy : yT c j with
  | object s => exact ⟨rfl, rfl⟩
  | array s => exact ⟨rfl, rfl⟩
  | _ => rw [hy] at this; cases this
theorem kq_ok (K : Nat → ClassId) {ci j : Nat} (h : kqT (ci + 2) = some j) : ∃ r : vw_C, cls_[ci]? = some r ∧ (am_tys K)[j]? = some (K (ci + 2), .object r.1) := by
  rcases ci with _ | _ | _ | _ | _ | _ | _ | _ | _ | ci
  · cases h
  · cases h; exact ⟨_, rfl, rfl⟩
  · cases h
  · cases h; exact ⟨_, rfl, rfl⟩
  · cases h; exact ⟨_, rfl, rfl⟩
  · cases h
  · cases h
  · cases h
  · cases h
  · simp [kqT] at h
theorem kq_two {t j : Nat} (h : kqT t = some j) : ∃ ci, t = ci + 2 := by
  rcases t with _ | _ | t
  · cases h
  · cases h
  · exact ⟨t, rfl⟩
theorem ok_objI : isW 84 (.instanceMethod Lib.objectInit) = true := by decide +kernel
theorem ok_objC : isW 85 (.code Lib.objectInit ⟨#[0xb1]⟩ 1 none) = true := by decide +kernel
theorem ok_cpyN : isW 470 (.native arraycopyName) = true := by decide +kernel
theorem ok_cpyS : isW 469 (.static arraycopyName) = true := by decide +kernel
theorem ok_cpyI : isW 77 (.initialized "java/lang/System") = true := by decide +kernel
