def sg0 : List Sh_ := [.inl 0, .inl 4, .inr (0, 80), .inl 3, .inr (0, 3), .inl 5, .inr (6, 16), .inr (0, 16), .inl 4, .inr (0, 60), .inl 4, .inr (0, 60), .inl 4, .inr (0, 60), .inl 4, .inr (0, 60), .inl 4, .inr (0, 60), .inl 4, .inr (0, 60), .inl 4, .inr (0, 60), .inl 4, .inr (0, 60), .inl 4, .inr (0, 60), .inl 4, .inr (0, 60), .inl 4, .inr (0, 60), .inl 4, .inr (0, 60), .inl 4, .inr (0, 60), .inl 4, .inr (0, 60), .inl 4, .inr (0, 60), .inl 4, .inr (0, 60), .inr (5, 2), .inr (3, 3), .inl 7, .inr (0, 80), .inr (0, 80), .inr (0, 80), .inr (0, 80), .inr (0, 80), .inr (0, 80), .inl 4, .inr (0, 0), .inl 6, .inr (0, 80), .inr (0, 80), .inr (1, 80), .inl 2, .inl 4, .inr (0, 160), .inl 4, .inr (0, 60), .inl 7, .inr (0, 80), .inr (0, 80), .inr (0, 80), .inr (0, 80), .inr (0, 80), .inr (0, 80), .inl 4, .inr (0, 0), .inr (0, 3), .inr (0, 16), .inr (0, 16), .inl 3, .inr (0, 3), .inl 3, .inr (0, 3), .inl 1, .inl 3, .inr (0, 3), .inl 4, .inr (0, 80), .inl 1, .inl 3, .inr (0, 3), .inl 4, .inr (0, 80), .inl 1, .inl 3, .inr (0, 3), .inl 4, .inr (0, 80), .inl 8, .inr (0, 1728), .inr (0, 16), .inr (0, 16), .inr (0, 6), .inr (0, 72), .inr (0, 3), .inr (0, 16), .inr (1, 16), .inr (0, 128), .inr (0, 128), .inr (0, 128), .inr (0, 128), .inr (0, 6), .inr (0, 6), .inr (0, 5), .inr (0, 160)]
/-! THE MEMORY behind the constructors: its shapes, its fixed references; frames -/
theorem M0_sh : M0_.1 = sg0 := by decide +kernel
def fixB : Bool := (List.range 108).all fun a => match sg0[a]? with
  | some (.inl c) => (List.range 30).all fun s => !(Nat.beq (fkT c s) 1) || decide (M0_.2.2 a s = some (a + ofT c s))
  | _ => true
theorem fixB_ok : fixB = true := by decide +kernel
theorem fk_len : (fkL.all fun l => Nat.ble l.length 30) = true := by decide +kernel
theorem fk_lt {c s : Nat} (h : ¬ fkT c s = 0) : s < 30 := by
  apply Nat.lt_of_not_le
  intro hs
  apply h
  unfold fkT
  have hl : (fkL.getD c []).length ≤ 30 := by
    rw [List.getD_eq_getElem?_getD]
    cases hc : fkL[c]? with
    | none => simp
    | some l => exact Nat.le_of_ble_eq_true (List.all_eq_true.mp fk_len l (List.mem_of_getElem? hc))
  rw [List.getD_eq_getElem?_getD, List.getElem?_eq_none (by omega)]
  rfl
/-- shapes and fixed references are as made -/
def WM (M : Mm_) : Prop := M.1 = sg0 ∧ ∀ a c s, sg0[a]? = some (.inl c) → fkT c s = 1 → M.2.2 a s = some (a + ofT c s)
theorem WM_M0 : WM M0_ := by
  refine ⟨M0_sh, fun a c s ha hf => ?_⟩
  have hs : s < 30 := fk_lt (c := c) (by rw [hf]; decide)
  have hl : a < 108 := (List.getElem?_eq_some_iff.mp ha).1
  have h := List.all_eq_true.mp fixB_ok a (List.mem_range.mpr hl)
  rw [ha] at h
  have h := List.all_eq_true.mp h s (List.mem_range.mpr hs)
  rw [hf] at h
  simpa using h
section WMS
variable {M : Mm_} {a c s j n t : Nat}
theorem okO_W (h : WM M) (ha : sg0[a]? = some (.inl c)) : am_okO M a c = true := okO_is (by rw [h.1]; exact ha)
theorem okF_W (h : WM M) (ha : sg0[a]? = some (.inl c)) : am_okF M a c s = true := okF_is (by rw [h.1]; exact ha) (fun hf => h.2 a c s ha (Nat.eq_of_beq_eq_true hf))
theorem okP_W (h : WM M) (ha : sg0[a]? = some (.inl c)) {w : Nat} (hf : Nat.beq (min (fkT c s) 1) w = true) : am_okP M a c s w = true := okP_is (by rw [h.1]; exact ha) hf
theorem okA_W (h : WM M) (ha : sg0[a]? = some (.inr (t, n))) {i : Int32} (hi : am_in i n = true) : am_okA M a t i = true := by
  unfold am_okA
  rw [h.1, ha]
  simp [hi]
theorem okA_z (h : WM M) (ha : sg0[a]? = some (.inr (t, n))) {i : Nat} (hi : i < n) (h2 : i < 2147483648) : am_okA M a t (zI i) = true := okA_W h ha (zI_in (by omega) (by omega) (by omega))
theorem len_W (h : WM M) (ha : sg0[a]? = some (.inr (0, n))) : am_len M a = some n := by
  unfold am_len
  rw [h.1, ha]
  rfl
theorem WM_setI (h : WM M) {x : Int32} : WM (am_setI M a j x) := h
theorem WM_setR (h : WM M) {b : Nat} (hn : ∀ c, sg0[a]? = some (.inl c) → ¬ fkT c j = 1) : WM (am_setR M a j b) := by
  refine ⟨h.1, fun a' c s ha hf => ?_⟩
  show up2 M.2.2 a j (some b) a' s = _
  unfold up2
  split
  · next e =>
    subst e
    split
    · next e => subst e; exact absurd hf (hn c ha)
    · exact h.2 a' c s ha hf
  · exact h.2 a' c s ha hf
end WMS
/-- only ints of the cells A have changed -/
def Fr (A : List Nat) (M M' : Mm_) : Prop := M'.1 = M.1 ∧ M'.2.2 = M.2.2 ∧ ∀ a, a ∉ A → M'.2.1 a = M.2.1 a
theorem Fr.rf {A : List Nat} {M : Mm_} : Fr A M M := ⟨rfl, rfl, fun _ _ => rfl⟩
theorem Fr.tr {A : List Nat} {M M' M'' : Mm_} (h : Fr A M M') (h' : Fr A M' M'') : Fr A M M'' := ⟨h'.1.trans h.1, h'.2.1.trans h.2.1, fun a ha => (h'.2.2 a ha).trans (h.2.2 a ha)⟩
theorem Fr.up {A A' : List Nat} {M M' : Mm_} (h : Fr A M M') (hs : ∀ a ∈ A, a ∈ A') : Fr A' M M' := ⟨h.1, h.2.1, fun a ha => h.2.2 a (fun q => ha (hs a q))⟩
theorem Fr.set {A : List Nat} {M : Mm_} {a j : Nat} {x : Int32} (ha : a ∈ A) : Fr A M (am_setI M a j x) := by
  refine ⟨rfl, rfl, fun b hb => ?_⟩
  funext i
  show up2 M.2.1 a j x b i = _
  unfold up2
  rw [if_neg (fun e => hb (by rw [e]; exact ha))]
theorem Fr.WM {A : List Nat} {M M' : Mm_} (h : Fr A M M') (hM : WM M) : WM M' := ⟨h.1.trans hM.1, fun a c s ha hf => by rw [h.2.1]; exact hM.2 a c s ha hf⟩
theorem setI_self {M : Mm_} {a j : Nat} {x : Int32} : (am_setI M a j x).2.1 a j = x := up2_self _ _ _ _
theorem setI_idx {M : Mm_} {a i j : Nat} {x : Int32} (h : i ≠ j) : (am_setI M a j x).2.1 a i = M.2.1 a i := up2_idx _ _ h
theorem setI_cell {M : Mm_} {a b j : Nat} {x : Int32} (h : b ≠ a) : (am_setI M a j x).2.1 b = M.2.1 b := by
  funext i
  exact up2_cell _ _ _ _ h
