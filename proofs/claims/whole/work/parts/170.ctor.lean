/-! THE CONSTRUCTORS on the abstract memory -/
theorem new_self (M : Mm_) (x : Sh_) : (am_new M x).1[M.1.length]? = some x := by simp [am_new]
theorem new_get {M : Mm_} {x y : Sh_} {a : Nat} (h : M.1[a]? = some y) : (am_new M x).1[a]? = some y := by
  have := (List.getElem?_eq_some_iff.mp h).1
  show (M.1 ++ [x])[a]? = some y
  rw [List.getElem?_append_left this, h]
theorem okO_is {M : Mm_} {a c : Nat} (h : M.1[a]? = some (.inl c)) : am_okO M a c = true := decide_eq_true h
theorem okP_is {M : Mm_} {a c s w : Nat} (h : M.1[a]? = some (.inl c)) (hf : Nat.beq (min (fkT c s) 1) w = true) : am_okP M a c s w = true := by
  unfold am_okP
  rw [okO_is h, hf]
  rfl
/-- a new array into a field -/
def aA (M : Mm_) (a s t : Nat) (n : Int) : Mm_ := am_setR (am_new M (.inr (t, (zI n).toNatClampNeg))) a s M.1.length
theorem aA_get {M : Mm_} {x : Sh_} {a b s t : Nat} {n : Int} (h : M.1[b]? = some x) : (aA M a s t n).1[b]? = some x := new_get h
def nR (M : Mm_) (n : Int) : Mm_ := aA (am_new M (.inl 4)) M.1.length 0 0 n
def nH (M : Mm_) : Mm_ := aA (am_new M (.inl 3)) M.1.length 0 0 3
def tT (M : Mm_) (a : Nat) : Mm_ := aA (aA (aA (aA (aA (aA M a 0 0 80) a 1 0 80) a 2 0 80) a 3 0 80) a 4 0 80) a 5 0 80
def nT (M : Mm_) : Mm_ := am_setR (nR (tT (am_new M (.inl 7)) M.1.length) 0) M.1.length 7 (tT (am_new M (.inl 7)) M.1.length).1.length
def nL (M : Mm_) : Mm_ := aA (aA (aA (am_new M (.inl 6)) M.1.length 0 0 80) M.1.length 1 0 80) M.1.length 2 1 80
/-- an object made by f into a field -/
def fA (f : Mm_ → Mm_) (M : Mm_) (a s : Nat) : Mm_ := am_setR (f M) a s M.1.length
def nE (M : Mm_) : Mm_ := aA (fA nT (fA (fun M => nR M 60) (fA (fun M => nR M 160) (am_new M (.inl 2)) M.1.length 0) M.1.length 1) M.1.length 2) M.1.length 3 0 3
def nC (M : Mm_) : Mm_ := fA (fun M => nR M 80) (fA nH (am_new M (.inl 1)) M.1.length 0) M.1.length 1
/-- k objects made by f into an array, from place i on -/
def gA (f : Mm_ → Mm_) (a : Nat) : Nat → Nat → Mm_ → Mm_
  | 0, _, M => M
  | k + 1, i, M => gA f a k (i + 1) (am_setR (f M) a i M.1.length)
def nS (M : Mm_) : Mm_ := gA (fun M => nR M 60) (M.1.length + 1) 16 0 (aA (aA (am_new M (.inl 5)) M.1.length 0 6 16) M.1.length 1 0 16)
section CTOR
variable {G : Nat × (Nat → Int32)} {d : Nat} {M : Mm_} {x : Sh_} {a b : Nat}
theorem nR_get {n : Int} (h : M.1[a]? = some x) : (nR M n).1[a]? = some x := aA_get (new_get h)
theorem nH_get (h : M.1[a]? = some x) : (nH M).1[a]? = some x := aA_get (new_get h)
theorem tT_get (h : M.1[a]? = some x) : (tT M b).1[a]? = some x := aA_get (aA_get (aA_get (aA_get (aA_get (aA_get h)))))
theorem nT_get (h : M.1[a]? = some x) : (nT M).1[a]? = some x := nR_get (tT_get (new_get h))
theorem e_R_init {n : Int} (h0 : 0 ≤ n) (hn : n < 4000) : Ev G (d + 1) 1 [.ref M.1.length, .int (zI n)] (am_new M (.inl 4)) (none, nR M n) :=
  ev_of (q := mt_R_init) rfl (ev_R_init_0 ⟨zI_in h0 hn (by omega), okP_is (new_get (new_self _ _)) rfl, rfl⟩)
theorem e_H_init : Ev G (d + 1) 2 [.ref M.1.length] (am_new M (.inl 3)) (none, nH M) :=
  ev_of (q := mt_H_init) rfl (ev_H_init_0 ⟨by decide +kernel, okP_is (new_get (new_self _ _)) rfl, rfl⟩)
theorem e_T_init : Ev G (d + 2) 4 [.ref M.1.length] (am_new M (.inl 7)) (none, nT M) := by
  have h := new_self M (.inl 7)
  have i80 : am_in (zI 80) 4000 = true := by decide +kernel
  refine ev_of (q := mt_T_init) rfl (ev_T_init_0 ⟨i80, okP_is (new_get h) rfl, i80, okP_is (new_get (aA_get h)) rfl, i80, okP_is (new_get (aA_get (aA_get h))) rfl, ?_⟩)
  refine ev_T_init_28 ⟨i80, okP_is (new_get (aA_get (aA_get (aA_get h)))) rfl, i80, okP_is (new_get (aA_get (aA_get (aA_get (aA_get h))))) rfl, i80, okP_is (new_get (aA_get (aA_get (aA_get (aA_get (aA_get h)))))) rfl, ?_⟩
  refine ev_T_init_52 ⟨okO_is (new_self _ _), _, e_R_init (M := tT (am_new M (.inl 7)) M.1.length) (by decide) (by decide), ?_⟩
  exact ev_T_init_61 ⟨okP_is (nR_get (tT_get h)) rfl, rfl⟩
theorem e_L_init : Ev G (d + 1) 5 [.ref M.1.length] (am_new M (.inl 6)) (none, nL M) := by
  have h := new_self M (.inl 6)
  have i80 : am_in (zI 80) 4000 = true := by decide +kernel
  exact ev_of (q := mt_L_init) rfl (ev_L_init_0 ⟨i80, okP_is (new_get h) rfl, i80, okP_is (new_get (aA_get h)) rfl, i80, okP_is (new_get (aA_get (aA_get h))) rfl, ev_L_init_28 rfl⟩)
theorem fA_get {f : Mm_ → Mm_} {s : Nat} (hf : ∀ {N : Mm_} {a : Nat} {x : Sh_}, N.1[a]? = some x → (f N).1[a]? = some x) (h : M.1[a]? = some x) : (fA f M b s).1[a]? = some x := hf (N := M) h
theorem e_E_init : Ev G (d + 3) 6 [.ref M.1.length] (am_new M (.inl 2)) (none, nE M) := by
  have h := new_self M (.inl 2)
  refine ev_of (q := mt_E_init) rfl (ev_E_init_0 ⟨okO_is (new_self _ _), _, e_R_init (by decide) (by decide), ?_⟩)
  refine ev_E_init_15 ⟨okP_is (nR_get h) rfl, okO_is (new_self _ _), _, e_R_init (M := fA (fun M => nR M 160) (am_new M (.inl 2)) M.1.length 0) (by decide) (by decide), ?_⟩
  have h1 : (fA (fun M => nR M 160) (am_new M (.inl 2)) M.1.length 0).1[M.1.length]? = some (.inl 2) := nR_get h
  refine ev_E_init_28 ⟨okP_is (nR_get h1) rfl, okO_is (new_self _ _), _, e_T_init (M := fA (fun M => nR M 60) (fA (fun M => nR M 160) (am_new M (.inl 2)) M.1.length 0) M.1.length 1), ?_⟩
  have h2 : (fA (fun M => nR M 60) (fA (fun M => nR M 160) (am_new M (.inl 2)) M.1.length 0) M.1.length 1).1[M.1.length]? = some (.inl 2) := nR_get h1
  exact ev_E_init_39 ⟨okP_is (nT_get h2) rfl, by decide +kernel, okP_is (new_get (nT_get h2)) rfl, rfl⟩
theorem e_C_init : Ev G (d + 2) 7 [.ref M.1.length] (am_new M (.inl 1)) (none, nC M) := by
  have h := new_self M (.inl 1)
  refine ev_of (q := mt_C_init) rfl (ev_C_init_0 ⟨okO_is (new_self _ _), _, e_H_init, ?_⟩)
  refine ev_C_init_12 ⟨okP_is (nH_get h) rfl, okO_is (new_self _ _), _, e_R_init (M := fA nH (am_new M (.inl 1)) M.1.length 0) (by decide) (by decide), ?_⟩
  have h1 : (fA nH (am_new M (.inl 1)) M.1.length 0).1[M.1.length]? = some (.inl 1) := nH_get h
  exact ev_C_init_25 ⟨okP_is (nR_get h1) rfl, rfl⟩
end CTOR
