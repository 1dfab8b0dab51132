/-! THE CONSTRUCTORS: the store, the class, the reference; the memory behind them -/
theorem new_ref {M : Mm_} {x : Sh_} {a : Nat} (h : a < M.1.length) : (am_new M x).2.2 a = M.2.2 a := by
  funext j
  simp [am_new, rw1, Nat.ne_of_lt h]
theorem setR_ref {M : Mm_} {a b j v : Nat} (h : a ≠ b) : (am_setR M b j v).2.2 a = M.2.2 a := by
  funext i
  simp [am_setR, up2, h]
theorem nR_ref {M : Mm_} {a : Nat} {n : Int} (h : a < M.1.length) : (nR M n).2.2 a = M.2.2 a := by
  unfold nR aA
  rw [setR_ref (by omega), new_ref (by simp [am_new]; omega), new_ref h]
theorem okF_is {M : Mm_} {a c s : Nat} (h : M.1[a]? = some (.inl c)) (hf : Nat.beq (fkT c s) 1 = true → M.2.2 a s = some (a + ofT c s)) : am_okF M a c s = true := by
  unfold am_okF
  rw [okO_is h, Bool.true_and]
  cases e : Nat.beq (fkT c s) 1 with
  | false => rfl
  | true => exact decide_eq_true (hf e)
theorem okS_is {M : Mm_} {a v c n j : Nat} {i : Int32} (h : M.1[a]? = some (.inr (c + 2, n))) (hv : M.1[v]? = some (.inl c)) (hk : kqT (c + 2) = some j) (hi : am_in i n = true) : am_okS M a v i = true := by
  unfold am_okS
  rw [h, hv]
  simp only [hk, hi]
  simp
section CTOR2
variable {G : Nat × (Nat → Int32)} {d : Nat}
theorem S_loop {a : Nat} : ∀ (k i : Nat) (M : Mm_), i + k = 16 → M.1[a]? = some (.inl 5) → M.1[a + 1]? = some (.inr (6, 16)) → M.2.2 a 0 = some (a + 1) → EvC G (d + 2) m_S_init 23 [some (.ref a), some (.int (zI i))] [] M (none, gA (fun M => nR M 60) (a + 1) k i M)
  | 0, i, M, hi, h1, h2, h3 => by
    refine ev_S_init_23 ?_
    rw [if_neg (by rw [zI_lt ⟨by omega, by omega⟩ ⟨by omega, by omega⟩]; omega)]
    rfl
  | k + 1, i, M, hi, h1, h2, h3 => by
    have ha := (List.getElem?_eq_some_iff.mp h1).1
    have ha' := (List.getElem?_eq_some_iff.mp h2).1
    refine ev_S_init_23 ?_
    rw [if_pos (by rw [zI_lt ⟨by omega, by omega⟩ ⟨by omega, by omega⟩]; omega)]
    refine ⟨okF_is h1 (fun _ => h3), okO_is (new_self _ _), _, e_R_init (by decide) (by decide), ?_⟩
    refine ev_S_init_43 ⟨okS_is (c := 4) (j := 4) (nR_get h2) (aA_get (new_self _ _)) rfl (zI_in (by omega) (by omega) (by omega)), ?_⟩
    rw [zI_add, zI_nat (by omega), show (i : Int) + 1 = ((i + 1 : Nat) : Int) by omega]
    exact S_loop k (i + 1) _ (by omega) (nR_get h1) (nR_get h2) (by rw [setR_ref (by omega), nR_ref ha]; exact h3)
theorem e_S_init {M : Mm_} : Ev G (d + 2) 3 [.ref M.1.length] (am_new M (.inl 5)) (none, nS M) := by
  have h := new_self M (.inl 5)
  have i16 : am_in (zI 16) 4000 = true := by decide +kernel
  have e16 : (zI 16).toNatClampNeg = 16 := by decide +kernel
  refine ev_of (q := mt_S_init) rfl (ev_S_init_0 ⟨i16, okP_is (new_get h) rfl, i16, okP_is (new_get (aA_get h)) rfl, ?_⟩)
  have hl : (am_new M (.inl 5)).1.length = M.1.length + 1 := by simp [am_new]
  have h2 : (aA (am_new M (.inl 5)) M.1.length 0 6 16).1[M.1.length + 1]? = some (.inr (6, 16)) := by
    have := new_self (am_new M (.inl 5)) (.inr (6, (zI 16).toNatClampNeg))
    rw [hl, e16] at this
    unfold aA
    rw [e16]
    exact this
  refine S_loop 16 0 (aA (aA (am_new M (.inl 5)) M.1.length 0 6 16) M.1.length 1 0 16) (by omega) (aA_get (aA_get h)) (aA_get h2) ?_
  unfold aA
  simp [am_setR, am_new, up2, rw1]
end CTOR2
/-! the class at 0, the reference at 91 -/
def Ma1 : Mm_ := fA (fun M => nR M 80) (am_new M00 (.inl 0)) 0 0
def Ma2 : Mm_ := fA nH Ma1 0 1
def Ma3 : Mm_ := fA nS Ma2 0 2
def Ma4 : Mm_ := aA (aA Ma3 0 3 5 2) 0 4 3 3
def Ma5 : Mm_ := fA nT Ma4 0 6
def Ma6 : Mm_ := fA nL Ma5 0 7
def Ma7 : Mm_ := aA (aA (fA nE Ma6 0 8) 0 9 0 16) 0 12 0 16
def Ma8 : Mm_ := gA nH 40 2 0 Ma7
def Ma9 : Mm_ := gA nC 41 3 0 Ma8
def Mb1 : Mm_ := aA (aA (aA (am_new Ma9 (.inl 8)) 91 0 0 1728) 91 3 0 16) 91 4 0 16
def Mb2 : Mm_ := aA (aA (aA Mb1 91 5 0 6) 91 6 0 72) 91 8 0 3
def Mb3 : Mm_ := aA (aA (aA Mb2 91 10 0 16) 91 12 1 16) 91 14 0 128
def Mb4 : Mm_ := aA (aA (aA Mb3 91 15 0 128) 91 16 0 128) 91 17 0 128
def Mb5 : Mm_ := aA (aA (aA Mb4 91 18 0 6) 91 19 0 6) 91 21 0 5
def M0_ : Mm_ := aA Mb5 91 24 0 160
section CTOR3
variable {G : Nat × (Nat → Int32)} {d : Nat}
theorem e_P_init : Ev G (d + 4) 0 [.ref 0] (am_new M00 (.inl 0)) (none, Ma9) := by
  refine ev_of (q := mt_P_init) rfl (ev_P_init_0 ⟨okO_is (new_self _ _), _, e_R_init (by decide) (by decide), ?_⟩)
  refine ev_P_init_14 ⟨by decide +kernel, okO_is (new_self _ _), _, e_H_init (M := Ma1), ?_⟩
  refine ev_P_init_25 ⟨by decide +kernel, okO_is (new_self _ _), _, e_S_init (M := Ma2), ?_⟩
  refine ev_P_init_36 ⟨by decide +kernel, by decide +kernel, by decide +kernel, by decide +kernel, by decide +kernel, ?_⟩
  refine ev_P_init_55 ⟨okO_is (new_self _ _), _, e_T_init (M := Ma4), ?_⟩
  refine ev_P_init_63 ⟨by decide +kernel, okO_is (new_self _ _), _, e_L_init (M := Ma5), ?_⟩
  refine ev_P_init_74 ⟨by decide +kernel, okO_is (new_self _ _), _, e_E_init (M := Ma6), ?_⟩
  refine ev_P_init_85 ⟨by decide +kernel, by decide +kernel, by decide +kernel, by decide +kernel, by decide +kernel, ?_⟩
  refine ev_P_init_104 ?_
  have z0 : (zI 0).toNatClampNeg = 0 := by decide +kernel
  have z1 : (zI 1).toNatClampNeg = 1 := by decide +kernel
  have z2 : (zI 2).toNatClampNeg = 2 := by decide +kernel
  have a1 : zI 0 + zI 1 = zI 1 := by decide +kernel
  have a2 : zI 1 + zI 1 = zI 2 := by decide +kernel
  have a3 : zI 2 + zI 1 = zI 3 := by decide +kernel
  refine ev_P_init_106 ?_
  rw [if_pos (by decide +kernel)]
  refine ⟨by decide +kernel, okO_is (new_self _ _), _, e_H_init (M := Ma7), ?_⟩
  refine ev_P_init_123 ⟨by decide +kernel, ?_⟩
  rw [a1, z0]
  refine ev_P_init_106 ?_
  rw [if_pos (by decide +kernel)]
  refine ⟨by decide +kernel, okO_is (new_self _ _), _, e_H_init (M := gA nH 40 1 0 Ma7), ?_⟩
  refine ev_P_init_123 ⟨by decide +kernel, ?_⟩
  rw [a2, z1]
  refine ev_P_init_106 ?_
  rw [if_neg (by decide +kernel)]
  refine ev_P_init_132 ?_
  rw [if_pos (by decide +kernel)]
  refine ⟨by decide +kernel, okO_is (new_self _ _), _, e_C_init (M := Ma8), ?_⟩
  refine ev_P_init_149 ⟨by decide +kernel, ?_⟩
  rw [a1, z0]
  refine ev_P_init_132 ?_
  rw [if_pos (by decide +kernel)]
  refine ⟨by decide +kernel, okO_is (new_self _ _), _, e_C_init (M := gA nC 41 1 0 Ma8), ?_⟩
  refine ev_P_init_149 ⟨by decide +kernel, ?_⟩
  rw [a2, z1]
  refine ev_P_init_132 ?_
  rw [if_pos (by decide +kernel)]
  refine ⟨by decide +kernel, okO_is (new_self _ _), _, e_C_init (M := gA nC 41 2 0 Ma8), ?_⟩
  refine ev_P_init_149 ⟨by decide +kernel, ?_⟩
  rw [a3, z2]
  refine ev_P_init_132 ?_
  rw [if_neg (by decide +kernel)]
  rfl
theorem e_M_init : Ev G (d + 1) 85 [.ref 91] (am_new Ma9 (.inl 8)) (none, M0_) := by
  refine ev_of (q := mt_M_init) rfl (ev_M_init_0 ⟨by decide +kernel, by decide +kernel, by decide +kernel, by decide +kernel, by decide +kernel, by decide +kernel, ?_⟩)
  refine ev_M_init_29 (M := Mb1) ⟨by decide +kernel, by decide +kernel, by decide +kernel, by decide +kernel, by decide +kernel, by decide +kernel, ?_⟩
  refine ev_M_init_52 (M := Mb2) ⟨by decide +kernel, by decide +kernel, by decide +kernel, by decide +kernel, by decide +kernel, by decide +kernel, ?_⟩
  refine ev_M_init_77 (M := Mb3) ⟨by decide +kernel, by decide +kernel, by decide +kernel, by decide +kernel, by decide +kernel, by decide +kernel, ?_⟩
  refine ev_M_init_104 (M := Mb4) ⟨by decide +kernel, by decide +kernel, by decide +kernel, by decide +kernel, by decide +kernel, by decide +kernel, ?_⟩
  exact ev_M_init_127 (M := Mb5) ⟨by decide +kernel, by decide +kernel, rfl⟩
end CTOR3
/-- all ints are 0 -/
def Z0 (M : Mm_) : Prop := ∀ a j, M.2.1 a j = 0
theorem Z0_new {M : Mm_} {x : Sh_} (h : Z0 M) : Z0 (am_new M x) := by
  intro a j
  show rw1 M.2.1 M.1.length (fun _ => 0) a j = 0
  unfold rw1
  split
  · rfl
  · exact h a j
theorem Z0_aA {M : Mm_} {a s t : Nat} {n : Int} (h : Z0 M) : Z0 (aA M a s t n) := Z0_new (x := .inr (t, (zI n).toNatClampNeg)) h
theorem Z0_nR {M : Mm_} {n : Int} (h : Z0 M) : Z0 (nR M n) := Z0_aA (Z0_new h)
theorem Z0_nH {M : Mm_} (h : Z0 M) : Z0 (nH M) := Z0_aA (Z0_new h)
theorem Z0_nT {M : Mm_} (h : Z0 M) : Z0 (nT M) := Z0_nR (n := 0) (M := tT (am_new M (.inl 7)) M.1.length) (Z0_aA (Z0_aA (Z0_aA (Z0_aA (Z0_aA (Z0_aA (Z0_new h)))))))
theorem Z0_nL {M : Mm_} (h : Z0 M) : Z0 (nL M) := Z0_aA (Z0_aA (Z0_aA (Z0_new h)))
theorem Z0_fA {f : Mm_ → Mm_} (hf : ∀ {M : Mm_}, Z0 M → Z0 (f M)) {M : Mm_} {a s : Nat} (h : Z0 M) : Z0 (fA f M a s) := hf h
theorem Z0_nE {M : Mm_} (h : Z0 M) : Z0 (nE M) := Z0_aA (Z0_fA Z0_nT (Z0_fA (f := fun M => nR M 60) Z0_nR (Z0_fA (f := fun M => nR M 160) Z0_nR (Z0_new h))))
theorem Z0_nC {M : Mm_} (h : Z0 M) : Z0 (nC M) := Z0_fA (f := fun M => nR M 80) Z0_nR (Z0_fA Z0_nH (Z0_new h))
theorem Z0_gA {f : Mm_ → Mm_} (hf : ∀ {M : Mm_}, Z0 M → Z0 (f M)) {a : Nat} : ∀ (k i : Nat) {M : Mm_}, Z0 M → Z0 (gA f a k i M)
  | 0, _, _, h => h
  | k + 1, i, _, h => Z0_gA hf k (i + 1) (M := am_setR (f _) a i _) (hf h)
theorem Z0_nS {M : Mm_} (h : Z0 M) : Z0 (nS M) := Z0_gA (f := fun M => nR M 60) Z0_nR 16 0 (Z0_aA (Z0_aA (Z0_new h)))
theorem Z0_M0 : Z0 M0_ := by
  have h1 : Z0 Ma1 := Z0_fA (f := fun M => nR M 80) Z0_nR (Z0_new (fun _ _ => rfl))
  have h3 : Z0 Ma3 := Z0_fA Z0_nS (Z0_fA Z0_nH h1)
  have h7 : Z0 Ma7 := Z0_aA (Z0_aA (Z0_fA Z0_nE (Z0_fA Z0_nL (Z0_fA Z0_nT (Z0_aA (Z0_aA h3))))))
  have h9 : Z0 Ma9 := Z0_gA Z0_nC 3 0 (Z0_gA Z0_nH 2 0 h7)
  have b1 : Z0 Mb1 := Z0_aA (Z0_aA (Z0_aA (Z0_new h9)))
  have b3 : Z0 Mb3 := Z0_aA (Z0_aA (Z0_aA (Z0_aA (Z0_aA (Z0_aA b1)))))
  have b5 : Z0 Mb5 := Z0_aA (Z0_aA (Z0_aA (Z0_aA (Z0_aA (Z0_aA b3)))))
  exact Z0_aA b5
