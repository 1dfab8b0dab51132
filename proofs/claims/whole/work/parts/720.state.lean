/-! FRAMES of ints and references; THE STATE and its two pictures -/
def Fx (P : Nat → Nat → Prop) (M M' : Mm_) : Prop := WM M' ∧ (∀ a j, ¬ P a j → M'.2.2 a j = M.2.2 a j) ∧ ∀ a j, ¬ P a j → M'.2.1 a j = M.2.1 a j
theorem Fx.rf {P : Nat → Nat → Prop} {M : Mm_} (h : WM M) : Fx P M M := ⟨h, fun _ _ _ => rfl, fun _ _ _ => rfl⟩
theorem Fx.tr {P : Nat → Nat → Prop} {M M' M'' : Mm_} (h : Fx P M M') (h' : Fx P M' M'') : Fx P M M'' := ⟨h'.1, fun a j hn => (h'.2.1 a j hn).trans (h.2.1 a j hn), fun a j hn => (h'.2.2 a j hn).trans (h.2.2 a j hn)⟩
theorem Fx.up {P P' : Nat → Nat → Prop} {M M' : Mm_} (h : Fx P M M') (hs : ∀ a j, P a j → P' a j) : Fx P' M M' := ⟨h.1, fun a j hn => h.2.1 a j (fun q => hn (hs a j q)), fun a j hn => h.2.2 a j (fun q => hn (hs a j q))⟩
abbrev WMx (M : Mm_) : Prop := WM M
theorem Fp.x {P : Nat → Nat → Prop} {M M' : Mm_} (f : Fp P M M') (h : WMx M) : Fx P M M' := ⟨f.WM h, fun a j _ => by rw [f.2.1], f.2.2⟩
theorem Fr.x {A : List Nat} {M M' : Mm_} (f : Fr A M M') (h : WMx M) : Fx (fun a _ => a ∈ A) M M' := ⟨f.WM h, fun a j _ => by rw [f.2.1], fun a j hn => by rw [f.2.2 a hn]⟩
theorem FT.x {t : Nat} {M M' : Mm_} (f : FT t M M') (hT : sg0[t]? = some (.inl 7)) (h : WMx M) : Fx (pT t) M M' := ⟨f.WM hT h, fun a j hn => f.2.1 a j (fun e => hn (by unfold pT; omega)), f.2.2⟩
theorem mem2 {a r : Nat} (q : a ∈ [r, r + 1]) : a = r ∨ a = r + 1 := by
  rcases List.mem_cons.mp q with q | q
  · exact Or.inl q
  · exact Or.inr (List.mem_singleton.mp q)
theorem Fx.setI {P : Nat → Nat → Prop} {M : Mm_} {a j : Nat} {x : Int32} (h : WM M) (hp : P a j) : Fx P M (am_setI M a j x) := (Fp.set hp).x h
theorem setR_at {M : Mm_} {a j b : Nat} : (am_setR M a j b).2.2 a j = some b := up2_self _ _ _ _
theorem setR_idx {M : Mm_} {a i j b : Nat} (h : i ≠ j) : (am_setR M a j b).2.2 a i = M.2.2 a i := up2_idx _ _ h
theorem Fx.setR {P : Nat → Nat → Prop} {M : Mm_} {a j b : Nat} (h : WM M) (hn : ∀ c, sg0[a]? = some (.inl c) → ¬ fkT c j = 1) (hp : P a j) : Fx P M (am_setR M a j b) := by
  refine ⟨WM_setR h hn, fun a' j' hq => ?_, fun _ _ _ => rfl⟩
  show up2 M.2.2 a j (some b) a' j' = _
  unfold up2
  split
  · next e1 =>
    split
    · next e2 => subst e1; subst e2; exact absurd hp hq
    · rfl
  · rfl
theorem rowIs.kx {P : Nat → Nat → Prop} {M M' : Mm_} {r cap : Nat} {B : List Int} (h : rowIs M r cap B) (f : Fx P M M') (h1 : ∀ j, ¬ P r j) (h2 : ∀ j, ¬ P (r + 1) j) : rowIs M' r cap B := by
  obtain ⟨a1, a2, a3, a4, a5, a6⟩ := h
  exact ⟨a1, a2, a3, by rw [f.2.2 _ _ (h1 _)]; exact a4, fun i hi => by rw [f.2.2 _ _ (h2 _)]; exact a5 i hi, a6⟩
theorem pthIs.kx {P : Nat → Nat → Prop} {M M' : Mm_} {a : Nat} {Q : List (List Int)} (h : pthIs M a Q) (f : Fx P M M') (h1 : ∀ j, ¬ P a j) (h2 : ∀ j, ¬ P (a + 1) j) : pthIs M' a Q := by
  obtain ⟨a1, a2, a3, a4, a5, a6⟩ := h
  exact ⟨a1, a2, a3, by rw [f.2.2 _ _ (h1 _)]; exact a4, fun i hi => by rw [f.2.2 _ _ (h2 _)]; exact a5 i hi, a6⟩
theorem cnIs.kx {P : Nat → Nat → Prop} {M M' : Mm_} {a : Nat} {Q : List (List Int)} {f : Int} {R : List Int} (h : cnIs M a Q f R) (F : Fx P M M') (hp : ∀ b j, a ≤ b → b ≤ a + 4 → ¬ P b j) : cnIs M' a Q f R := by
  obtain ⟨a1, a2, a3, a4, a5⟩ := h
  exact ⟨a1, a2.kx F (fun j => hp _ _ (by omega) (by omega)) (fun j => hp _ _ (by omega) (by omega)), a3.kx F (fun j => hp _ _ (by omega) (by omega)) (fun j => hp _ _ (by omega) (by omega)), by rw [F.2.2 _ _ (hp _ _ (by omega) (by omega))]; exact a4, a5⟩
/-! the documents -/
abbrev Dc := Int × List Int
def dN (D : List Dc) (k : Nat) : Int := (D.getD k (0, [])).1
def dB (D : List Dc) (k : Nat) : List Int := (D.getD k (0, [])).2
def isRw (r : Nat) : Prop := 8 ≤ r ∧ r ≤ 38 ∧ r % 2 = 0
theorem rw_sg {r : Nat} (h : isRw r) : sg0[r]? = some (.inl 4) ∧ sg0[r + 1]? = some (.inr (0, 60)) := by
  obtain ⟨h1, h2, h3⟩ := h
  have : r = 8 ∨ r = 10 ∨ r = 12 ∨ r = 14 ∨ r = 16 ∨ r = 18 ∨ r = 20 ∨ r = 22 ∨ r = 24 ∨ r = 26 ∨ r = 28 ∨ r = 30 ∨ r = 32 ∨ r = 34 ∨ r = 36 ∨ r = 38 := by omega
  rcases this with rfl | rfl | rfl | rfl | rfl | rfl | rfl | rfl | rfl | rfl | rfl | rfl | rfl | rfl | rfl | rfl <;> exact ⟨rfl, rfl⟩
/-- the rows of the store, in their order -/
def rwF (M : Mm_) (R : Nat → Nat) : Prop := (∀ k, k < 16 → M.2.2 6 k = some (R k) ∧ isRw (R k)) ∧ ∀ i j, i < 16 → j < 16 → R i = R j → i = j
def cSto (M : Mm_) (D : List Dc) : Prop := D.length ≤ 16 ∧ M.2.1 5 2 = zI (D.length : Int) ∧ ∃ R : Nat → Nat, rwF M R ∧ ∀ k, k < D.length → rowIs M (R k) 60 (dB D k) ∧ M.2.1 7 k = zI (dN D k)
def mSto (M : Mm_) (D : List Dc) : Prop := D.length ≤ 16 ∧ M.2.1 91 2 = zI (D.length : Int) ∧ ∀ k, k < D.length → mAt M (64 * k) (dB D k) ∧ M.2.1 93 k = zI ((dB D k).length : Int) ∧ M.2.1 94 k = zI (dN D k)
def okD (D : List Dc) : Prop := (∀ k, k < D.length → (∃ N, rdD (dB D k) = .inr N) ∧ (dB D k).length ≤ 60 ∧ okB (dB D k) ∧ 0 ≤ dN D k ∧ dN D k ≤ 999) ∧ ∀ i j, i < j → j < D.length → dN D i < dN D j
theorem cSto.kx {P : Nat → Nat → Prop} {M M' : Mm_} {D : List Dc} (h : cSto M D) (f : Fx P M M') (hp : ∀ a j, P a j → ¬ (5 ≤ a ∧ a ≤ 39)) : cSto M' D := by
  obtain ⟨h1, h2, R, ⟨h3, h4⟩, h5⟩ := h
  have g : ∀ a j, 5 ≤ a → a ≤ 39 → ¬ P a j := fun a j q1 q2 q => hp a j q ⟨q1, q2⟩
  refine ⟨h1, by rw [f.2.2 _ _ (g _ _ (by omega) (by omega))]; exact h2, R, ⟨fun k hk => by rw [f.2.1 _ _ (g _ _ (by omega) (by omega))]; exact h3 k hk, h4⟩, fun k hk => ?_⟩
  obtain ⟨w1, w2⟩ := h5 k hk
  have hr := (h3 k (by omega)).2
  unfold isRw at hr
  exact ⟨w1.kx f (fun j => g _ _ (by omega) (by omega)) (fun j => g _ _ (by omega) (by omega)), by rw [f.2.2 _ _ (g _ _ (by omega) (by omega))]; exact w2⟩
theorem mSto.kx {P : Nat → Nat → Prop} {M M' : Mm_} {D : List Dc} (h : mSto M D) (hD : okD D) (f : Fx P M M') (hp : ∀ a j, P a j → ¬ ((a = 91 ∧ j = 2) ∨ (a = 92 ∧ j < 1024) ∨ a = 93 ∨ a = 94)) : mSto M' D := by
  obtain ⟨h1, h2, h3⟩ := h
  refine ⟨h1, by rw [f.2.2 _ _ (fun q => hp _ _ q (by omega))]; exact h2, fun k hk => ?_⟩
  obtain ⟨w1, w2, w3⟩ := h3 k hk
  have hl := (hD.1 k hk).2.1
  exact ⟨fun i hi => by rw [f.2.2 _ _ (fun q => hp _ _ q (by omega))]; exact w1 i hi, by rw [f.2.2 _ _ (fun q => hp _ _ q (by omega))]; exact w2, by rw [f.2.2 _ _ (fun q => hp _ _ q (by omega))]; exact w3⟩
/-! index paths -/
def cIxs (M : Mm_) (I : Nat → List (List Int)) : Prop := ∀ i, i < 2 → M.2.2 40 i = some (72 + 2 * i) ∧ pthIs M (72 + 2 * i) (I i)
def mIxs (M : Mm_) (I : Nat → List (List Int)) : Prop := ∀ i, i < 2 → mPth M i (I i)
theorem cIxs.kx {P : Nat → Nat → Prop} {M M' : Mm_} {I : Nat → List (List Int)} (h : cIxs M I) (f : Fx P M M') (hp : ∀ a j, P a j → ¬ (a = 40 ∨ (72 ≤ a ∧ a ≤ 75))) : cIxs M' I := fun i hi => by
  obtain ⟨h1, h2⟩ := h i hi
  exact ⟨by rw [f.2.1 _ _ (fun q => hp _ _ q (by omega))]; exact h1, h2.kx f (fun j q => hp _ _ q (by omega)) (fun j q => hp _ _ q (by omega))⟩
theorem mPth.kx {P : Nat → Nat → Prop} {M M' : Mm_} {j : Nat} {Q : List (List Int)} (h : mPth M j Q) (f : Fx P M M') (h1 : ¬ P 95 j) (h2 : ∀ i, 12 * j ≤ i → i < 12 * j + 12 → ¬ P 96 i) : mPth M' j Q := by
  obtain ⟨a1, a2, a3, a4⟩ := h
  exact ⟨a1, by rw [f.2.2 _ _ h1]; exact a2, fun i hi k hk => by rw [f.2.2 _ _ (h2 _ (by omega) (by omega))]; exact a3 i hi k hk, a4⟩
theorem mIxs.kx {P : Nat → Nat → Prop} {M M' : Mm_} {I : Nat → List (List Int)} (h : mIxs M I) (f : Fx P M M') (hp : ∀ a j, P a j → ¬ ((a = 95 ∧ j < 2) ∨ (a = 96 ∧ j < 24))) : mIxs M' I := fun i hi => (h i hi).kx f (fun q => hp _ _ q (by omega)) (fun j q1 q2 q => hp _ _ q (by omega))
theorem mIn.kx {P : Nat → Nat → Prop} {M M' : Mm_} {o : Nat} {B : List Int} (h : mIn M o B) (f : Fx P M M') (hp : ∀ i, i < B.length → ¬ P 92 (o + i)) : mIn M' o B := ⟨f.1, h.2.1, fun i hi => by rw [f.2.2 _ _ (hp i hi)]; exact h.2.2.1 i hi, h.2.2.2⟩
/-! conditions -/
abbrev Cn := List (List Int) × Int × List Int
def cD (C : List Cn) (c : Nat) : Cn := C.getD c ([], 0, [])
def cCnd (M : Mm_) (C : List Cn) : Prop := C.length ≤ 3 ∧ M.2.1 0 5 = zI (C.length : Int) ∧ (∀ c, c < 3 → M.2.2 41 c = some (76 + 5 * c)) ∧ ∀ c, c < C.length → cnIs M (76 + 5 * c) (cD C c).1 (cD C c).2.1 (cD C c).2.2
def mCnd (M : Mm_) (C : List Cn) : Prop := C.length ≤ 3 ∧ M.2.1 91 7 = zI (C.length : Int) ∧ ∀ c, c < C.length → mcn M c (cD C c).1 (cD C c).2.1 (cD C c).2.2
theorem cCnd.kx {P : Nat → Nat → Prop} {M M' : Mm_} {C : List Cn} (h : cCnd M C) (f : Fx P M M') (hp : ∀ a j, P a j → ¬ ((a = 0 ∧ j = 5) ∨ a = 41 ∨ (76 ≤ a ∧ a ≤ 90))) : cCnd M' C := by
  obtain ⟨h1, h2, h3, h4⟩ := h
  exact ⟨h1, by rw [f.2.2 _ _ (fun q => hp _ _ q (by omega))]; exact h2, fun c hc => by rw [f.2.1 _ _ (fun q => hp _ _ q (by omega))]; exact h3 c hc, fun c hc => (h4 c hc).kx f (fun b j q1 q2 q => hp _ _ q (by omega))⟩
theorem mcn.kx {P : Nat → Nat → Prop} {M M' : Mm_} {c : Nat} {Q : List (List Int)} {f : Int} {R : List Int} (h : mcn M c Q f R) (F : Fx P M M') (hp : ∀ a j, P a j → ¬ ((a = 95 ∧ 3 ≤ j) ∨ (a = 96 ∧ 36 ≤ j) ∨ a = 97 ∨ (a = 92 ∧ 1120 ≤ j ∧ j < 1408))) : mcn M' c Q f R := by
  obtain ⟨h1, h2, h3, h4, h5, h6, h7, h8⟩ := h
  have hl := h5.2.2.2.2
  exact ⟨h1.kx F (fun q => hp _ _ q (by omega)) (fun i _ _ q => hp _ _ q (by omega)), h2.kx F (fun i hi q => hp _ _ q (by omega)), by rw [F.2.2 _ _ (fun q => hp _ _ q (by omega))]; exact h3, h4, h5, h6, h7, h8⟩
theorem mCnd.kx {P : Nat → Nat → Prop} {M M' : Mm_} {C : List Cn} (h : mCnd M C) (f : Fx P M M') (hp : ∀ a j, P a j → ¬ ((a = 91 ∧ j = 7) ∨ (a = 95 ∧ 3 ≤ j) ∨ (a = 96 ∧ 36 ≤ j) ∨ a = 97 ∨ (a = 92 ∧ 1120 ≤ j ∧ j < 1408))) : mCnd M' C := by
  obtain ⟨h1, h2, h3⟩ := h
  exact ⟨h1, by rw [f.2.2 _ _ (fun q => hp _ _ q (by omega))]; exact h2, fun c hc => (h3 c hc).kx f (fun a j q w => hp a j q (by omega))⟩
/-! found numbers; how many were examined -/
def cFnd (M : Mm_) (F : List Int) : Prop := F.length ≤ 16 ∧ M.2.1 0 13 = zI (F.length : Int) ∧ ∀ k, k < F.length → M.2.1 71 k = zI (F.getD k 0)
def mFnd (M : Mm_) (F : List Int) : Prop := F.length ≤ 16 ∧ M.2.1 91 9 = zI (F.length : Int) ∧ ∀ k, k < F.length → M.2.1 98 k = zI (F.getD k 0)
theorem cFnd.kx {P : Nat → Nat → Prop} {M M' : Mm_} {F : List Int} (h : cFnd M F) (f : Fx P M M') (hp : ∀ a j, P a j → ¬ ((a = 0 ∧ j = 13) ∨ a = 71)) : cFnd M' F := by
  obtain ⟨h1, h2, h3⟩ := h
  exact ⟨h1, by rw [f.2.2 _ _ (fun q => hp _ _ q (by omega))]; exact h2, fun k hk => by rw [f.2.2 _ _ (fun q => hp _ _ q (by omega))]; exact h3 k hk⟩
theorem mFnd.kx {P : Nat → Nat → Prop} {M M' : Mm_} {F : List Int} (h : mFnd M F) (f : Fx P M M') (hp : ∀ a j, P a j → ¬ ((a = 91 ∧ j = 9) ∨ a = 98)) : mFnd M' F := by
  obtain ⟨h1, h2, h3⟩ := h
  exact ⟨h1, by rw [f.2.2 _ _ (fun q => hp _ _ q (by omega))]; exact h2, fun k hk => by rw [f.2.2 _ _ (fun q => hp _ _ q (by omega))]; exact h3 k hk⟩
theorem mBuf.kx {P : Nat → Nat → Prop} {M M' : Mm_} {B : List Int} (h : mBuf M B) (f : Fx P M M') (hp : ∀ a j, P a j → ¬ ((a = 91 ∧ j = 1) ∨ (a = 92 ∧ 1024 ≤ j ∧ j < 1104))) : mBuf M' B := by
  obtain ⟨h1, h2, h3, h4⟩ := h
  exact ⟨h1, by rw [f.2.2 _ _ (fun q => hp _ _ q (by omega))]; exact h2, fun i hi => by rw [f.2.2 _ _ (fun q => hp _ _ q (by omega))]; exact h3 i hi, h4⟩
/-! the state -/
abbrev St_ : Type := List Int × List (List Int) × List Dc × (Nat → List (List Int)) × List Cn × List Int × Nat
abbrev St_.buf (S : St_) : List Int := S.1
abbrev St_.typ (S : St_) : List (List Int) := S.2.1
abbrev St_.docs (S : St_) : List Dc := S.2.2.1
abbrev St_.ix (S : St_) : Nat → List (List Int) := S.2.2.2.1
abbrev St_.cnd (S : St_) : List Cn := S.2.2.2.2.1
abbrev St_.fnd (S : St_) : List Int := S.2.2.2.2.2.1
abbrev St_.exm (S : St_) : Nat := S.2.2.2.2.2.2
abbrev St_.sB (S : St_) (x : List Int) : St_ := (x, S.2)
abbrev St_.sT (S : St_) (x : List (List Int)) : St_ := (S.1, x, S.2.2)
abbrev St_.sD (S : St_) (x : List Dc) : St_ := (S.1, S.2.1, x, S.2.2.2)
abbrev St_.sI (S : St_) (x : Nat → List (List Int)) : St_ := (S.1, S.2.1, S.2.2.1, x, S.2.2.2.2)
abbrev St_.sC (S : St_) (x : List Cn) : St_ := (S.1, S.2.1, S.2.2.1, S.2.2.2.1, x, S.2.2.2.2.2)
abbrev St_.sF (S : St_) (x : List Int) : St_ := (S.1, S.2.1, S.2.2.1, S.2.2.2.1, S.2.2.2.2.1, x, S.2.2.2.2.2.2)
abbrev St_.sE (S : St_) (x : Nat) : St_ := (S.1, S.2.1, S.2.2.1, S.2.2.2.1, S.2.2.2.2.1, S.2.2.2.2.2.1, x)
def RepC (M : Mm_) (S : St_) : Prop := WM M ∧ rowIs M 1 80 S.buf ∧ pthIs M 3 S.typ ∧ cSto M S.docs ∧ cIxs M S.ix ∧ cCnd M S.cnd ∧ cFnd M S.fnd ∧ M.2.1 0 11 = zI (S.exm : Int)
def RepM (M : Mm_) (S : St_) : Prop := WM M ∧ mBuf M S.buf ∧ mPth M 2 S.typ ∧ mSto M S.docs ∧ mIxs M S.ix ∧ mCnd M S.cnd ∧ mFnd M S.fnd ∧ M.2.1 91 11 = zI (S.exm : Int)
def Ok (S : St_) : Prop := okD S.docs ∧ S.exm ≤ 16 ∧ ∀ k, k < S.fnd.length → rg (S.fnd.getD k 0)
/-- the class's work cells -/
def gW (a j : Nat) : Prop := (a = 0 ∧ j = 10) ∨ (42 ≤ a ∧ a ≤ 70)
def gC (a _j : Nat) : Prop := a < 91
def gM (a _j : Nat) : Prop := 91 ≤ a
theorem RepC.k {P : Nat → Nat → Prop} {M M' : Mm_} {S : St_} (h : RepC M S) (f : Fx P M M') (hp : ∀ a j, P a j → gW a j ∨ 91 ≤ a) : RepC M' S := by
  obtain ⟨h0, h1, h2, h3, h4, h5, h6, h7⟩ := h
  unfold gW at hp
  exact ⟨f.1, h1.kx f (fun j q => by have := hp _ _ q; omega) (fun j q => by have := hp _ _ q; omega), h2.kx f (fun j q => by have := hp _ _ q; omega) (fun j q => by have := hp _ _ q; omega), h3.kx f (fun a j q => by have := hp _ _ q; omega), h4.kx f (fun a j q => by have := hp _ _ q; omega), h5.kx f (fun a j q => by have := hp _ _ q; omega), h6.kx f (fun a j q => by have := hp _ _ q; omega), by rw [f.2.2 _ _ (fun q => by have := hp _ _ q; omega)]; exact h7⟩
/-- the reference's work cells -/
def gV (a j : Nat) : Prop := (a = 91 ∧ 13 ≤ j) ∨ (a = 92 ∧ 1408 ≤ j) ∨ (99 ≤ a)
theorem RepM.k {P : Nat → Nat → Prop} {M M' : Mm_} {S : St_} (h : RepM M S) (hO : Ok S) (f : Fx P M M') (hp : ∀ a j, P a j → gV a j ∨ a < 91) : RepM M' S := by
  obtain ⟨h0, h1, h2, h3, h4, h5, h6, h7⟩ := h
  unfold gV at hp
  exact ⟨f.1, h1.kx f (fun a j q => by have := hp _ _ q; omega), h2.kx f (fun q => by have := hp _ _ q; omega) (fun i _ _ q => by have := hp _ _ q; omega), h3.kx hO.1 f (fun a j q => by have := hp _ _ q; omega), h4.kx f (fun a j q => by have := hp _ _ q; omega), h5.kx f (fun a j q => by have := hp _ _ q; omega), h6.kx f (fun a j q => by have := hp _ _ q; omega), by rw [f.2.2 _ _ (fun q => by have := hp _ _ q; omega)]; exact h7⟩
theorem okQ_W {M : Mm_} {a t n : Nat} {i : Int32} (h : WM M) (ha : sg0[a]? = some (.inr (t, n))) (hk : (kqT t).isSome = true) (hi : am_in i n = true) : am_okQ M a i = true := by
  unfold am_okQ
  rw [h.1, ha]
  simp [hk, hi]
theorem okS_W {M : Mm_} {a v c n : Nat} {i : Int32} (h : WM M) (ha : sg0[a]? = some (.inr (c + 2, n))) (hv : sg0[v]? = some (.inl c)) (hk : (kqT (c + 2)).isSome = true) (hi : am_in i n = true) : am_okS M a v i = true := by
  unfold am_okS
  rw [h.1, ha, hv]
  simp [hk, hi]
theorem okQ_6 {M : Mm_} {i : Nat} (h : WM M) (hi : i < 16) : am_okQ M 6 (zI (i : Int)) = true := okQ_W h (show sg0[6]? = some (.inr (6, 16)) from rfl) rfl (zI_in (by omega) (by omega) (by omega))
theorem okS_6 {M : Mm_} {i r : Nat} (h : WM M) (hi : i < 16) (hr : isRw r) : am_okS M 6 r (zI (i : Int)) = true := okS_W (c := 4) h (show sg0[6]? = some (.inr (6, 16)) from rfl) (rw_sg hr).1 rfl (zI_in (by omega) (by omega) (by omega))
theorem okQ_40 {M : Mm_} {i : Nat} (h : WM M) (hi : i < 2) : am_okQ M 40 (zI (i : Int)) = true := okQ_W h (show sg0[40]? = some (.inr (5, 2)) from rfl) rfl (zI_in (by omega) (by omega) (by omega))
theorem okQ_41 {M : Mm_} {i : Nat} (h : WM M) (hi : i < 3) : am_okQ M 41 (zI (i : Int)) = true := okQ_W h (show sg0[41]? = some (.inr (3, 3)) from rfl) rfl (zI_in (by omega) (by omega) (by omega))
