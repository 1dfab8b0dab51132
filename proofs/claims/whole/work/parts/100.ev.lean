/-! RUNS THAT END: 'from some fuel on', and how stretches are put together -/
def Fin_ (f : Nat → Option Out_) (o : Out_) : Prop := ∃ n0, ∀ n, n0 ≤ n → f n = some o
def EvC (G : Nat × (Nat → Int32)) (d : Nat) (mt : Mt_) (pc : Nat) (L : List (Option Value)) (st : List Value) (M : Mm_) (o : Out_) : Prop := Fin_ (fun n => am_run G n d mt pc L st M) o
def Ev (G : Nat × (Nat → Int32)) (d y : Nat) (as : List Value) (M : Mm_) (o : Out_) : Prop := Fin_ (fun n => am_cl G n d y as M) o
theorem fin_shift {f : Nat → Option Out_} {o : Out_} (j : Nat) (h : Fin_ f o) : Fin_ (fun n => f (n + j)) o := by
  obtain ⟨n0, h⟩ := h
  exact ⟨n0, fun n hn => h _ (by omega)⟩
theorem fin_seg {G : Nat × (Nat → Int32)} {d : Nat} {mt : Mt_} {pc : Nat} {L : List (Option Value)} {st : List Value} {M : Mm_} {o : Out_} {f : Nat → Option Out_} {A : Prop} (K : Nat) (h : ∀ n, am_run G (n + K) d mt pc L st M = f n) (hA : A → Fin_ f o) (a : A) : EvC G d mt pc L st M o := by
  obtain ⟨n0, h1⟩ := hA a
  refine ⟨n0 + K, fun n hn => ?_⟩
  obtain ⟨k, rfl⟩ : ∃ k, n = k + K := ⟨n - K, by omega⟩
  show am_run G (k + K) d mt pc L st M = some o
  rw [h k]
  exact h1 k (by omega)
theorem fin_if {c : Prop} {hc : Decidable c} {A B : Prop} {f g : Nat → Option Out_} {o : Out_} (hA : A → Fin_ f o) (hB : B → Fin_ g o) (h : if c then A else B) : Fin_ (fun n => if c then f n else g n) o := by
  by_cases q : c
  · rw [if_pos q] at h
    obtain ⟨n0, h1⟩ := hA h
    exact ⟨n0, fun n hn => (if_pos q).trans (h1 n hn)⟩
  · rw [if_neg q] at h
    obtain ⟨n0, h1⟩ := hB h
    exact ⟨n0, fun n hn => (if_neg q).trans (h1 n hn)⟩
theorem fin_ck {c : Bool} {A : Prop} {f : Nat → Option Out_} {o : Out_} (hA : A → Fin_ f o) (h : c = true ∧ A) : Fin_ (fun n => cond c (f n) none) o := by
  obtain ⟨rfl, h⟩ := h
  exact hA h
theorem fin_tt {A : Prop} {f : Nat → Option Out_} {o : Out_} (hA : A → Fin_ f o) (h : A) : Fin_ (fun n => cond true (f n) none) o := hA h
theorem fin_bi {x : Option Nat} {A : Nat → Prop} {f : Nat → Nat → Option Out_} {o : Out_} (hA : ∀ q, A q → Fin_ (f q) o) (h : ∃ q, x = some q ∧ A q) : Fin_ (fun n => x.bind (fun q => f q n)) o := by
  obtain ⟨q, rfl, h⟩ := h
  exact hA q h
theorem fin_run {G : Nat × (Nat → Int32)} {d : Nat} {mt : Mt_} {pc : Nat} {L : List (Option Value)} {st : List Value} {M : Mm_} {o : Out_} (j : Nat) (h : EvC G d mt pc L st M o) : Fin_ (fun n => am_run G (n + j) d mt pc L st M) o := fin_shift j h
theorem fin_ret {o o' : Out_} (h : o = o') : Fin_ (fun _ => some o') o := ⟨0, fun _ _ => by rw [h]⟩
theorem fin_callI {G : Nat × (Nat → Int32)} {d y : Nat} {as : List Value} {M : Mm_} {o : Out_} {g : Nat → Out_ → Option Out_} {A : Int32 → Mm_ → Prop} (j : Nat) (hA : ∀ x M', A x M' → Fin_ (fun n => g n (some (.int x), M')) o) (h : ∃ x M', Ev G d y as M (some (.int x), M') ∧ A x M') : Fin_ (fun n => (am_cl G (n + j) d y as M).bind (g n)) o := by
  obtain ⟨x, M', ⟨n1, h1⟩, h2⟩ := h
  obtain ⟨n2, h3⟩ := hA x M' h2
  refine ⟨n1 + n2, fun n hn => ?_⟩
  show (am_cl G (n + j) d y as M).bind (g n) = some o
  have e : am_cl G (n + j) d y as M = _ := h1 (n + j) (by omega)
  rw [e]
  exact h3 n (by omega)
theorem fin_callV {G : Nat × (Nat → Int32)} {d y : Nat} {as : List Value} {M : Mm_} {o : Out_} {g : Nat → Out_ → Option Out_} {A : Mm_ → Prop} (j : Nat) (hA : ∀ M', A M' → Fin_ (fun n => g n (none, M')) o) (h : ∃ M', Ev G d y as M (none, M') ∧ A M') : Fin_ (fun n => (am_cl G (n + j) d y as M).bind (g n)) o := by
  obtain ⟨M', ⟨n1, h1⟩, h2⟩ := h
  obtain ⟨n2, h3⟩ := hA M' h2
  refine ⟨n1 + n2, fun n hn => ?_⟩
  show (am_cl G (n + j) d y as M).bind (g n) = some o
  have e : am_cl G (n + j) d y as M = _ := h1 (n + j) (by omega)
  rw [e]
  exact h3 n (by omega)
/-- a method by its number -/
theorem ev_of {G : Nat × (Nat → Int32)} {d y : Nat} {q : Mt_ × Nat × Nat} {as : List Value} {M : Mm_} {o : Out_} (hy : mtL[y]? = some q) (h : EvC G d q.1 0 (am_loc q.2.2 as) [] M o) : Ev G d y as M o := by
  obtain ⟨n0, h⟩ := h
  refine ⟨n0, fun n hn => ?_⟩
  show (mtL[y]?).bind _ = _
  rw [hy]
  exact h n hn
theorem tr_if {c : Prop} {hc : Decidable c} {A B A' B' : Prop} (f : A → A') (g : B → B') (h : if c then A else B) : if c then A' else B' := by
  by_cases q : c
  · rw [if_pos q] at h ⊢
    exact f h
  · rw [if_neg q] at h ⊢
    exact g h
theorem tr_ck {c : Bool} {A A' : Prop} (f : A → A') (h : c = true ∧ A) : c = true ∧ A' := ⟨h.1, f h.2⟩
