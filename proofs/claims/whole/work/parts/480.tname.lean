/-! THE CLASS's TREE: element, readName -/
def elG (N : List Nd) (c x : Int) : Nat → Nat → Int
  | 0, _ => -1
  | r + 1, k => if rPa N k = c ∧ rNm N k = x then k else elG N c x r (k + 1)
theorem elG_none {N : List Nd} {c x : Int} : ∀ (r k : Nat), elG N c x r k = -1 ↔ ∀ j, k ≤ j → j < k + r → ¬ (rPa N j = c ∧ rNm N j = x)
  | 0, k => ⟨fun _ j h1 h2 => (by omega), fun _ => rfl⟩
  | r + 1, k => by
    unfold elG
    by_cases e : rPa N k = c ∧ rNm N k = x
    · rw [if_pos e]
      exact ⟨fun h => by omega, fun h => absurd e (h k (Nat.le_refl _) (by omega))⟩
    · rw [if_neg e, elG_none r (k + 1)]
      constructor
      · intro h j h1 h2
        by_cases ej : j = k
        · subst ej; exact e
        · exact h j (by omega) (by omega)
      · exact fun h j h1 h2 => h j (by omega) (by omega)
theorem elG_rg {N : List Nd} {c x : Int} : ∀ (r k : Nat), -1 ≤ elG N c x r k ∧ elG N c x r k < (k : Int) + r + 1
  | 0, k => ⟨Int.le_refl _, by show (-1 : Int) < _; omega⟩
  | r + 1, k => by
    unfold elG
    have := elG_rg (N := N) (c := c) (x := x) r (k + 1)
    split <;> omega
theorem el_has {B : List Int} {N : List Nd} {c : Nat} {x : Int} (hN : ∀ k, k < N.length → NdOk B N k) (hc : c < N.length) : elG N c x (N.length - (c + 1)) (c + 1) = -1 ↔ hasNm N c x = false := by
  rw [elG_none]
  constructor
  · intro h
    cases e : hasNm N c x with
    | false => rfl
    | true =>
      obtain ⟨k, hk, h2⟩ := List.any_eq_true.mp e
      have hk := List.mem_range.mp hk
      have h2 := of_decide_eq_true h2
      have := hold_lt hN hk h2.1
      exact absurd h2 (h k (by omega) (by omega))
  · intro h j h1 h2 q
    have : hasNm N c x = true := List.any_eq_true.mpr ⟨j, List.mem_range.mpr (by omega), decide_eq_true q⟩
    rw [this] at h
    cases h
/-- its name is the number of some letters -/
def isN' (N : List Nd) (k : Nat) : Prop := ∃ ls, isN ls ∧ rNm N k = pk ls
theorem nm_rg {B : List Int} {N : List Nd} {c k : Nat} (hN : ∀ k, k < N.length → NdOk B N k) (h3 : rTy N c = 3) (hk : k < N.length) (hp : rPa N k = (c : Int)) : isN' N k := by
  obtain ⟨-, -, -, h, -⟩ := hN k hk
  obtain ⟨-, -, -, h4, -⟩ := h c hp
  obtain ⟨ls, a1, a2, a3, -, -, -, a7⟩ := h4 h3
  exact ⟨ls, ⟨a1, a2, a3⟩, a7⟩
section TNAME
variable {G : Nat × (Nat → Int32)} {d : Nat} {t q cap : Nat} {B : List Int} {N : List Nd}
theorem element_loop {M : Mm_} {c : Nat} {x : Int} (hW : WM M) (hT : treeSh t) (h6 : M.2.1 t 6 = zI N.length) (hN : tN M t N) (hl : N.length ≤ 80) (hpa : ∀ k, k < N.length → rg (rPa N k)) (hnm : ∀ k, k < N.length → rPa N k = (c : Int) → rg (rNm N k)) (hx : rg x) (hc : c < 80) : ∀ (r k : Nat), k + r = N.length → EvC G d m_T_element 4 [some (.ref t), some (.int (zI c)), some (.int (zI x)), some (.int (zI k))] [] M (some (.int (zI (elG N c x r k))), M)
  | 0, k, hk => by
    refine ev_T_element_4 ⟨okF_W hW hT.1, ?_⟩
    rw [h6, if_neg (fun c => by rw [zI_lt ⟨by omega, by omega⟩ ⟨by omega, by omega⟩] at c; omega)]
    rfl
  | r + 1, k, hk => by
    have ih := element_loop hW hT h6 hN hl hpa hnm hx hc r (k + 1) (by omega)
    obtain ⟨-, a2, -, -, a5⟩ := hN k (by omega)
    refine ev_T_element_4 ⟨okF_W hW hT.1, ?_⟩
    rw [h6, if_pos ((zI_lt ⟨by omega, by omega⟩ ⟨by omega, by omega⟩).mpr (by omega)), zI_nat (by omega), a2, a5, zI_add, show (k : Int) + 1 = ((k + 1 : Nat) : Int) by omega]
    refine ⟨okF_W hW hT.1, okA_z hW (hT.2 6 (by omega) (by omega)) (by omega) (by omega), ?_⟩
    unfold elG
    by_cases c1 : rPa N k = (c : Int)
    · rw [if_pos (by rw [c1])]
      refine ⟨okF_W hW hT.1, okA_z hW (hT.2 2 (by omega) (by omega)) (by omega) (by omega), ?_⟩
      by_cases c2 : rNm N k = x
      · rw [if_pos (by rw [c2]), if_pos ⟨c1, c2⟩]
      · rw [if_neg (zI_ne (hnm k (by omega) c1) hx c2), if_neg (fun c => c2 c.2)]
        exact ih
    · rw [if_neg (zI_ne (hpa k (by omega)) ⟨by omega, by omega⟩ c1), if_neg (fun c => c1 c.1)]
      exact ih
theorem e_T_element {M : Mm_} {c : Nat} {x : Int} (hW : WM M) (hT : treeSh t) (h6 : M.2.1 t 6 = zI N.length) (hN : tN M t N) (hl : N.length ≤ 80) (hpa : ∀ k, k < N.length → rg (rPa N k)) (hnm : ∀ k, k < N.length → rPa N k = (c : Int) → rg (rNm N k)) (hx : rg x) (hc : c < N.length) : Ev G d 30 [.ref t, .int (zI c), .int (zI x)] M (some (.int (zI (elG N c x (N.length - (c + 1)) (c + 1)))), M) := by
  refine ev_of (q := mt_T_element) rfl (ev_T_element_0 ?_)
  rw [zI_add, show (c : Int) + 1 = ((c + 1 : Nat) : Int) by omega]
  exact element_loop hW hT h6 hN hl hpa hnm hx (by omega) _ _ (by omega)
def rdN' (B : List Int) (N : List Nd) (o : Int) (p0 : Nat) : Nat ⊕ (Int × Nat) → Nat ⊕ (Int × Nat)
  | .inl f => .inl f
  | .inr (x, q) => if by_ B q = 0 then (if hasNm N o x = true then .inl p0 else .inr (x, q + 1)) else .inl q
theorem rdN_eq (B : List Int) (N : List Nd) (o : Int) (p : Nat) : rdN B N o p = rdN' B N o p (rdL B 4 true 0 p) := by
  unfold rdN rdN'
  cases rdL B 4 true 0 p <;> rfl
def nv : Nat ⊕ (Int × Nat) → Int
  | .inl _ => 0
  | .inr z => z.1
def nmO (M M' : Mm_) (t : Nat) : Nat ⊕ (Int × Nat) → Prop
  | .inl f => M'.2.1 t 9 = zI f
  | .inr z => M'.2.1 t 8 = zI z.2 ∧ M'.2.1 t 9 = M.2.1 t 9
theorem rb1 {lo hi : Int} {p : Nat} : rb B lo hi 1 p = if lo ≤ by_ B p ∧ by_ B p ≤ hi then .inr (p + 1) else .inl p := rfl
/-- what stays over a reading of bytes -/
def tSt (M : Mm_) (t q cap : Nat) (B : List Int) (N : List Nd) (c : Nat) : Prop := tEn M t q cap B ∧ M.2.1 t 6 = zI N.length ∧ M.2.1 t 10 = zI c ∧ tN M t N ∧ N.length ≤ 80 ∧ (∀ k, k < N.length → NdOk B N k) ∧ c < N.length ∧ rTy N c = 3
theorem tN.keptp {P : Nat → Nat → Prop} {M M' : Mm_} (h : tN M t N) (f : Fp P M M') (hP : ∀ i j, 1 ≤ i → i ≤ 6 → i ≠ 5 → ¬ P (t + i) j) : tN M' t N := fun k hk => by
  rw [f.2.2 _ k (hP 1 k (by omega) (by omega) (by omega)), f.2.2 _ k (hP 2 k (by omega) (by omega) (by omega)), f.2.2 _ k (hP 3 k (by omega) (by omega) (by omega)), f.2.2 _ k (hP 4 k (by omega) (by omega) (by omega)), f.2.2 _ k (hP 6 k (by omega) (by omega) (by omega))]
  exact h k hk
theorem tSt.kept {M M' : Mm_} {c : Nat} (h : tSt M t q cap B N c) (f : Fp (pPF t) M M') : tSt M' t q cap B N c := by
  obtain ⟨a1, a2, a3, a4, a5, a6, a7, a8⟩ := h
  exact ⟨a1.kept (f.up fun _ _ => pPF_T), by rw [f.2.2 t 6 (fun c => by unfold pPF at c; omega)]; exact a2, by rw [f.2.2 t 10 (fun c => by unfold pPF at c; omega)]; exact a3, a4.keptp f (fun i j h1 h2 _ c => by unfold pPF at c; omega), a5, a6, a7, a8⟩
theorem pa_rg {N : List Nd} {k : Nat} (hN : ∀ k, k < N.length → NdOk B N k) (hl : N.length ≤ 80) (hk : k < N.length) : rg (rPa N k) := by
  obtain ⟨-, -, h1, h2, -⟩ := hN k hk
  rcases Int.lt_or_le (rPa N k) 0 with c | c
  · exact ⟨by omega, by omega⟩
  · have := (h2 (rPa N k).toNat (by omega)).1
    exact ⟨by omega, by omega⟩
/-- the 0 behind the letters, and whether the name is new -/
theorem name_tail {M : Mm_} {c p p0 k : Nat} {acc : Int} (h : tSt M t q cap B N c) (h8 : M.2.1 t 8 = zI p) (hp : p ≤ 300) (hp0 : p0 ≤ 300) (ha : rg acc) :
    ∃ M1 M', Ev G d 25 [.ref t, .int (zI 1), .int (zI 0), .int (zI 0)] M (some (.int (zI (okI (rb B 0 0 1 p)))), M1) ∧ EvC G (d + 1) m_T_readName 78 [some (.ref t), some (.int (zI p0)), some (.int (zI acc)), some (.int (zI k))] [.int (zI (okI (rb B 0 0 1 p)))] M1 (some (.int (zI (nv (rdN' B N c p0 (.inr (acc, p)))))), M') ∧ Fp (pPF t) M M' ∧ nmO M M' t (rdN' B N c p0 (.inr (acc, p))) := by
  have hE := h.1
  have hT := hE.2.1
  obtain ⟨M1, e1, f1, o1⟩ := e_T_readBytes (G := G) (d := d) (k := 1) (p := p) (lo := 0) (hi := 0) ⟨by omega, by omega⟩ ⟨by omega, by omega⟩ (by omega) (by omega) hE h8
  have h1 := h.kept f1
  have hW1 := h1.1.1
  have hby := by_rg hE.2.2.2.1 p
  unfold rdN'
  by_cases c0 : by_ B p = 0
  · have hr : rb B 0 0 1 p = .inr (p + 1) := by rw [rb1, if_pos (by omega)]
    rw [hr] at e1 o1 ⊢
    dsimp only
    rw [if_pos c0]
    obtain ⟨b1, b2, b3, b4, b5, b6, b7, b8⟩ := h1
    have hel := e_T_element (G := G) (d := d) (x := acc) (c := c) hW1 hT b2 b4 b5 (fun k hk => pa_rg b6 b5 hk) (fun k hk hpc => by obtain ⟨ls, l1, l2⟩ := nm_rg b6 b8 hk hpc; have := pk_rg l1; rw [l2]; exact ⟨by omega, by omega⟩) ha b7
    have hhas := el_has (x := acc) b6 b7
    have hrg := elG_rg (N := N) (c := c) (x := acc) (N.length - (c + 1)) (c + 1)
    cases hh : hasNm N c acc with
    | false =>
      rw [if_neg (by decide)]
      have he := hhas.mpr hh
      refine ⟨M1, M1, e1, ev_T_readName_78 ?_, f1, o1.1, o1.2⟩
      rw [zI_0]
      show if zI 1 = zI 0 then _ else _
      rw [if_neg z10, b3]
      refine ⟨okF_W hW1 hT.1, okO_W hW1 hT.1, _, _, hel, ev_T_readName_92 ?_⟩
      rw [he, if_pos rfl]
      rfl
    | true =>
      rw [if_pos rfl]
      have he : ¬ elG N c acc (N.length - (c + 1)) (c + 1) = -1 := fun e => by rw [hhas.mp e] at hh; cases hh
      refine ⟨M1, am_setI M1 t 9 (zI p0), e1, ev_T_readName_78 ?_, f1.tr (Fp.set ⟨rfl, Or.inr rfl⟩), setI_self⟩
      rw [zI_0]
      show if zI 1 = zI 0 then _ else _
      rw [if_neg z10, b3]
      refine ⟨okF_W hW1 hT.1, okO_W hW1 hT.1, _, _, hel, ev_T_readName_92 ?_⟩
      rw [if_neg (zI_ne ⟨by omega, by omega⟩ ⟨by omega, by omega⟩ he)]
      exact ⟨okO_W hW1 hT.1, _, _, e_T_faultAt hW1 hT, ev_T_readName_101 rfl⟩
  · have hr : rb B 0 0 1 p = .inl p := by rw [rb1, if_neg (by omega)]
    rw [hr] at e1 o1 ⊢
    dsimp only
    rw [if_neg c0]
    refine ⟨M1, M1, e1, ev_T_readName_78 ?_, f1, o1⟩
    rw [zI_0]
    show if zI 0 = zI 0 then _ else _
    rw [if_pos rfl]
    rfl
end TNAME
