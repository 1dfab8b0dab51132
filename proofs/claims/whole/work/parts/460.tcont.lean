/-! THE CLASS's TREE: a value's content -/
/-- the nodes as the tree's rows have them -/
def tN (M : Mm_) (t : Nat) (N : List Nd) : Prop := ∀ k, k < N.length → M.2.1 (t + 1) k = zI (rTy N k) ∧ M.2.1 (t + 2) k = zI (rNm N k) ∧ M.2.1 (t + 3) k = zI (rSt N k) ∧ M.2.1 (t + 4) k = zI (rPl N k) ∧ M.2.1 (t + 6) k = zI (rPa N k)
def tEd (M : Mm_) (t : Nat) (B : List Int) (N : List Nd) (S : List Nat) : Prop := ∀ k, k < N.length → k ∉ S → M.2.1 (t + 5) k = zI (rEn B N k)
/-- the tree's own numbers: place, total, open, depth, no fault -/
def tNum (M : Mm_) (t p n : Nat) (S : List Nat) : Prop := M.2.1 t 8 = zI p ∧ M.2.1 t 6 = zI n ∧ M.2.1 t 10 = zI (opn S) ∧ M.2.1 t 11 = zI S.length ∧ M.2.1 t 9 = zI (-1)
def trQ (M : Mm_) (t : Nat) (B : List Int) (N : List Nd) (S : List Nat) (p : Nat) : Prop := tNum M t p N.length S ∧ tN M t N ∧ tEd M t B N S
def trIs (M : Mm_) (t : Nat) (B : List Int) (P : Rs) : Prop := trQ M t B P.2.1 P.2.2 P.1
def tOut (M : Mm_) (t : Nat) (B : List Int) : Nat ⊕ Rs → Prop
  | .inl f => M.2.1 t 9 = zI f
  | .inr P => trIs M t B P
/-- a node has been added, its content is not read yet -/
def trP (M : Mm_) (t : Nat) (B : List Int) (N : List Nd) (S : List Nat) (tt x : Int) (s p : Nat) : Prop := tNum M t p (N.length + 1) S ∧ tN M t (N ++ [(tt, x, s, p, opn S)]) ∧ tEd M t B N S
theorem up1_self {f : Nat → Int32} {n : Nat} {x : Int32} : up1 f n x n = x := by simp [up1]
theorem up1_ne {f : Nat → Int32} {n j : Nat} {x : Int32} (h : j ≠ n) : up1 f n x j = f j := by simp [up1, h]
section TCONT
variable {G : Nat × (Nat → Int32)} {d : Nat} {t q cap : Nat} {B : List Int} {N : List Nd} {S : List Nat} {tt x : Int} {s p : Nat}
theorem e_addN {M : Mm_} (hE : tEn M t q cap B) (h : trQ M t B N S p) (hn : N.length < 80) : ∃ M', Ev G d 22 [.ref t, .int (zI tt), .int (zI x), .int (zI s)] M (some (.int (zI N.length)), M') ∧ Fp (pT t) M M' ∧ trP M' t B N S tt x s p := by
  obtain ⟨⟨a1, a2, a3, a4, a5⟩, hN, hEd⟩ := h
  obtain ⟨M', e, f, u1, u2, u3, u4, u5, u6, u0⟩ := e_T_addNode (G := G) (d := d) (x1 := zI tt) (x2 := zI x) (x3 := zI s) hE.1 hE.2.1 a2 hn
  refine ⟨M', e, f, ⟨?_, ?_, ?_, ?_, ?_⟩, fun k hk => ?_, fun k hk hS => ?_⟩
  · rw [u0, up1_ne (by decide)]; exact a1
  · rw [u0, up1_self]; rfl
  · rw [u0, up1_ne (by decide)]; exact a3
  · rw [u0, up1_ne (by decide)]; exact a4
  · rw [u0, up1_ne (by decide)]; exact a5
  · rw [List.length_append, List.length_singleton] at hk
    by_cases c : k < N.length
    · obtain ⟨b1, b2, b3, b4, b5⟩ := hN k c
      have hne : k ≠ N.length := by omega
      rw [u1, u2, u3, u4, u6, up1_ne hne, up1_ne hne, up1_ne hne, up1_ne hne, up1_ne hne, rTy_app c, rNm_app c, rSt_app c, rPl_app c, rPa_app c]
      exact ⟨b1, b2, b3, b4, b5⟩
    · obtain rfl : k = N.length := by omega
      rw [u1, u2, u3, u4, u6, up1_self, up1_self, up1_self, up1_self, up1_self]
      unfold rTy rNm rSt rPl rPa
      rw [nd_app_eq]
      exact ⟨rfl, rfl, rfl, a1, a3⟩
  · rw [u5]
    exact hEd k hk hS
theorem rc_fin {M : Mm_} {n : Nat} {b : Int} (hb : b = 0 ∨ b = 1) (hW : WM M) (hT : treeSh t) (hn : n < 80) : EvC G d m_T_readContent 156 [some (.ref t), some (.int (zI n)), some (.int (zI b))] [] M (some (.int (zI b)), am_setI M (t + 5) n (M.2.1 t 8)) := by
  refine ev_T_readContent_156 ?_
  rw [zI_nat (by omega)]
  refine ⟨okF_W hW hT.1, okF_W hW hT.1, okA_z hW (hT.2 5 (by omega) (by omega)) hn (by omega), ?_, rfl⟩
  rcases hb with rfl | rfl <;> decide +kernel
/-- numbers and nodes behind a reading of bytes, and the end that is written -/
theorem rc_post {M M1 : Mm_} {z : Nat} (h : trP M t B N S tt x s p) (f : Fp (pPF t) M M1) (h8 : M1.2.1 t 8 = zI z) (h9 : M1.2.1 t 9 = M.2.1 t 9) (hz : z = bh B tt p) (hC : ¬ (tt = 3 ∨ tt = 4)) : trIs (am_setI M1 (t + 5) N.length (M1.2.1 t 8)) t B (z, N ++ [(tt, x, s, p, opn S)], if tt = 3 ∨ tt = 4 then N.length :: S else S) := by
  rw [if_neg hC]
  obtain ⟨⟨a1, a2, a3, a4, a5⟩, hN, hEd⟩ := h
  have g : ∀ j, j ≠ 8 → j ≠ 9 → M1.2.1 t j = M.2.1 t j := fun j h1 h2 => f.2.2 t j (fun c => by unfold pPF at c; omega)
  have gi : ∀ i j, 1 ≤ i → M1.2.1 (t + i) j = M.2.1 (t + i) j := fun i j h1 => f.2.2 _ j (fun c => by unfold pPF at c; omega)
  have c0 : (am_setI M1 (t + 5) N.length (M1.2.1 t 8)).2.1 t = M1.2.1 t := setI_cell (by omega)
  refine ⟨⟨by rw [c0]; exact h8, ?_, ?_, ?_, ?_⟩, fun k hk => ?_, fun k hk hS => ?_⟩
  · rw [c0, g 6 (by decide) (by decide), a2]
    show _ = zI (((N ++ [(tt, x, s, p, opn S)]).length : Nat) : Int)
    rw [List.length_append, List.length_singleton]
  · rw [c0, g 10 (by decide) (by decide)]; exact a3
  · rw [c0, g 11 (by decide) (by decide)]; exact a4
  · rw [c0, h9]; exact a5
  · have cc : ∀ i, i ≠ 5 → (am_setI M1 (t + 5) N.length (M1.2.1 t 8)).2.1 (t + i) = M1.2.1 (t + i) := fun i hi => setI_cell (by omega)
    rw [cc 1 (by decide), cc 2 (by decide), cc 3 (by decide), cc 4 (by decide), cc 6 (by decide), gi 1 k (by omega), gi 2 k (by omega), gi 3 k (by omega), gi 4 k (by omega), gi 6 k (by omega)]
    exact hN k hk
  · have hk : k < (N ++ [(tt, x, s, p, opn S)]).length := hk
    rw [List.length_append, List.length_singleton] at hk
    by_cases c : k < N.length
    · rw [setI_idx (by omega), gi 5 k (by omega)]
      show M.2.1 (t + 5) k = zI (rEn B (N ++ [_]) k)
      rw [rEn_app c]
      exact hEd k c hS
    · obtain rfl : k = N.length := by omega
      rw [setI_self, h8]
      show zI z = zI (rEn B (N ++ [(tt, x, s, p, opn S)]) N.length)
      unfold rEn rTy rPl
      rw [nd_app_eq, hz]
theorem rc_postC {M M1 : Mm_} {z : Nat} (h : trP M t B N S tt x s p) (f : Fp (pPF t) M M1) (h8 : M1.2.1 t 8 = zI z) (h9 : M1.2.1 t 9 = M.2.1 t 9) (hC : tt = 3 ∨ tt = 4) : trIs (am_setI (am_setI (am_setI M1 t 10 (zI N.length)) t 11 (zI ((S.length : Int) + 1))) (t + 5) N.length (zI z)) t B (z, N ++ [(tt, x, s, p, opn S)], if tt = 3 ∨ tt = 4 then N.length :: S else S) := by
  rw [if_pos hC]
  obtain ⟨⟨a1, a2, a3, a4, a5⟩, hN, hEd⟩ := h
  have g : ∀ j, j ≠ 8 → j ≠ 9 → M1.2.1 t j = M.2.1 t j := fun j h1 h2 => f.2.2 t j (fun c => by unfold pPF at c; omega)
  have gi : ∀ i j, 1 ≤ i → M1.2.1 (t + i) j = M.2.1 (t + i) j := fun i j h1 => f.2.2 _ j (fun c => by unfold pPF at c; omega)
  have c0 : (am_setI (am_setI (am_setI M1 t 10 (zI N.length)) t 11 (zI ((S.length : Int) + 1))) (t + 5) N.length (zI z)).2.1 t = up1 (up1 (M1.2.1 t) 10 (zI N.length)) 11 (zI ((S.length : Int) + 1)) := (setI_cell (by omega)).trans (setI_up.trans (by rw [setI_up]))
  have ci : ∀ i, 1 ≤ i → (am_setI (am_setI M1 t 10 (zI N.length)) t 11 (zI ((S.length : Int) + 1))).2.1 (t + i) = M1.2.1 (t + i) := fun i h => (setI_cell (by omega)).trans (setI_cell (by omega))
  refine ⟨⟨?_, ?_, ?_, ?_, ?_⟩, fun k hk => ?_, fun k hk hS => ?_⟩
  · rw [c0, up1_ne (by decide), up1_ne (by decide)]; exact h8
  · rw [c0, up1_ne (by decide), up1_ne (by decide), g 6 (by decide) (by decide), a2]
    show _ = zI (((N ++ [(tt, x, s, p, opn S)]).length : Nat) : Int)
    rw [List.length_append, List.length_singleton]
  · rw [c0, up1_ne (by decide), up1_self]; rfl
  · rw [c0, up1_self]
    show _ = zI (((N.length :: S).length : Nat) : Int)
    rw [List.length_cons]
    rfl
  · rw [c0, up1_ne (by decide), up1_ne (by decide), h9]; exact a5
  · have cc : ∀ i, 1 ≤ i → i ≠ 5 → (am_setI (am_setI (am_setI M1 t 10 (zI N.length)) t 11 (zI ((S.length : Int) + 1))) (t + 5) N.length (zI z)).2.1 (t + i) = M1.2.1 (t + i) := fun i h1 h2 => (setI_cell (by omega)).trans (ci i h1)
    rw [cc 1 (by decide) (by decide), cc 2 (by decide) (by decide), cc 3 (by decide) (by decide), cc 4 (by decide) (by decide), cc 6 (by decide) (by decide), gi 1 k (by omega), gi 2 k (by omega), gi 3 k (by omega), gi 4 k (by omega), gi 6 k (by omega)]
    exact hN k hk
  · have hk : k < (N ++ [(tt, x, s, p, opn S)]).length := hk
    rw [List.length_append, List.length_singleton] at hk
    have c : k ≠ N.length := fun e => hS (by rw [e]; exact List.mem_cons_self)
    have c : k < N.length := by omega
    rw [setI_idx (by omega), ci 5 (by omega), gi 5 k (by omega)]
    show M.2.1 (t + 5) k = zI (rEn B (N ++ [_]) k)
    rw [rEn_app c]
    exact hEd k c (fun q => hS (List.mem_cons_of_mem _ q))
theorem Fp.s5 {M M1 : Mm_} {n : Nat} {y : Int32} (f : Fp (pPF t) M M1) : Fp (pT t) M (am_setI M1 (t + 5) n y) := (f.up fun _ _ => pPF_T).tr (Fp.set ⟨by omega, by omega⟩)
/-- a plain value that is read by one stretch of bytes -/
theorem rc_one {M : Mm_} {lo hi : Int} {k : Nat} (hlo : rg lo) (hhi : rg hi) (hk : k < 100) (hE : tEn M t q cap B) (h : trP M t B N S tt x s p) (hp : p ≤ 200) (hn : N.length < 80) (hC : ¬ (tt = 3 ∨ tt = 4)) (hr : rdC B tt p = rb B lo hi k p) (hz : ∀ z, rb B lo hi k p = .inr z → z = bh B tt p) :
    ∃ M1 M', Ev G d 25 [.ref t, .int (zI k), .int (zI lo), .int (zI hi)] M (some (.int (zI (okI (rdC B tt p)))), M1) ∧ (∀ d', EvC G d' m_T_readContent 156 [some (.ref t), some (.int (zI N.length)), some (.int (zI (okI (rdC B tt p))))] [] M1 (some (.int (zI (okI (rdC B tt p)))), M')) ∧ Fp (pT t) M M' ∧ ∀ z0, tOut M' t B (rdV B (z0, N, S) tt x s p) := by
  obtain ⟨M1, e1, f1, o1⟩ := e_T_readBytes (G := G) (d := d) (k := k) (p := p) hlo hhi (by omega) (by omega) hE h.1.1
  rw [← hr] at e1 o1
  refine ⟨M1, am_setI M1 (t + 5) N.length (M1.2.1 t 8), e1, fun d' => rc_fin (okI_rg _) (f1.WM hE.1) hE.2.1 hn, f1.s5, fun z0 => ?_⟩
  unfold rdV
  cases hc : rdC B tt p with
  | inl g =>
    rw [hc] at o1
    show (am_setI M1 (t + 5) N.length (M1.2.1 t 8)).2.1 t 9 = zI g
    rw [setI_cell (by omega)]
    exact o1
  | inr z =>
    rw [hc] at o1
    exact rc_post h f1 o1.1 o1.2 (hz z (hr ▸ hc)) hC
theorem okV {z0 : Nat} : okI (rdV B (z0, N, S) tt x s p) = okI (rdC B tt p) := by
  unfold rdV
  cases rdC B tt p <;> rfl
end TCONT
