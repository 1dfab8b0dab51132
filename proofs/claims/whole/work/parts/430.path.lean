/-! NAMES AND PATHS: nameOf, Path.add, path, step of the class -/
def isN (ls : List Int) : Prop := 1 ≤ ls.length ∧ ls.length ≤ 4 ∧ ∀ y ∈ ls, 97 ≤ y ∧ y ≤ 122
def lts (ls : List Int) : Bool := ls.all fun y => decide (97 ≤ y ∧ y ≤ 122)
/-- the name that a word's lowest bytes are, or none -/
def nmOf (w : Int32) (n : Int) : List Int := if 1 ≤ n ∧ n ≤ 4 ∧ lts (bts w n.toNat) = true then bts w n.toNat else []
theorem nmOf_isN {w : Int32} {n : Int} (h : ¬ nmOf w n = []) : isN (nmOf w n) := by
  unfold nmOf at h ⊢
  split at h
  · next c =>
    rw [if_pos c]
    refine ⟨by rw [bts_len]; omega, by rw [bts_len]; omega, fun y hy => ?_⟩
    exact of_decide_eq_true (List.all_eq_true.mp c.2.2 y hy)
  · exact absurd rfl h
def lim (k : Nat) : Int := match k with
  | 4 => 1
  | 3 => 256
  | 2 => 65536
  | 1 => 16777216
  | _ => 4294967296
theorem lim_step {k : Nat} (hk : k < 4) : lim k = 256 * lim (k + 1) ∧ lim (k + 1) ≤ 16777216 ∧ 1 ≤ lim (k + 1) := by
  have : k = 0 ∨ k = 1 ∨ k = 2 ∨ k = 3 := by omega
  rcases this with rfl | rfl | rfl | rfl <;> decide
theorem lim_rg {k : Nat} (hk : k ≤ 4) : 1 ≤ lim k ∧ lim k ≤ 4294967296 := by
  have : k = 0 ∨ k = 1 ∨ k = 2 ∨ k = 3 ∨ k = 4 := by omega
  rcases this with rfl | rfl | rfl | rfl | rfl <;> decide
/-- what a list of letters makes of a number -/
def pkF (acc : Int) (ls : List Int) : Int := ls.foldl (fun a y => a * 256 + y) acc
theorem pkF_rg : ∀ (ls : List Int) (acc : Int), ls.length ≤ 4 → (∀ y ∈ ls, 97 ≤ y ∧ y ≤ 122) → 0 ≤ acc → 255 * acc ≤ 122 * (lim ls.length - 1) → 0 ≤ pkF acc ls ∧ 255 * pkF acc ls ≤ 122 * 4294967295
  | [], acc, _, _, h0, h => ⟨h0, by have : lim ([] : List Int).length = 4294967296 := rfl; rw [this] at h; exact h⟩
  | y :: ls, acc, hl, hy, h0, h => by
    have hy0 := hy y List.mem_cons_self
    rw [List.length_cons] at hl h
    obtain ⟨s1, s2, s3⟩ := lim_step (show ls.length < 4 by omega)
    exact pkF_rg ls (acc * 256 + y) (by omega) (fun z hz => hy z (List.mem_cons_of_mem _ hz)) (by omega) (by omega)
theorem pk_rg {ls : List Int} (h : isN ls) : 97 ≤ pk ls ∧ pk ls < 2147483648 := by
  obtain ⟨h1, h2, h3⟩ := h
  obtain ⟨a, b⟩ := pkF_rg ls 0 h2 h3 (Int.le_refl _) (by have := (lim_rg h2).1; omega)
  refine ⟨?_, by have : pk ls = pkF 0 ls := rfl; omega⟩
  cases ls with
  | nil => cases h1
  | cons y ls =>
    have hy := h3 y List.mem_cons_self
    have mono : ∀ (l : List Int) (acc : Int), (∀ y ∈ l, 97 ≤ y ∧ y ≤ 122) → 0 ≤ acc → acc ≤ pkF acc l := by
      intro l
      induction l with
      | nil => intro acc _ _; exact Int.le_refl _
      | cons z l ih =>
        intro acc hl h0
        have hz := hl z List.mem_cons_self
        have := ih (acc * 256 + z) (fun y hy => hl y (List.mem_cons_of_mem _ hy)) (by omega)
        show acc ≤ pkF (acc * 256 + z) l
        omega
    have := mono ls (0 * 256 + y) (fun z hz => h3 z (List.mem_cons_of_mem _ hz)) (by omega)
    show 97 ≤ pkF (0 * 256 + y) ls
    omega
def pthIs (M : Mm_) (a : Nat) (P : List (List Int)) : Prop := sg0[a]? = some (.inl 3) ∧ sg0[a + 1]? = some (.inr (0, 3)) ∧ P.length ≤ 3 ∧ M.2.1 a 1 = zI P.length ∧ (∀ i, i < P.length → M.2.1 (a + 1) i = zI (pk (P.getD i []))) ∧ ∀ ls ∈ P, isN ls
theorem pthIs.keptp {P : Nat → Nat → Prop} {M M' : Mm_} {a : Nat} {Q : List (List Int)} (h : pthIs M a Q) (hF : Fp P M M') (h1 : ∀ j, ¬ P a j) (h2 : ∀ j, ¬ P (a + 1) j) : pthIs M' a Q := by
  obtain ⟨a1, a2, a3, a4, a5, a6⟩ := h
  exact ⟨a1, a2, a3, by rw [hF.2.2 a 1 (h1 1)]; exact a4, fun i hi => by rw [hF.2.2 _ i (h2 i)]; exact a5 i hi, a6⟩
def sp_path (P : List (List Int)) (w : Int32) (n : Int) : Int × List (List Int) := if nmOf w n = [] then (0, P) else (1, [nmOf w n])
def sp_step (P : List (List Int)) (w : Int32) (n : Int) : Int × List (List Int) := if nmOf w n = [] ∨ P.length = 0 ∨ 3 ≤ P.length then (0, P) else (1, P ++ [nmOf w n])
section PATH
variable {G : Nat × (Nat → Int32)} {d : Nat} {M : Mm_}
theorem nameOf_loop {w x1 : Int32} : ∀ (k : Nat) (acc : Int) (u : Option Value), k ≤ 4 → 0 ≤ acc → 255 * acc ≤ 122 * (lim k - 1) →
    EvC G d m_P_nameOf 18 [some (.int w), some (.int x1), some (.int (zI acc)), some (.int (zI ((k : Int) - 1))), u] [] M (some (.int (zI (if lts (bts w k) = true then pkF acc (bts w k) else 0))), M)
  | 0, acc, u, hk, h0, h => by
    refine ev_P_nameOf_18 ?_
    rw [zI_0, if_pos ((zI_lt ⟨by omega, by omega⟩ ⟨by omega, by omega⟩).mpr (by omega))]
    rfl
  | k + 1, acc, u, hk, h0, h => by
    have hb := bt_rg w k
    obtain ⟨s1, s2, s3⟩ := lim_step (show k < 4 by omega)
    refine ev_P_nameOf_18 ?_
    rw [show ((k + 1 : Nat) : Int) - 1 = (k : Int) by omega, zI_0, if_neg (fun q => by rw [zI_lt ⟨by omega, by omega⟩ ⟨by omega, by omega⟩] at q; omega), zI_mul, ushr_bt w (by omega)]
    by_cases c1 : bt w k < 97
    · have e : lts (bts w (k + 1)) = false := by simp [lts, bts]; intro q; omega
      rw [if_pos ((zI_lt ⟨by omega, by omega⟩ ⟨by omega, by omega⟩).mpr c1), e]
      rfl
    · rw [if_neg (fun q => by rw [zI_lt ⟨by omega, by omega⟩ ⟨by omega, by omega⟩] at q; omega)]
      by_cases c2 : 122 < bt w k
      · have e : lts (bts w (k + 1)) = false := by simp [lts, bts]; intro q; omega
        rw [if_pos ((zI_lt ⟨by omega, by omega⟩ ⟨by omega, by omega⟩).mpr c2), e]
        rfl
      · have e : lts (bts w (k + 1)) = lts (bts w k) := by
          have : decide (97 ≤ bt w k ∧ bt w k ≤ 122) = true := decide_eq_true ⟨by omega, by omega⟩
          simp only [lts, bts, List.all_cons, this, Bool.true_and]
        rw [if_neg (fun q => by rw [zI_lt ⟨by omega, by omega⟩ ⟨by omega, by omega⟩] at q; omega), shl_or h0 (by omega) hb.1 (by omega), zI_add, show (k : Int) + -1 = (k : Int) - 1 by omega, e]
        exact nameOf_loop k (acc * 256 + bt w k) _ (by omega) (by omega) (by omega)
theorem e_P_nameOf {w : Int32} {n : Int} (hn : rg n) : Ev G d 16 [.int w, .int (zI n)] M (some (.int (zI (pk (nmOf w n)))), M) := by
  refine ev_of (q := mt_P_nameOf) rfl (ev_P_nameOf_0 ?_)
  by_cases c1 : n < 1
  · rw [if_pos ((zI_lt hn ⟨by omega, by omega⟩).mpr c1)]
    unfold nmOf
    rw [if_neg (fun q => by omega)]
    rfl
  · rw [if_neg (fun q => by rw [zI_lt hn ⟨by omega, by omega⟩] at q; omega)]
    by_cases c2 : 4 < n
    · rw [if_pos ((zI_lt ⟨by omega, by omega⟩ hn).mpr c2)]
      unfold nmOf
      rw [if_neg (fun q => by omega)]
      rfl
    · rw [if_neg (fun q => by rw [zI_lt ⟨by omega, by omega⟩ hn] at q; omega), zI_sub, show n - 1 = ((n.toNat : Nat) : Int) - 1 by omega]
      have := nameOf_loop (G := G) (d := d) (M := M) (w := w) (x1 := zI n) n.toNat 0 none (by omega) (Int.le_refl _) (by have := (lim_rg (show n.toNat ≤ 4 by omega)).1; omega)
      unfold nmOf
      by_cases c3 : lts (bts w n.toNat) = true
      · rw [if_pos c3] at this
        rw [if_pos ⟨by omega, by omega, c3⟩]
        exact this
      · rw [if_neg c3] at this
        rw [if_neg (fun q => c3 q.2.2)]
        exact this
theorem e_H_add {a : Nat} {P : List (List Int)} {ls : List Int} (hW : WM M) (h : pthIs M a P) (hls : isN ls) (hl : P.length < 3) : ∃ M', Ev G d 17 [.ref a, .int (zI (pk ls))] M (some (.int (zI 1)), M') ∧ pthIs M' a (P ++ [ls]) ∧ Fr [a, a + 1] M M' := by
  obtain ⟨h1, h2, h3, h4, h5, h6⟩ := h
  have hlen : (zI (P.length : Int)).toNatClampNeg = P.length := zI_nat (by omega)
  refine ⟨am_setI (am_setI M (a + 1) P.length (zI (pk ls))) a 1 (zI (P.length + 1 : Nat)), ?_, ?_, (Fr.set (by simp)).tr (Fr.set (by simp))⟩
  · refine ev_of (q := mt_H_add) rfl (ev_H_add_0 ⟨okF_W hW h1, ?_⟩)
    rw [h4, hlen, if_pos ((zI_lt ⟨by omega, by omega⟩ ⟨by omega, by omega⟩).mpr (by omega))]
    refine ⟨okF_W hW h1, okF_W hW h1, okA_z hW h2 hl (by omega), okF_W (WM_setI hW) h1, okP_W (WM_setI hW) h1 rfl, ?_⟩
    rw [setI_cell (by omega), h4, zI_add]
    rfl
  · refine ⟨h1, h2, by simp; omega, by rw [setI_self]; simp, fun i hi => ?_, fun l hl => ?_⟩
    · rw [List.length_append, List.length_singleton] at hi
      rw [setI_cell (by omega)]
      by_cases e : i = P.length
      · subst e
        rw [setI_self]
        simp [List.getD_eq_getElem?_getD]
      · rw [setI_idx e, h5 i (by omega)]
        simp [List.getD_eq_getElem?_getD, List.getElem?_append_left (show i < P.length by omega)]
    · rcases List.mem_append.mp hl with q | q
      · exact h6 l q
      · rw [List.mem_singleton.mp q]; exact hls
theorem e_H_addF {a : Nat} {P : List (List Int)} {x : Int32} (hW : WM M) (h : pthIs M a P) (hl : 3 ≤ P.length) : Ev G d 17 [.ref a, .int x] M (some (.int (zI 0)), M) := by
  obtain ⟨h1, h2, h3, h4, h5, h6⟩ := h
  refine ev_of (q := mt_H_add) rfl (ev_H_add_0 ⟨okF_W hW h1, ?_⟩)
  rw [h4, if_neg (fun q => by rw [zI_lt ⟨by omega, by omega⟩ ⟨by omega, by omega⟩] at q; omega)]
theorem e_P_path {P : List (List Int)} {w : Int32} {n : Int} (hW : WM M) (h : pthIs M 3 P) (hn : rg n) : ∃ M', Ev G (d + 1) 15 [.ref 0, .int w, .int (zI n)] M (some (.int (zI (sp_path P w n).1)), M') ∧ pthIs M' 3 (sp_path P w n).2 ∧ Fr [3, 4] M M' := by
  unfold sp_path
  by_cases c : nmOf w n = []
  · rw [if_pos c]
    refine ⟨M, ev_of (q := mt_P_path) rfl (ev_P_path_0 ⟨_, _, e_P_nameOf hn, ev_P_path_5 ?_⟩), h, Fr.rf⟩
    rw [c, show pk [] = 0 from rfl, zI_0, if_pos rfl]
  · rw [if_neg c]
    have hN := nmOf_isN c
    have hp := pk_rg hN
    have h0 : pthIs (am_setI M 3 1 (zI 0)) 3 [] := ⟨h.1, h.2.1, Nat.zero_le _, setI_self, fun i hi => (by cases hi), fun l hl => (by cases hl)⟩
    obtain ⟨M', e, r', f⟩ := e_H_add (G := G) (d := d) (WM_setI hW) h0 hN (by simp)
    refine ⟨M', ev_of (q := mt_P_path) rfl (ev_P_path_0 ⟨_, _, e_P_nameOf hn, ev_P_path_5 ?_⟩), r', (Fr.set (by simp)).tr f⟩
    rw [zI_0, if_neg (zI_ne ⟨by omega, by omega⟩ ⟨by omega, by omega⟩ (by omega))]
    exact ⟨okF_W hW rfl, okP_W hW rfl rfl, okF_W (WM_setI hW) rfl, okO_W (WM_setI hW) rfl, _, _, e, ev_P_path_28 ⟨by decide +kernel, rfl⟩⟩
theorem e_P_step {P : List (List Int)} {w : Int32} {n : Int} (hW : WM M) (h : pthIs M 3 P) (hn : rg n) : ∃ M', Ev G (d + 1) 18 [.ref 0, .int w, .int (zI n)] M (some (.int (zI (sp_step P w n).1)), M') ∧ pthIs M' 3 (sp_step P w n).2 ∧ Fr [3, 4] M M' := by
  unfold sp_step
  have h3 := h.2.2.1
  have h4 : M.2.1 (0 + 3) 1 = zI P.length := h.2.2.2.1
  by_cases c : nmOf w n = []
  · rw [if_pos (Or.inl c)]
    refine ⟨M, ev_of (q := mt_P_step) rfl (ev_P_step_0 ⟨_, _, e_P_nameOf hn, ev_P_step_5 ?_⟩), h, Fr.rf⟩
    rw [c, show pk [] = 0 from rfl, zI_0, if_pos rfl]
  · have hN := nmOf_isN c
    have hp := pk_rg hN
    by_cases c1 : P.length = 0
    · rw [if_pos (Or.inr (Or.inl c1))]
      refine ⟨M, ev_of (q := mt_P_step) rfl (ev_P_step_0 ⟨_, _, e_P_nameOf hn, ev_P_step_5 ?_⟩), h, Fr.rf⟩
      rw [zI_0, if_neg (zI_ne ⟨by omega, by omega⟩ ⟨by omega, by omega⟩ (by omega)), h4, c1]
      exact ⟨okF_W hW rfl, okF_W hW rfl, by rw [if_neg (by decide +kernel)]⟩
    · by_cases c2 : 3 ≤ P.length
      · rw [if_pos (Or.inr (Or.inr c2))]
        refine ⟨M, ev_of (q := mt_P_step) rfl (ev_P_step_0 ⟨_, _, e_P_nameOf hn, ev_P_step_5 ?_⟩), h, Fr.rf⟩
        rw [zI_0, if_neg (zI_ne ⟨by omega, by omega⟩ ⟨by omega, by omega⟩ (by omega)), h4, if_pos ((zI_lt ⟨by omega, by omega⟩ ⟨by omega, by omega⟩).mpr (by omega))]
        refine ⟨okF_W hW rfl, okF_W hW rfl, okF_W hW rfl, okO_W hW rfl, _, _, e_H_addF hW h c2, ev_P_step_28 ?_⟩
        rw [zI_0, if_pos rfl]
      · rw [if_neg (fun q => by rcases q with q | q | q; exact c q; exact c1 q; exact c2 q)]
        obtain ⟨M', e, r', f⟩ := e_H_add (G := G) (d := d) hW h hN (by omega)
        refine ⟨M', ev_of (q := mt_P_step) rfl (ev_P_step_0 ⟨_, _, e_P_nameOf hn, ev_P_step_5 ?_⟩), r', f⟩
        rw [zI_0, if_neg (zI_ne ⟨by omega, by omega⟩ ⟨by omega, by omega⟩ (by omega)), h4, if_pos ((zI_lt ⟨by omega, by omega⟩ ⟨by omega, by omega⟩).mpr (by omega))]
        refine ⟨okF_W hW rfl, okF_W hW rfl, okF_W hW rfl, okO_W hW rfl, _, _, e, ev_P_step_28 ?_⟩
        rw [zI_0, if_neg z10]
end PATH
