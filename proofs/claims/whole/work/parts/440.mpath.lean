/-! THE REFERENCE's names and paths: name, path, step -/
def mPth (M : Mm_) (j : Nat) (P : List (List Int)) : Prop := P.length ≤ 3 ∧ M.2.1 95 j = zI P.length ∧ (∀ i, i < P.length → ∀ k, k < 4 → M.2.1 96 (12 * j + 4 * i + k) = zI ((P.getD i []).getD k 0)) ∧ ∀ ls ∈ P, isN ls
/-- the places of a path -/
def pPth (q a j : Nat) : Prop := (a = 95 ∧ j = q) ∨ (a = 96 ∧ 12 * q ≤ j ∧ j < 12 * q + 12)
theorem bts_get (w : Int32) : ∀ (n k : Nat), k < n → (bts w n).getD k 0 = bt w (n - 1 - k)
  | n + 1, 0, _ => rfl
  | n + 1, k + 1, h => by
    have := bts_get w n k (by omega)
    show (bts w n).getD k 0 = _
    rw [this]
    congr 1
    omega
theorem lts_bts (w : Int32) : ∀ n, lts (bts w n) = true ↔ ∀ k, k < n → 97 ≤ bt w k ∧ bt w k ≤ 122
  | 0 => ⟨fun _ k h => (by omega), fun _ => rfl⟩
  | n + 1 => by
    have ih := lts_bts w n
    have e : lts (bts w (n + 1)) = (decide (97 ≤ bt w n ∧ bt w n ≤ 122) && lts (bts w n)) := by simp [lts, bts]
    rw [e, Bool.and_eq_true, decide_eq_true_eq, ih]
    constructor
    · intro h k hk
      by_cases ek : k = n
      · subst ek; exact h.1
      · exact h.2 k (by omega)
    · exact fun h => ⟨h n (by omega), fun k hk => h k (by omega)⟩
section MPATH
variable {G : Nat × (Nat → Int32)} {d : Nat}
theorem e_M_isLetter_t {M : Mm_} {v : Int} (hv : rg v) (c : 97 ≤ v ∧ v ≤ 122) : Ev G d 94 [.int (zI v)] M (some (.int (zI 1)), M) := by
  refine ev_of (q := mt_M_isLetter) rfl (ev_M_isLetter_0 ?_)
  rw [if_neg (fun q => by rw [zI_lt hv ⟨by omega, by omega⟩] at q; omega), if_neg (fun q => by rw [zI_lt ⟨by omega, by omega⟩ hv] at q; omega)]
theorem e_M_isLetter_f {M : Mm_} {v : Int} (hv : rg v) (c : ¬ (97 ≤ v ∧ v ≤ 122)) : Ev G d 94 [.int (zI v)] M (some (.int (zI 0)), M) := by
  refine ev_of (q := mt_M_isLetter) rfl (ev_M_isLetter_0 ?_)
  by_cases c1 : v < 97
  · rw [if_pos ((zI_lt hv ⟨by omega, by omega⟩).mpr c1)]
  · rw [if_neg (fun q => by rw [zI_lt hv ⟨by omega, by omega⟩] at q; omega), if_pos ((zI_lt ⟨by omega, by omega⟩ hv).mpr (by omega))]
/-- where the letters are looked at: on a good word one comes to the second loop with 1 -/
theorem name_good {M : Mm_} {w x1 : Int32} {n : Nat} {r : Out_} (hn : n ≤ 4) (hg : ∀ k, k < n → 97 ≤ bt w k ∧ bt w k ≤ 122)
    (kk : EvC G (d + 1) m_M_name 47 [some (.ref 91), some (.int x1), some (.int w), some (.int (zI n)), some (.int (zI 1)), some (.int (zI 0))] [] M r) : ∀ (m k : Nat), k + m = n → EvC G (d + 1) m_M_name 11 [some (.ref 91), some (.int x1), some (.int w), some (.int (zI n)), some (.int (zI 1)), some (.int (zI k))] [] M r
  | 0, k, hk => by
    refine ev_M_name_11 ?_
    rw [if_neg (fun q => by rw [zI_lt ⟨by omega, by omega⟩ ⟨by omega, by omega⟩] at q; omega)]
    exact kk
  | m + 1, k, hk => by
    have hb := bt_rg w k
    refine ev_M_name_11 ?_
    rw [if_pos ((zI_lt ⟨by omega, by omega⟩ ⟨by omega, by omega⟩).mpr (by omega)), zI_0, if_neg z10, zI_mul, sshr_bt w (by omega)]
    refine ⟨_, _, e_M_isLetter_t ⟨by omega, by omega⟩ (hg k (by omega)), ev_M_name_36 ?_⟩
    rw [zI_add, show (k : Int) + 1 = ((k + 1 : Nat) : Int) by omega]
    exact name_good hn hg kk m (k + 1) (by omega)
/-- with 0 one comes out at once -/
theorem name_zero {M : Mm_} {w x1 x3 x5 : Int32} : EvC G (d + 1) m_M_name 11 [some (.ref 91), some (.int x1), some (.int w), some (.int x3), some (.int (zI 0)), some (.int x5)] [] M (some (.int (zI 0)), M) := by
  have fin : EvC G (d + 1) m_M_name 47 [some (.ref 91), some (.int x1), some (.int w), some (.int x3), some (.int (zI 0)), some (.int (zI 0))] [] M (some (.int (zI 0)), M) := by
    refine ev_M_name_47 ?_
    rw [if_pos (by decide +kernel), zI_0, if_pos rfl]
    exact ⟨by decide +kernel, rfl⟩
  refine ev_M_name_11 ?_
  split
  · rw [zI_0, if_pos rfl]
    exact fin
  · exact fin
theorem name_bad {M : Mm_} {w x1 : Int32} {n : Nat} (hn : n ≤ 4) : ∀ (m k : Nat), k + m = n → (∃ j, k ≤ j ∧ j < n ∧ ¬ (97 ≤ bt w j ∧ bt w j ≤ 122)) → EvC G (d + 1) m_M_name 11 [some (.ref 91), some (.int x1), some (.int w), some (.int (zI n)), some (.int (zI 1)), some (.int (zI k))] [] M (some (.int (zI 0)), M)
  | 0, k, hk, hj => by
    obtain ⟨j, h1, h2, -⟩ := hj
    omega
  | m + 1, k, hk, hj => by
    have hb := bt_rg w k
    refine ev_M_name_11 ?_
    rw [if_pos ((zI_lt ⟨by omega, by omega⟩ ⟨by omega, by omega⟩).mpr (by omega)), zI_0, if_neg z10, zI_mul, sshr_bt w (by omega)]
    by_cases c : 97 ≤ bt w k ∧ bt w k ≤ 122
    · refine ⟨_, _, e_M_isLetter_t ⟨by omega, by omega⟩ c, ev_M_name_36 ?_⟩
      rw [zI_add, show (k : Int) + 1 = ((k + 1 : Nat) : Int) by omega]
      obtain ⟨j, h1, h2, h3⟩ := hj
      refine name_bad hn m (k + 1) (by omega) ⟨j, ?_, h2, h3⟩
      rcases Nat.eq_or_lt_of_le h1 with e | e
      · subst e; exact absurd c h3
      · exact e
    · refine ⟨_, _, e_M_isLetter_f ⟨by omega, by omega⟩ c, ev_M_name_36 ?_⟩
      exact name_zero
/-- the letters are written -/
theorem name_write {w : Int32} {i n : Nat} (hi : i < 3) (hn0 : 1 ≤ n) (hn : n ≤ 4) : ∀ (m k : Nat) (M : Mm_), k + m = 4 → WM M →
    ∃ M', EvC G d m_M_name 47 [some (.ref 91), some (.int (zI i)), some (.int w), some (.int (zI n)), some (.int (zI 1)), some (.int (zI k))] [] M (some (.int (zI 1)), M') ∧ (∀ j, k ≤ j → j < 4 → M'.2.1 96 (24 + 4 * i + j) = zI ((bts w n).getD j 0)) ∧ Fp (fun a j => a = 96 ∧ 24 + 4 * i + k ≤ j ∧ j < 24 + 4 * i + 4) M M'
  | 0, k, M, hk, hW => by
    refine ⟨M, ev_M_name_47 ?_, fun j h1 h2 => (by omega), Fp.rf⟩
    rw [if_neg (fun q => by rw [zI_lt ⟨by omega, by omega⟩ ⟨by omega, by omega⟩] at q; omega)]
    exact ⟨by decide +kernel, rfl⟩
  | m + 1, k, M, hk, hW => by
    obtain ⟨M', e, h1, h2⟩ := name_write (w := w) hi hn0 hn m (k + 1) (am_setI M 96 (24 + 4 * i + k) (zI ((bts w n).getD k 0))) (by omega) (WM_setI hW)
    have e0 : (zI (24 + 4 * (i : Int) + (k : Int))).toNatClampNeg = 24 + 4 * i + k := by rw [zI_clamp ⟨by omega, by omega⟩]; omega
    have hA : am_okA M (91 + 5) 0 (zI (24 + 4 * (i : Int) + (k : Int))) = true := okA_W hW (show sg0[91 + 5]? = some (.inr (0, 72)) from rfl) (zI_in (by omega) (by omega) (by omega))
    refine ⟨M', ev_M_name_47 ?_, fun j h3 h4 => ?_, ?_⟩
    · rw [if_pos ((zI_lt ⟨by omega, by omega⟩ ⟨by omega, by omega⟩).mpr (by omega)), zI_0, if_neg z10, zI_mul, zI_add, zI_add, e0]
      refine ⟨okF_W hW rfl, ?_⟩
      by_cases c : k < n
      · rw [if_pos ((zI_lt ⟨by omega, by omega⟩ ⟨by omega, by omega⟩).mpr (by omega)), zI_sub, zI_sub, zI_mul, show (n : Int) - 1 - (k : Int) = ((n - 1 - k : Nat) : Int) by omega, sshr_bt w (by omega), ← bts_get w n k c, zI_add, show (k : Int) + 1 = ((k + 1 : Nat) : Int) by omega]
        exact ⟨hA, e⟩
      · rw [if_neg (fun q => by rw [zI_lt ⟨by omega, by omega⟩ ⟨by omega, by omega⟩] at q; omega), zI_add, show (k : Int) + 1 = ((k + 1 : Nat) : Int) by omega]
        have ez : (bts w n).getD k 0 = 0 := by
          rw [List.getD_eq_getElem?_getD, List.getElem?_eq_none (by rw [bts_len]; omega)]
          rfl
        rw [ez] at e
        exact ⟨hA, e⟩
    · by_cases ej : j = k
      · subst ej
        rw [h2.2.2 96 _ (fun q => by omega), setI_self]
      · exact h1 j (by omega) h4
    · exact (Fp.set (M := M) ⟨rfl, by omega, by omega⟩).tr (h2.up (fun a j q => ⟨q.1, by omega, q.2.2⟩))
theorem e_M_name {M : Mm_} {w : Int32} {i : Nat} {n : Int} (hW : WM M) (hi : i < 3) (hn : rg n) : ∃ M', Ev G (d + 1) 93 [.ref 91, .int (zI i), .int w, .int (zI n)] M (some (.int (zI (if nmOf w n = [] then 0 else 1))), M') ∧ (¬ nmOf w n = [] → ∀ j, j < 4 → M'.2.1 96 (24 + 4 * i + j) = zI ((nmOf w n).getD j 0)) ∧ Fp (fun a j => a = 96 ∧ 24 + 4 * i ≤ j ∧ j < 24 + 4 * i + 4) M M' ∧ (nmOf w n = [] → M' = M) := by
  by_cases c1 : 1 ≤ n ∧ n ≤ 4
  · have en : n = ((n.toNat : Nat) : Int) := by omega
    by_cases c2 : lts (bts w n.toNat) = true
    · have hnm : nmOf w n = bts w n.toNat := by unfold nmOf; rw [if_pos ⟨c1.1, c1.2, c2⟩]
      have hne : ¬ nmOf w n = [] := by
        rw [hnm]
        intro q
        have := bts_len w n.toNat
        rw [q] at this
        simp at this
        omega
      obtain ⟨M', e, h1, h2⟩ := name_write (G := G) (d := d + 1) (w := w) (n := n.toNat) hi (by omega) (by omega) 4 0 M (by omega) hW
      refine ⟨M', ?_, fun _ j hj => by rw [hnm]; exact h1 j (by omega) hj, h2, fun q => absurd q hne⟩
      rw [if_neg hne]
      refine ev_of (q := mt_M_name) rfl (ev_M_name_0 ⟨_, _, e_M_in_t hn ⟨by omega, by omega⟩ ⟨by omega, by omega⟩ c1, ev_M_name_6 ?_⟩)
      rw [en]
      exact name_good (by omega) ((lts_bts w n.toNat).mp c2) e n.toNat 0 (by omega)
    · have hnm : nmOf w n = [] := by unfold nmOf; rw [if_neg (fun q => c2 q.2.2)]
      refine ⟨M, ?_, fun q => absurd hnm q, Fp.rf, fun _ => rfl⟩
      rw [if_pos hnm]
      refine ev_of (q := mt_M_name) rfl (ev_M_name_0 ⟨_, _, e_M_in_t hn ⟨by omega, by omega⟩ ⟨by omega, by omega⟩ c1, ev_M_name_6 ?_⟩)
      rw [en]
      refine name_bad (by omega) n.toNat 0 (by omega) ?_
      apply Classical.byContradiction
      intro q
      apply c2
      rw [lts_bts]
      intro k hk
      apply Classical.byContradiction
      intro q2
      exact q ⟨k, by omega, hk, q2⟩
  · have hnm : nmOf w n = [] := by unfold nmOf; rw [if_neg (fun q => c1 ⟨q.1, q.2.1⟩)]
    refine ⟨M, ?_, fun q => absurd hnm q, Fp.rf, fun _ => rfl⟩
    rw [if_pos hnm]
    refine ev_of (q := mt_M_name) rfl (ev_M_name_0 ⟨_, _, e_M_in_f hn ⟨by omega, by omega⟩ ⟨by omega, by omega⟩ c1, ev_M_name_6 ?_⟩)
    exact name_zero
theorem e_M_path {M : Mm_} {P : List (List Int)} {w : Int32} {n : Int} (hW : WM M) (h : mPth M 2 P) (hn : rg n) : ∃ M', Ev G (d + 2) 92 [.ref 91, .int w, .int (zI n)] M (some (.int (zI (sp_path P w n).1)), M') ∧ mPth M' 2 (sp_path P w n).2 ∧ Fp (pPth 2) M M' := by
  obtain ⟨M1, e1, g1, f1, k1⟩ := e_M_name (G := G) (d := d) (w := w) (i := 0) hW (by decide) hn
  unfold sp_path
  by_cases c : nmOf w n = []
  · rw [if_pos c]
    rw [if_pos c] at e1
    have := k1 c
    subst this
    refine ⟨M1, ev_of (q := mt_M_path) rfl (ev_M_path_0 ⟨okO_W hW rfl, _, _, e1, ev_M_path_7 ?_⟩), h, Fp.rf⟩
    rw [zI_0, if_pos rfl]
  · rw [if_neg c]
    rw [if_neg c] at e1
    have hW1 := f1.WM hW
    refine ⟨am_setI M1 95 2 (zI 1), ev_of (q := mt_M_path) rfl (ev_M_path_0 ⟨okO_W hW rfl, _, _, e1, ev_M_path_7 ?_⟩), ⟨by simp, setI_self, fun i hi k hk => ?_, fun l hl => ?_⟩, (f1.up (fun a j q => Or.inr ⟨q.1, by omega, by omega⟩)).tr (Fp.set (Or.inl ⟨rfl, rfl⟩))⟩
    · rw [zI_0, if_neg z10, show (zI 2).toNatClampNeg = 2 from by decide +kernel]
      exact ⟨okF_W hW1 rfl, okA_W hW1 (show sg0[91 + 4]? = some (.inr (0, 6)) from rfl) (by decide +kernel), rfl⟩
    · have hi : i < 1 := hi
      obtain rfl : i = 0 := by omega
      rw [setI_cell (by decide)]
      exact g1 c k hk
    · rw [List.mem_singleton.mp hl]
      exact nmOf_isN c
theorem e_M_step {M : Mm_} {P : List (List Int)} {w : Int32} {n : Int} (hW : WM M) (h : mPth M 2 P) (hn : rg n) : ∃ M', Ev G (d + 2) 95 [.ref 91, .int w, .int (zI n)] M (some (.int (zI (sp_step P w n).1)), M') ∧ mPth M' 2 (sp_step P w n).2 ∧ Fp (pPth 2) M M' := by
  obtain ⟨h1, h2, h3, h4⟩ := h
  have z2 : (zI 2).toNatClampNeg = 2 := by decide +kernel
  have h2' : M.2.1 (91 + 4) 2 = zI P.length := h2
  have hA : ∀ {N : Mm_}, WM N → am_okA N (91 + 4) 0 (zI 2) = true := fun hN => okA_W hN (show sg0[91 + 4]? = some (.inr (0, 6)) from rfl) (by decide +kernel)
  unfold sp_step
  by_cases c1 : 1 ≤ (P.length : Int) ∧ (P.length : Int) ≤ 2
  · obtain ⟨M1, e1, g1, f1, k1⟩ := e_M_name (G := G) (d := d) (w := w) (i := P.length) hW (by omega) hn
    have hW1 := f1.WM hW
    by_cases c : nmOf w n = []
    · rw [if_pos (Or.inl c)]
      rw [if_pos c] at e1
      have := k1 c
      subst this
      refine ⟨M1, ev_of (q := mt_M_step) rfl (ev_M_step_0 ?_), ⟨h1, h2, h3, h4⟩, Fp.rf⟩
      rw [z2, h2']
      refine ⟨okF_W hW rfl, hA hW, _, _, e_M_in_t ⟨by omega, by omega⟩ ⟨by omega, by omega⟩ ⟨by omega, by omega⟩ c1, ev_M_step_11 ?_⟩
      rw [zI_0, if_neg z10, z2, h2']
      refine ⟨okF_W hW rfl, hA hW, okO_W hW rfl, _, _, e1, ev_M_step_26 ?_⟩
      rw [zI_0, if_pos rfl]
    · rw [if_neg (fun q => by rcases q with q | q | q; exact c q; omega; omega)]
      rw [if_neg c] at e1
      have h2'' : M1.2.1 (91 + 4) 2 = zI P.length := by rw [f1.2.2 _ _ (fun q => by omega)]; exact h2'
      refine ⟨am_setI M1 95 2 (zI ((P.length : Int) + 1)), ev_of (q := mt_M_step) rfl (ev_M_step_0 ?_), ⟨by simp; omega, by rw [setI_self]; simp, fun i hi k hk => ?_, fun l hl => ?_⟩, (f1.up (fun a j q => Or.inr ⟨q.1, by omega, by omega⟩)).tr (Fp.set (Or.inl ⟨rfl, rfl⟩))⟩
      · rw [z2, h2']
        refine ⟨okF_W hW rfl, hA hW, _, _, e_M_in_t ⟨by omega, by omega⟩ ⟨by omega, by omega⟩ ⟨by omega, by omega⟩ c1, ev_M_step_11 ?_⟩
        rw [zI_0, if_neg z10, z2, h2']
        refine ⟨okF_W hW rfl, hA hW, okO_W hW rfl, _, _, e1, ev_M_step_26 ?_⟩
        rw [zI_0, if_neg z10, z2, h2'', zI_add]
        exact ⟨okF_W hW1 rfl, okF_W hW1 rfl, hA hW1, hA hW1, rfl⟩
      · rw [List.length_append, List.length_singleton] at hi
        rw [setI_cell (by decide)]
        by_cases ei : i = P.length
        · subst ei
          rw [show 12 * 2 + 4 * P.length + k = 24 + 4 * P.length + k by omega, g1 c k hk]
          simp [List.getD_eq_getElem?_getD]
        · rw [f1.2.2 _ _ (fun q => by omega), h3 i (by omega) k hk]
          simp [List.getD_eq_getElem?_getD, List.getElem?_append_left (show i < P.length by omega)]
      · rcases List.mem_append.mp hl with q | q
        · exact h4 l q
        · rw [List.mem_singleton.mp q]; exact nmOf_isN c
  · rw [if_pos (by omega)]
    refine ⟨M, ev_of (q := mt_M_step) rfl (ev_M_step_0 ?_), ⟨h1, h2, h3, h4⟩, Fp.rf⟩
    rw [z2, h2']
    refine ⟨okF_W hW rfl, hA hW, _, _, e_M_in_f ⟨by omega, by omega⟩ ⟨by omega, by omega⟩ ⟨by omega, by omega⟩ c1, ev_M_step_11 ?_⟩
    rw [zI_0, if_pos rfl]
end MPATH
