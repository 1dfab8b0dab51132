/-! THE REFERENCE's operators: the row, splice -/
/-- the work's bytes -/
def wkI (M : Mm_) (Y : List Int) : Prop := M.2.1 91 23 = zI (Y.length : Int) ∧ mAt M 1408 Y
/-- the row's bytes -/
def rwI (M : Mm_) (X : List Int) : Prop := M.2.1 91 25 = zI (X.length : Int) ∧ ∀ i, i < X.length → M.2.1 107 i = zI (by_ X i)
def pRw (a j : Nat) : Prop := (a = 91 ∧ j = 25) ∨ a = 107
def pSp (a j : Nat) : Prop := (a = 91 ∧ j = 23) ∨ (a = 92 ∧ 1408 ≤ j)
theorem rwI.kp {P : Nat → Nat → Prop} {M M' : Mm_} {X : List Int} (h : rwI M X) (f : Fp P M M') (hp : ∀ a j, P a j → ¬ pRw a j) : rwI M' X := ⟨by rw [f.2.2 _ _ (fun q => hp _ _ q (Or.inl ⟨rfl, rfl⟩))]; exact h.1, fun i hi => by rw [f.2.2 _ _ (fun q => hp _ _ q (Or.inr rfl))]; exact h.2 i hi⟩
theorem wkI.kp {P : Nat → Nat → Prop} {M M' : Mm_} {X : List Int} (h : wkI M X) (f : Fp P M M') (hp : ∀ a j, P a j → ¬ pSp a j) : wkI M' X := ⟨by rw [f.2.2 _ _ (fun q => hp _ _ q (Or.inl ⟨rfl, rfl⟩))]; exact h.1, fun i hi => by rw [f.2.2 _ _ (fun q => hp _ _ q (Or.inr ⟨rfl, by omega⟩))]; exact h.2 i hi⟩
theorem edB_congr {B : List Int} {f t : Nat} {pc : List Int} {ps ps' : List Nat} (h : ∀ p, p ∈ ps ↔ p ∈ ps') : edB B f t pc ps = edB B f t pc ps' := by
  unfold edB
  congr 1
  apply List.map_congr_left
  intro i _
  by_cases c : i ∈ ps
  · rw [if_pos c, if_pos ((h i).mp c)]
  · rw [if_neg c, if_neg (fun q => c ((h i).mpr q))]
section MSPL
variable {G : Nat × (Nat → Int32)} {d : Nat}
theorem e_M_add {M : Mm_} {X : List Int} {b : Int} (hW : WM M) (h : rwI M X) (hl : X.length < 160) : ∃ M', Ev G d 141 [.ref 91, .int (zI b)] M (none, M') ∧ rwI M' (X ++ [b]) ∧ Fp pRw M M' := by
  obtain ⟨h1, h2⟩ := h
  refine ⟨am_setI (am_setI M 107 X.length (zI b)) 91 25 (zI ((X.length + 1 : Nat) : Int)), ev_of (q := mt_M_add) rfl (ev_M_add_0 ?_), ⟨by rw [setI_self, List.length_append, List.length_singleton], fun i hi => ?_⟩, Fp.tr (Fp.set (Or.inr rfl)) (Fp.set (Or.inl ⟨rfl, rfl⟩))⟩
  · have e5 : zI (X.length : Int) + zI 1 = zI ((X.length + 1 : Nat) : Int) := by rw [zI_add, show (X.length : Int) + 1 = ((X.length + 1 : Nat) : Int) by omega]
    rw [h1, zI_nat (show X.length < 2147483648 by omega), setI_cell (show (91 : Nat) ≠ 91 + 16 by decide), h1, e5]
    exact ⟨okF_W hW rfl, okF_W hW rfl, okA_z hW (show sg0[91 + 16]? = some (.inr (0, 160)) from rfl) (by omega) (by omega), okF_W (WM_setI hW) rfl, okP_W (WM_setI hW) rfl rfl, rfl⟩
  · rw [List.length_append, List.length_singleton] at hi
    rw [setI_cell (by decide)]
    by_cases e : i = X.length
    · rw [e, setI_self, by_app2 (Nat.le_refl _), Nat.sub_self]
      rfl
    · rw [setI_idx e, by_app (by omega)]
      exact h2 i (by omega)
theorem adn_m {i : Nat} {ls : List Int} {x1 : Int32} (hi : i < 3) (hls : isN ls) : ∀ (m k : Nat) (M : Mm_) (X : List Int) (u4 : Option Value), k + m = 4 → WM M → rwI M X → X.length + m + 1 ≤ 160 → (∀ j, j < 4 → M.2.1 96 (24 + 4 * i + j) = zI (ls.getD j 0)) → ∃ M', EvC G (d + 1) m_M_addName 7 [some (.ref 91), some (.int x1), some (.int (zI (i : Int))), some (.int (zI (k : Int))), u4] [] M (none, M') ∧ rwI M' (X ++ (ls.drop k ++ [0])) ∧ Fp pRw M M'
  | 0, k, M, X, u4, hk, hW, h, hl, hL => by
    have hl4 := hls.2.1
    obtain ⟨M1, e1, r1, f1⟩ := e_M_add (G := G) (d := d) (b := 0) hW h (by omega)
    refine ⟨M1, ev_M_addName_7 ?_, by rw [List.drop_eq_nil_of_le (by omega), List.nil_append]; exact r1, f1⟩
    rw [if_neg (fun q => by rw [zI_lt ⟨by omega, by omega⟩ ⟨by omega, by omega⟩] at q; omega)]
    exact ⟨okO_W hW rfl, _, e1, ev_M_addName_49 rfl⟩
  | m + 1, k, M, X, u4, hk, hW, h, hl, hL => by
    have ea : zI 24 + zI 4 * zI (i : Int) + zI (k : Int) = zI (((24 + 4 * i : Nat) : Int) + (k : Int)) := by rw [zI_mul, zI_add, zI_add, show (24 : Int) + 4 * (i : Int) = ((24 + 4 * i : Nat) : Int) by omega]
    have ek : zI (k : Int) + zI 1 = zI ((k + 1 : Nat) : Int) := by rw [zI_add, show (k : Int) + 1 = ((k + 1 : Nat) : Int) by omega]
    have v : M.2.1 (91 + 5) (24 + 4 * i + k) = zI (ls.getD k 0) := hL k (by omega)
    have ok : am_okA M (91 + 5) 0 (zI (((24 + 4 * i : Nat) : Int) + (k : Int))) = true := okA_W hW (show sg0[91 + 5]? = some (.inr (0, 72)) from rfl) (zI_in (by omega) (by omega) (by omega))
    by_cases c : k < ls.length
    · have hv : ls.getD k 0 = ls[k] := by rw [List.getD_eq_getElem?_getD, List.getElem?_eq_getElem c, Option.getD_some]
      have hr := hls.2.2 _ (List.getElem_mem c)
      rw [← hv] at hr
      obtain ⟨M0, e0, r0, f0⟩ := e_M_add (G := G) (d := d) (b := ls.getD k 0) hW h (by omega)
      obtain ⟨M1, e1, r1, f1⟩ := adn_m (x1 := x1) hi hls m (k + 1) M0 (X ++ [ls.getD k 0]) (some (.int (zI (ls.getD k 0)))) (by omega) (f0.WM hW) r0 (by rw [List.length_append, List.length_singleton]; omega) (fun j hj => by rw [f0.2.2 _ _ (fun q => by unfold pRw at q; omega)]; exact hL j hj)
      refine ⟨M1, ev_M_addName_7 ?_, ?_, f0.tr f1⟩
      · rw [if_pos ((zI_lt ⟨by omega, by omega⟩ ⟨by omega, by omega⟩).mpr (by omega)), ea, cl2 (by omega), v, zI_0, if_neg (zI_ne ⟨by omega, by omega⟩ ⟨by omega, by omega⟩ (by omega))]
        refine ⟨okF_W hW rfl, ok, okO_W hW rfl, _, e0, ev_M_addName_38 ?_⟩
        rw [ek]
        exact e1
      · rw [List.drop_eq_getElem_cons c, ← hv, List.cons_append]
        rw [List.append_assoc] at r1
        exact r1
    · have hv : ls.getD k 0 = 0 := by rw [List.getD_eq_getElem?_getD, List.getElem?_eq_none (by omega)]; rfl
      obtain ⟨M1, e1, r1, f1⟩ := adn_m (x1 := x1) hi hls m (k + 1) M X (some (.int (zI (ls.getD k 0)))) (by omega) hW h (by omega) hL
      refine ⟨M1, ev_M_addName_7 ?_, ?_, f1⟩
      · rw [if_pos ((zI_lt ⟨by omega, by omega⟩ ⟨by omega, by omega⟩).mpr (by omega)), ea, cl2 (by omega), v, zI_0, if_pos (by rw [hv])]
        refine ⟨okF_W hW rfl, ok, ev_M_addName_38 ?_⟩
        rw [ek]
        exact e1
      · rw [List.drop_eq_nil_of_le (by omega)]
        rw [List.drop_eq_nil_of_le (by omega)] at r1
        exact r1
theorem mPth_let {M : Mm_} {P : List (List Int)} {i : Nat} (h : mPth M 2 P) (hi : i < P.length) : ∀ j, j < 4 → M.2.1 96 (24 + 4 * i + j) = zI ((P.getD i []).getD j 0) := fun j hj => h.2.2.1 i hi j hj
theorem e_M_addName {M : Mm_} {P : List (List Int)} {i : Nat} {X : List Int} {t : Int} (hW : WM M) (hP : mPth M 2 P) (hi : i < P.length) (h : rwI M X) (hl : X.length ≤ 150) : ∃ M', Ev G (d + 1) 140 [.ref 91, .int (zI t), .int (zI (i : Int))] M (none, M') ∧ rwI M' (X ++ (t :: (P.getD i [] ++ [0]))) ∧ Fp pRw M M' := by
  have hpl := hP.1
  obtain ⟨M0, e0, r0, f0⟩ := e_M_add (G := G) (d := d) (b := t) hW h (by omega)
  obtain ⟨M1, e1, r1, f1⟩ := adn_m (G := G) (d := d) (x1 := zI t) (i := i) (ls := P.getD i []) (by omega) (getN hP.2.2.2 hi) 4 0 M0 (X ++ [t]) none rfl (f0.WM hW) r0 (by rw [List.length_append, List.length_singleton]; omega) (fun j hj => by rw [f0.2.2 _ _ (fun q => by unfold pRw at q; omega)]; exact mPth_let hP hi j hj)
  refine ⟨M1, ev_of (q := mt_M_addName) rfl (ev_M_addName_0 ⟨okO_W hW rfl, _, e0, ev_M_addName_5 e1⟩), ?_, f0.tr f1⟩
  rw [List.drop_zero, List.append_assoc] at r1
  exact r1
theorem nsz_l {M : Mm_} {i : Nat} {ls : List Int} (hW : WM M) (hi : i < 3) (hls : isN ls) (hL : ∀ j, j < 4 → M.2.1 96 (24 + 4 * i + j) = zI (ls.getD j 0)) : ∀ (m k : Nat), k + m = 4 → EvC G d m_M_nameSize 4 [some (.ref 91), some (.int (zI (i : Int))), some (.int (zI ((min k ls.length : Nat) : Int))), some (.int (zI (k : Int)))] [] M (some (.int (zI ((ls.length + 2 : Nat) : Int))), M)
  | 0, k, hk => by
    have hl4 := hls.2.1
    refine ev_M_nameSize_4 ?_
    rw [if_neg (fun q => by rw [zI_lt ⟨by omega, by omega⟩ ⟨by omega, by omega⟩] at q; omega), zI_add, show ((min k ls.length : Nat) : Int) + 2 = ((ls.length + 2 : Nat) : Int) by omega]
  | m + 1, k, hk => by
    have hl4 := hls.2.1
    have ih := nsz_l hW hi hls hL m (k + 1) (by omega)
    have ea : zI 24 + zI 4 * zI (i : Int) + zI (k : Int) = zI (((24 + 4 * i : Nat) : Int) + (k : Int)) := by rw [zI_mul, zI_add, zI_add, show (24 : Int) + 4 * (i : Int) = ((24 + 4 * i : Nat) : Int) by omega]
    have ek : zI (k : Int) + zI 1 = zI ((k + 1 : Nat) : Int) := by rw [zI_add, show (k : Int) + 1 = ((k + 1 : Nat) : Int) by omega]
    have v : M.2.1 (91 + 5) (24 + 4 * i + k) = zI (ls.getD k 0) := hL k (by omega)
    have ok : am_okA M (91 + 5) 0 (zI (((24 + 4 * i : Nat) : Int) + (k : Int))) = true := okA_W hW (show sg0[91 + 5]? = some (.inr (0, 72)) from rfl) (zI_in (by omega) (by omega) (by omega))
    refine ev_M_nameSize_4 ?_
    rw [if_pos ((zI_lt ⟨by omega, by omega⟩ ⟨by omega, by omega⟩).mpr (by omega)), ea, cl2 (by omega), v, zI_0, ek, zI_add]
    refine ⟨okF_W hW rfl, ok, ?_⟩
    by_cases c : k < ls.length
    · have hv : ls.getD k 0 = ls[k] := by rw [List.getD_eq_getElem?_getD, List.getElem?_eq_getElem c, Option.getD_some]
      have hr := hls.2.2 _ (List.getElem_mem c)
      rw [← hv] at hr
      rw [if_neg (zI_ne ⟨by omega, by omega⟩ ⟨by omega, by omega⟩ (by omega)), show ((min k ls.length : Nat) : Int) + 1 = ((min (k + 1) ls.length : Nat) : Int) by omega]
      exact ih
    · have hv : ls.getD k 0 = 0 := by rw [List.getD_eq_getElem?_getD, List.getElem?_eq_none (by omega)]; rfl
      rw [if_pos (by rw [hv]), show min k ls.length = min (k + 1) ls.length by omega]
      exact ih
theorem e_M_nameSize {M : Mm_} {P : List (List Int)} {i : Nat} (hW : WM M) (hP : mPth M 2 P) (hi : i < P.length) : Ev G d 139 [.ref 91, .int (zI (i : Int))] M (some (.int (zI (((P.getD i []).length + 2 : Nat) : Int))), M) := by
  have hpl := hP.1
  have := nsz_l (G := G) (d := d) (i := i) (ls := P.getD i []) hW (by omega) (getN hP.2.2.2 hi) (mPth_let hP hi) 4 0 rfl
  rw [Nat.zero_min] at this
  exact ev_of (q := mt_M_nameSize) rfl (ev_M_nameSize_0 this)
theorem ado_l {Q : List Int} {x1 : Int32} : ∀ (m k : Nat) (M : Mm_) (X : List Int), k + m = Q.length → WM M → mBuf M Q → rwI M X → X.length + m ≤ 160 → ∃ M', EvC G (d + 1) m_M_addOperand 10 [some (.ref 91), some (.int x1), some (.int (zI (k : Int)))] [] M (none, M') ∧ rwI M' (X ++ Q.drop k) ∧ Fp pRw M M'
  | 0, k, M, X, hk, hW, hb, h, hl => by
    have := hb.1
    refine ⟨M, ev_M_addOperand_10 ?_, by rw [List.drop_eq_nil_of_le (by omega), List.append_nil]; exact h, Fp.rf⟩
    rw [hb.2.1, if_neg (fun q => by rw [zI_lt ⟨by omega, by omega⟩ ⟨by omega, by omega⟩] at q; omega)]
    exact ⟨okF_W hW rfl, rfl⟩
  | m + 1, k, M, X, hk, hW, hb, h, hl => by
    have hbl := hb.1
    have hkl : k < Q.length := by omega
    have ek : zI (k : Int) + zI 1 = zI ((k + 1 : Nat) : Int) := by rw [zI_add, show (k : Int) + 1 = ((k + 1 : Nat) : Int) by omega]
    have eb : zI 1024 + zI (k : Int) = zI (((1024 : Nat) : Int) + (k : Int)) := zI_add _ _
    obtain ⟨M0, e0, r0, f0⟩ := e_M_add (G := G) (d := d) (b := by_ Q k) hW h (by omega)
    obtain ⟨M1, e1, r1, f1⟩ := ado_l (x1 := x1) m (k + 1) M0 (X ++ [by_ Q k]) (by omega) (f0.WM hW) (hb.kx (f0.x hW) (fun a j q => by unfold pRw at q; omega)) r0 (by rw [List.length_append, List.length_singleton]; omega)
    refine ⟨M1, ev_M_addOperand_10 ?_, ?_, f0.tr f1⟩
    · rw [hb.2.1, if_pos ((zI_lt ⟨by omega, by omega⟩ ⟨by omega, by omega⟩).mpr (by omega)), eb, cl2 (by omega), show M.2.1 (91 + 1) (1024 + k) = zI (by_ Q k) from hb.2.2.1 k hkl]
      refine ⟨okF_W hW rfl, okF_W hW rfl, okA_W hW (show sg0[91 + 1]? = some (.inr (0, 1728)) from rfl) (zI_in (by omega) (by omega) (by omega)), okO_W hW rfl, _, e0, ev_M_addOperand_32 ?_⟩
      rw [ek]
      exact e1
    · have hd : Q.drop k = by_ Q k :: Q.drop (k + 1) := by
        rw [List.drop_eq_getElem_cons hkl]
        congr 1
        unfold by_
        rw [List.getD_eq_getElem?_getD, List.getElem?_eq_getElem hkl, Option.getD_some]
      rw [hd]
      rw [List.append_assoc] at r1
      exact r1
theorem e_M_addOperand {M : Mm_} {Q X : List Int} {w : Int} (hw : w = 0 ∨ w = 1) (hW : WM M) (hb : mBuf M Q) (hq : 0 < Q.length) (h : rwI M X) (hl : X.length + Q.length ≤ 160) : ∃ M', Ev G (d + 1) 142 [.ref 91, .int (zI w)] M (none, M') ∧ rwI M' (X ++ (if w = 1 then Q else Q.drop 1)) ∧ Fp pRw M M' := by
  rcases hw with rfl | rfl
  · obtain ⟨M1, e1, r1, f1⟩ := ado_l (G := G) (d := d) (x1 := zI 0) (Q.length - 1) 1 M X (by omega) hW hb h (by omega)
    refine ⟨M1, ev_of (q := mt_M_addOperand) rfl (ev_M_addOperand_0 ?_), by rw [if_neg (by decide)]; exact r1, f1⟩
    rw [zI_0, if_pos rfl]
    exact e1
  · obtain ⟨M1, e1, r1, f1⟩ := ado_l (G := G) (d := d) (x1 := zI 1) Q.length 0 M X (by omega) hW hb h (by omega)
    refine ⟨M1, ev_of (q := mt_M_addOperand) rfl (ev_M_addOperand_0 ?_), by rw [if_pos rfl, ← List.drop_zero (l := Q)]; exact r1, f1⟩
    rw [zI_0, if_neg z10]
    exact e1
/-! splice -/
theorem sp_d {Y X : List Int} {f t : Nat} {x3 x4 x6 : Int32} (hft : f ≤ t) (ht : t ≤ Y.length) (hl : Y.length + X.length ≤ 300) (hd : t < f + X.length) : ∀ (m : Nat) (M : Mm_), t + m ≤ Y.length → WM M → (∀ j, j < t + m → M.2.1 92 (1408 + j) = zI (by_ Y j)) → (∀ i, m ≤ i → t + i < Y.length → M.2.1 92 (1408 + (f + X.length + i)) = zI (by_ Y (t + i))) →
    ∃ M1, Fp (fun a j => a = 92 ∧ 1408 ≤ j) M M1 ∧ (∀ j, j < f → M1.2.1 92 (1408 + j) = zI (by_ Y j)) ∧ (∀ i, t + i < Y.length → M1.2.1 92 (1408 + (f + X.length + i)) = zI (by_ Y (t + i))) ∧ ∀ r, EvC G d m_M_splice 99 [some (.ref 91), some (.int (zI (1408 + (f : Int)))), some (.int (zI (1408 + (t : Int)))), some (.int x3), some (.int x4), some (.int (zI ((X.length : Int) - ((t : Int) - (f : Int))))), some (.int x6), some (.int (zI 0))] [] M1 r →
    EvC G d m_M_splice 31 [some (.ref 91), some (.int (zI (1408 + (f : Int)))), some (.int (zI (1408 + (t : Int)))), some (.int x3), some (.int x4), some (.int (zI ((X.length : Int) - ((t : Int) - (f : Int))))), some (.int x6), some (.int (zI (1408 + (t : Int) + (m : Int) - 1)))] [] M r
  | 0, M, hm, hW, h1, h2 => by
    refine ⟨M, Fp.rf, fun j hj => h1 j (by omega), fun i hi => h2 i (by omega) hi, fun r hr => ev_M_splice_31 ?_⟩
    rw [if_pos ((zI_lt ⟨by omega, by omega⟩ ⟨by omega, by omega⟩).mpr (by omega))]
    exact hr
  | m + 1, M, hm, hW, h1, h2 => by
    have e1 : (zI (1408 + (t : Int) + ((m + 1 : Nat) : Int) - 1)).toNatClampNeg = 1408 + (t + m) := by rw [zI_clamp ⟨by omega, by omega⟩]; omega
    have e2 : zI (1408 + (t : Int) + ((m + 1 : Nat) : Int) - 1) + zI ((X.length : Int) - ((t : Int) - (f : Int))) = zI (1408 + ((f + X.length + m : Nat) : Int)) := by rw [zI_add]; congr 1; omega
    have e3 : (zI (1408 + ((f + X.length + m : Nat) : Int))).toNatClampNeg = 1408 + (f + X.length + m) := by rw [zI_clamp ⟨by omega, by omega⟩]; omega
    have e4 : zI (1408 + (t : Int) + ((m + 1 : Nat) : Int) - 1) + zI (-1) = zI (1408 + (t : Int) + (m : Int) - 1) := by rw [zI_add]; congr 1; omega
    have fp : Fp (fun a j => a = 92 ∧ 1408 ≤ j) M (am_setI M 92 (1408 + (f + X.length + m)) (zI (by_ Y (t + m)))) := Fp.set ⟨rfl, by omega⟩
    obtain ⟨M1, F, g1, g2, g3⟩ := sp_d (X := X) (f := f) (t := t) (Y := Y) (x3 := x3) (x4 := x4) (x6 := x6) hft ht hl hd m (am_setI M 92 (1408 + (f + X.length + m)) (zI (by_ Y (t + m)))) (by omega) (WM_setI hW) (fun j hj => by rw [setI_idx (by omega)]; exact h1 j (by omega)) (fun i q1 q2 => by
      by_cases e : i = m
      · rw [e, setI_self]
      · rw [setI_idx (by omega)]; exact h2 i (by omega) q2)
    refine ⟨M1, fp.tr F, g1, g2, fun r hr => ev_M_splice_31 ?_⟩
    rw [if_neg (fun q => by rw [zI_lt ⟨by omega, by omega⟩ ⟨by omega, by omega⟩] at q; omega), e1, e2, e3, e4, show M.2.1 (91 + 1) (1408 + (t + m)) = zI (by_ Y (t + m)) from h1 (t + m) (by omega)]
    exact ⟨okF_W hW rfl, okF_W hW rfl, okA_W hW (show sg0[91 + 1]? = some (.inr (0, 1728)) from rfl) (zI_in (by omega) (by omega) (by omega)), okA_W hW (show sg0[91 + 1]? = some (.inr (0, 1728)) from rfl) (zI_in (by omega) (by omega) (by omega)), g3 r hr⟩
theorem sp_a {Y X : List Int} {f t : Nat} {x3 x4 : Int32} (hft : f ≤ t) (ht : t ≤ Y.length) (hl : Y.length + X.length ≤ 300) (hd : f + X.length ≤ t) : ∀ (m k : Nat) (M : Mm_), t + k + m = Y.length → WM M → (∀ j, j < f → M.2.1 92 (1408 + j) = zI (by_ Y j)) → (∀ j, t + k ≤ j → j < Y.length → M.2.1 92 (1408 + j) = zI (by_ Y j)) → (∀ i, i < k → M.2.1 92 (1408 + (f + X.length + i)) = zI (by_ Y (t + i))) →
    ∃ M1, Fp (fun a j => a = 92 ∧ 1408 ≤ j) M M1 ∧ (∀ j, j < f → M1.2.1 92 (1408 + j) = zI (by_ Y j)) ∧ (∀ i, t + i < Y.length → M1.2.1 92 (1408 + (f + X.length + i)) = zI (by_ Y (t + i))) ∧ ∀ r, EvC G d m_M_splice 99 [some (.ref 91), some (.int (zI (1408 + (f : Int)))), some (.int (zI (1408 + (t : Int)))), some (.int x3), some (.int x4), some (.int (zI ((X.length : Int) - ((t : Int) - (f : Int))))), some (.int (zI (1408 + (Y.length : Int)))), some (.int (zI 0))] [] M1 r →
    EvC G d m_M_splice 66 [some (.ref 91), some (.int (zI (1408 + (f : Int)))), some (.int (zI (1408 + (t : Int)))), some (.int x3), some (.int x4), some (.int (zI ((X.length : Int) - ((t : Int) - (f : Int))))), some (.int (zI (1408 + (Y.length : Int)))), some (.int (zI (1408 + (t : Int) + (k : Int))))] [] M r
  | 0, k, M, hm, hW, h0, h1, h2 => by
    refine ⟨M, Fp.rf, h0, fun i hi => h2 i (by omega), fun r hr => ev_M_splice_66 ?_⟩
    rw [if_neg (fun q => by rw [zI_lt ⟨by omega, by omega⟩ ⟨by omega, by omega⟩] at q; omega)]
    exact hr
  | m + 1, k, M, hm, hW, h0, h1, h2 => by
    have e1 : (zI (1408 + (t : Int) + (k : Int))).toNatClampNeg = 1408 + (t + k) := by rw [zI_clamp ⟨by omega, by omega⟩]; omega
    have e2 : zI (1408 + (t : Int) + (k : Int)) + zI ((X.length : Int) - ((t : Int) - (f : Int))) = zI (1408 + ((f + X.length + k : Nat) : Int)) := by rw [zI_add]; congr 1; omega
    have e3 : (zI (1408 + ((f + X.length + k : Nat) : Int))).toNatClampNeg = 1408 + (f + X.length + k) := by rw [zI_clamp ⟨by omega, by omega⟩]; omega
    have e4 : zI (1408 + (t : Int) + (k : Int)) + zI 1 = zI (1408 + (t : Int) + ((k + 1 : Nat) : Int)) := by rw [zI_add, show 1408 + (t : Int) + (k : Int) + 1 = 1408 + (t : Int) + ((k + 1 : Nat) : Int) by omega]
    have fp : Fp (fun a j => a = 92 ∧ 1408 ≤ j) M (am_setI M 92 (1408 + (f + X.length + k)) (zI (by_ Y (t + k)))) := Fp.set ⟨rfl, by omega⟩
    obtain ⟨M1, F, g1, g2, g3⟩ := sp_a (X := X) (f := f) (t := t) (Y := Y) (x3 := x3) (x4 := x4) hft ht hl hd m (k + 1) (am_setI M 92 (1408 + (f + X.length + k)) (zI (by_ Y (t + k)))) (by omega) (WM_setI hW) (fun j hj => by rw [setI_idx (by omega)]; exact h0 j hj) (fun j q1 q2 => by rw [setI_idx (by omega)]; exact h1 j (by omega) q2) (fun i hi => by
      by_cases e : i = k
      · rw [e, setI_self]
      · rw [setI_idx (by omega)]; exact h2 i (by omega))
    refine ⟨M1, fp.tr F, g1, g2, fun r hr => ev_M_splice_66 ?_⟩
    rw [if_pos ((zI_lt ⟨by omega, by omega⟩ ⟨by omega, by omega⟩).mpr (by omega)), e1, e2, e3, e4, show M.2.1 (91 + 1) (1408 + (t + k)) = zI (by_ Y (t + k)) from h1 (t + k) (by omega) (by omega)]
    exact ⟨okF_W hW rfl, okF_W hW rfl, okA_W hW (show sg0[91 + 1]? = some (.inr (0, 1728)) from rfl) (zI_in (by omega) (by omega) (by omega)), okA_W hW (show sg0[91 + 1]? = some (.inr (0, 1728)) from rfl) (zI_in (by omega) (by omega) (by omega)), g3 r hr⟩
theorem sp_r {X : List Int} {f : Nat} {x2 x3 x4 x6 : Int32} {g : Int} {n : Int32} (hl : f + X.length ≤ 300) (hx : X.length ≤ 160) : ∀ (m k : Nat) (M : Mm_), k + m = X.length → WM M → rwI M X → M.2.1 91 23 = n → (∀ i, i < k → M.2.1 92 (1408 + (f + i)) = zI (by_ X i)) →
    ∃ M1, Fp (fun a j => a = 92 ∧ 1408 + f ≤ j ∧ j < 1408 + f + X.length) M M1 ∧ (∀ i, i < X.length → M1.2.1 92 (1408 + (f + i)) = zI (by_ X i)) ∧ ∀ r, EvC G d m_M_splice 144 [some (.ref 91), some (.int (zI (1408 + (f : Int)))), some (.int x2), some (.int x3), some (.int x4), some (.int (zI g)), some (.int x6), some (.int (zI 0))] [] (am_setI M1 91 23 (n + zI g)) r →
    EvC G d m_M_splice 99 [some (.ref 91), some (.int (zI (1408 + (f : Int)))), some (.int x2), some (.int x3), some (.int x4), some (.int (zI g)), some (.int x6), some (.int (zI (k : Int)))] [] M r
  | 0, k, M, hm, hW, h, hn, h2 => by
    refine ⟨M, Fp.rf, fun i hi => h2 i (by omega), fun r hr => ev_M_splice_99 ?_⟩
    rw [h.1, if_neg (fun q => by rw [zI_lt ⟨by omega, by omega⟩ ⟨by omega, by omega⟩] at q; omega), hn]
    exact ⟨okF_W hW rfl, okF_W hW rfl, okP_W hW rfl rfl, hr⟩
  | m + 1, k, M, hm, hW, h, hn, h2 => by
    have e2 : zI (1408 + (f : Int)) + zI (k : Int) = zI (1408 + ((f + k : Nat) : Int)) := by rw [zI_add]; congr 1; omega
    have e3 : (zI (1408 + ((f + k : Nat) : Int))).toNatClampNeg = 1408 + (f + k) := by rw [zI_clamp ⟨by omega, by omega⟩]; omega
    have ek : zI (k : Int) + zI 1 = zI ((k + 1 : Nat) : Int) := by rw [zI_add, show (k : Int) + 1 = ((k + 1 : Nat) : Int) by omega]
    have fp : Fp (fun a j => a = 92 ∧ 1408 + f ≤ j ∧ j < 1408 + f + X.length) M (am_setI M 92 (1408 + (f + k)) (zI (by_ X k))) := Fp.set ⟨rfl, by omega, by omega⟩
    obtain ⟨M1, F, g1, g3⟩ := sp_r (x2 := x2) (x3 := x3) (x4 := x4) (x6 := x6) (g := g) (n := n) hl hx m (k + 1) (am_setI M 92 (1408 + (f + k)) (zI (by_ X k))) (by omega) (WM_setI hW) (h.kp fp (fun a j q w => by unfold pRw at w; omega)) (by rw [setI_cell (by decide)]; exact hn) (fun i hi => by
      by_cases e : i = k
      · rw [e, setI_self]
      · rw [setI_idx (by omega)]; exact h2 i (by omega))
    refine ⟨M1, fp.tr F, g1, fun r hr => ev_M_splice_99 ?_⟩
    rw [h.1, if_pos ((zI_lt ⟨by omega, by omega⟩ ⟨by omega, by omega⟩).mpr (by omega)), zI_nat (show k < 2147483648 by omega), e2, e3, ek, show M.2.1 (91 + 16) k = zI (by_ X k) from h.2 k (by omega)]
    exact ⟨okF_W hW rfl, okF_W hW rfl, okF_W hW rfl, okA_z hW (show sg0[91 + 16]? = some (.inr (0, 160)) from rfl) (by omega) (by omega), okA_W hW (show sg0[91 + 1]? = some (.inr (0, 1728)) from rfl) (zI_in (by omega) (by omega) (by omega)), g3 r hr⟩
/-- the lengths on the way -/
theorem sp_w {ws : List Nat} {x1 x2 x4 x6 : Int32} {g : Int} (hw4 : ws.length ≤ 5) : ∀ (rest done : List Nat) (Y : List Int) (M : Mm_), ws = done ++ rest → WM M → mAt M 1408 Y → Y.length ≤ 300 → (∀ i, i < ws.length → M.2.1 106 i = zI (1408 + ((ws.getD i 0 : Nat) : Int))) → (∀ p ∈ ws, p < Y.length) →
    ∃ M1, Fp (fun a j => a = 92 ∧ 1408 ≤ j) M M1 ∧ mAt M1 1408 (upT Y rest g) ∧ ∀ r, EvC G d m_M_splice 144 [some (.ref 91), some (.int x1), some (.int x2), some (.int (zI (ws.length : Int))), some (.int x4), some (.int (zI g)), some (.int x6), some (.int (zI (ws.length : Int)))] [] M1 r →
    EvC G d m_M_splice 144 [some (.ref 91), some (.int x1), some (.int x2), some (.int (zI (ws.length : Int))), some (.int x4), some (.int (zI g)), some (.int x6), some (.int (zI (done.length : Int)))] [] M r
  | [], done, Y, M, e, hW, h, hl, hA, hp => by
    rw [List.append_nil] at e
    subst e
    exact ⟨M, Fp.rf, h, fun r hr => hr⟩
  | p :: rest, done, Y, M, e, hW, h, hl, hA, hp => by
    have hpl := hp p (by rw [e]; simp)
    have hlen : ws.length = done.length + (rest.length + 1) := by rw [e, List.length_append, List.length_cons]
    have ep : ws.getD done.length 0 = p := getD_mid e
    have w1 : M.2.1 (91 + 15) done.length = zI (1408 + ((p : Nat) : Int)) := by have := hA done.length (by omega); rw [ep] at this; exact this
    have e3 : (zI (1408 + ((p : Nat) : Int))).toNatClampNeg = 1408 + p := by rw [zI_clamp ⟨by omega, by omega⟩]; omega
    have v : M.2.1 (91 + 1) (1408 + p) = zI (by_ Y p) := h p hpl
    have ek : zI (done.length : Int) + zI 1 = zI (((done ++ [p]).length : Nat) : Int) := by rw [zI_add, List.length_append, List.length_singleton, show (done.length : Int) + 1 = ((done.length + 1 : Nat) : Int) by omega]
    have fp : Fp (fun a j => a = 92 ∧ 1408 ≤ j) M (am_setI M 92 (1408 + p) (zI (by_ Y p + g))) := Fp.set ⟨rfl, by omega⟩
    obtain ⟨M1, F, g1, g3⟩ := sp_w (x1 := x1) (x2 := x2) (x4 := x4) (x6 := x6) (g := g) hw4 rest (done ++ [p]) (Y.set p (by_ Y p + g)) (am_setI M 92 (1408 + p) (zI (by_ Y p + g))) (by rw [e, List.append_assoc]; rfl) (WM_setI hW) (fun i hi => by
      rw [List.length_set] at hi
      rw [by_set hpl]
      by_cases c : i = p
      · rw [if_pos c, c, setI_self]
      · rw [if_neg c, setI_idx (by omega)]; exact h i hi) (by rw [List.length_set]; exact hl) (fun i hi => by rw [setI_cell (by decide)]; exact hA i hi) (fun q hq => by rw [List.length_set]; exact hp q hq)
    refine ⟨M1, fp.tr F, g1, fun r hr => ev_M_splice_144 ?_⟩
    rw [if_pos ((zI_lt ⟨by omega, by omega⟩ ⟨by omega, by omega⟩).mpr (by omega)), zI_nat (show done.length < 2147483648 by omega), w1, e3, v, ek, zI_add]
    exact ⟨okF_W hW rfl, okF_W hW rfl, okA_z hW (show sg0[91 + 15]? = some (.inr (0, 5)) from rfl) (by omega) (by omega), okF_W hW rfl, okF_W hW rfl, okA_z hW (show sg0[91 + 15]? = some (.inr (0, 5)) from rfl) (by omega) (by omega), okA_W hW (show sg0[91 + 1]? = some (.inr (0, 1728)) from rfl) (zI_in (by omega) (by omega) (by omega)), okA_W hW (show sg0[91 + 1]? = some (.inr (0, 1728)) from rfl) (zI_in (by omega) (by omega) (by omega)), g3 r hr⟩
def lsV (ls : Option Nat) : Int := match ls with
  | none => -1
  | some v => 1408 + ((v : Nat) : Int)
theorem e_M_splice {M : Mm_} {Y X : List Int} {f t : Nat} {ws : List Nat} {ls : Option Nat} (hW : WM M) (hY : wkI M Y) (hX : rwI M X) (hxl : X.length ≤ 160) (hyl : Y.length ≤ 100) (hft : f ≤ t) (ht : t ≤ Y.length) (hw4 : ws.length ≤ 5) (hA : ∀ i, i < ws.length → M.2.1 106 i = zI (1408 + ((ws.getD i 0 : Nat) : Int))) (hp : ∀ p ∈ ws ++ ls.toList, p < f) (hn : (ws ++ ls.toList).Nodup) :
    ∃ M', Ev G d 143 [.ref 91, .int (zI (1408 + (f : Int))), .int (zI (1408 + (t : Int))), .int (zI (ws.length : Int)), .int (zI (lsV ls))] M (none, M') ∧ wkI M' (edB Y f t X (ws ++ ls.toList)) ∧ Fp pSp M M' := by
  have hb := hY.2
  have l1 : (sl Y 0 f).length = f := by rw [sl_len (by omega)]; omega
  have l2 : (sl Y t Y.length).length = Y.length - t := sl_len (Nat.le_refl _)
  have el : (sl Y 0 f ++ X ++ sl Y t Y.length).length = f + X.length + (Y.length - t) := by rw [List.length_append, List.length_append, l1, l2]
  -- the shift
  have sh : ∃ M1, Fp (fun a j => a = 92 ∧ 1408 ≤ j) M M1 ∧ (∀ j, j < f → M1.2.1 92 (1408 + j) = zI (by_ Y j)) ∧ (∀ i, t + i < Y.length → M1.2.1 92 (1408 + (f + X.length + i)) = zI (by_ Y (t + i))) ∧ ∀ r, EvC G d m_M_splice 99 [some (.ref 91), some (.int (zI (1408 + (f : Int)))), some (.int (zI (1408 + (t : Int)))), some (.int (zI (ws.length : Int))), some (.int (zI (lsV ls))), some (.int (zI ((X.length : Int) - ((t : Int) - (f : Int))))), some (.int (zI (1408 + (Y.length : Int)))), some (.int (zI 0))] [] M1 r → Ev G d 143 [.ref 91, .int (zI (1408 + (f : Int))), .int (zI (1408 + (t : Int))), .int (zI (ws.length : Int)), .int (zI (lsV ls))] M r := by
    have pre : ∀ r, (if zI 0 < zI ((X.length : Int) - ((t : Int) - (f : Int))) then (EvC G d m_M_splice 31 [some (.ref 91), some (.int (zI (1408 + (f : Int)))), some (.int (zI (1408 + (t : Int)))), some (.int (zI (ws.length : Int))), some (.int (zI (lsV ls))), some (.int (zI ((X.length : Int) - ((t : Int) - (f : Int))))), some (.int (zI (1408 + (Y.length : Int)))), some (.int (zI (1408 + (Y.length : Int) - 1)))] [] M r) else (EvC G d m_M_splice 66 [some (.ref 91), some (.int (zI (1408 + (f : Int)))), some (.int (zI (1408 + (t : Int)))), some (.int (zI (ws.length : Int))), some (.int (zI (lsV ls))), some (.int (zI ((X.length : Int) - ((t : Int) - (f : Int))))), some (.int (zI (1408 + (Y.length : Int)))), some (.int (zI (1408 + (t : Int))))] [] M r)) → Ev G d 143 [.ref 91, .int (zI (1408 + (f : Int))), .int (zI (1408 + (t : Int))), .int (zI (ws.length : Int)), .int (zI (lsV ls))] M r := fun r hr => by
      refine ev_of (q := mt_M_splice) rfl (ev_M_splice_0 ?_)
      rw [hX.1, hY.1, zI_sub, zI_sub, zI_add, zI_sub, zI_0, show 1408 + (t : Int) - (1408 + (f : Int)) = (t : Int) - (f : Int) by omega]
      exact ⟨okF_W hW rfl, okF_W hW rfl, hr⟩
    by_cases c : t < f + X.length
    · obtain ⟨M1, q1, q2, q3, q4⟩ := sp_d (G := G) (d := d) (X := X) (f := f) (t := t) (Y := Y) (x3 := zI (ws.length : Int)) (x4 := zI (lsV ls)) (x6 := zI (1408 + (Y.length : Int))) hft ht (by omega) c (Y.length - t) M (by omega) hW (fun j hj => hb j (by omega)) (fun i w1 w2 => by omega)
      refine ⟨M1, q1, q2, q3, fun r hr => pre r ?_⟩
      rw [if_pos ((zI_lt ⟨by omega, by omega⟩ ⟨by omega, by omega⟩).mpr (by omega))]
      have := q4 r hr
      rw [show 1408 + (t : Int) + ((Y.length - t : Nat) : Int) - 1 = 1408 + (Y.length : Int) - 1 by omega] at this
      exact this
    · obtain ⟨M1, q1, q2, q3, q4⟩ := sp_a (G := G) (d := d) (X := X) (f := f) (t := t) (Y := Y) (x3 := zI (ws.length : Int)) (x4 := zI (lsV ls)) hft ht (by omega) (by omega) (Y.length - t) 0 M (by omega) hW (fun j hj => hb j (by omega)) (fun j w1 w2 => hb j w2) (fun i hi => by omega)
      refine ⟨M1, q1, q2, q3, fun r hr => pre r ?_⟩
      rw [if_neg (fun q => by rw [zI_lt ⟨by omega, by omega⟩ ⟨by omega, by omega⟩] at q; omega)]
      have := q4 r hr
      rw [show 1408 + (t : Int) + ((0 : Nat) : Int) = 1408 + (t : Int) by omega] at this
      exact this
  obtain ⟨M1, F1, a1, a2, a3⟩ := sh
  have W1 := F1.WM hW
  obtain ⟨M2, F2, b1, b3⟩ := sp_r (G := G) (d := d) (f := f) (x2 := zI (1408 + (t : Int))) (x3 := zI (ws.length : Int)) (x4 := zI (lsV ls)) (x6 := zI (1408 + (Y.length : Int))) (g := (X.length : Int) - ((t : Int) - (f : Int))) (n := zI (Y.length : Int)) (by omega) hxl X.length 0 M1 (Nat.zero_add _) W1 (hX.kp F1 (fun a j q w => by unfold pRw at w; omega)) (by rw [F1.2.2 _ _ (fun q => by omega)]; exact hY.1) (fun i hi => by omega)
  have W2 := F2.WM W1
  have en : zI (Y.length : Int) + zI ((X.length : Int) - ((t : Int) - (f : Int))) = zI ((f + X.length + (Y.length - t) : Nat) : Int) := by rw [zI_add]; congr 1; omega
  rw [en] at b3
  have f3 : Fp (fun a j => a = 91 ∧ j = 23) M2 (am_setI M2 91 23 (zI ((f + X.length + (Y.length - t) : Nat) : Int))) := Fp.set ⟨rfl, rfl⟩
  have m3 : mAt (am_setI M2 91 23 (zI ((f + X.length + (Y.length - t) : Nat) : Int))) 1408 (sl Y 0 f ++ X ++ sl Y t Y.length) := fun i hi => by
    rw [el] at hi
    rw [setI_cell (by decide)]
    by_cases c1 : i < f
    · rw [F2.2.2 _ _ (fun q => by omega), a1 i c1, List.append_assoc, by_app (by omega), sl_by (by omega), Nat.zero_add]
    · by_cases c2 : i < f + X.length
      · have := b1 (i - f) (by omega)
        rw [show 1408 + (f + (i - f)) = 1408 + i by omega] at this
        rw [this, by_app (by rw [List.length_append]; omega), by_app2 (by omega), l1]
      · have := a2 (i - f - X.length) (by omega)
        rw [show 1408 + (f + X.length + (i - f - X.length)) = 1408 + i by omega] at this
        rw [F2.2.2 _ _ (fun q => by omega), this, by_app2 (by rw [List.length_append]; omega), List.length_append, l1, sl_by (by omega), show i - (f + X.length) = i - f - X.length by omega]
  have F03 : Fp pSp M (am_setI M2 91 23 (zI ((f + X.length + (Y.length - t) : Nat) : Int))) := ((F1.up (fun a j q => Or.inr q)).tr (F2.up (fun a j q => Or.inr ⟨q.1, by omega⟩))).tr (f3.up (fun a j q => Or.inl q))
  obtain ⟨M4, F4, c1, c3⟩ := sp_w (G := G) (d := d) (ws := ws) (x1 := zI (1408 + (f : Int))) (x2 := zI (1408 + (t : Int))) (x4 := zI (lsV ls)) (x6 := zI (1408 + (Y.length : Int))) (g := (X.length : Int) - ((t : Int) - (f : Int))) hw4 ws [] (sl Y 0 f ++ X ++ sl Y t Y.length) _ rfl (f3.WM W2) m3 (by rw [el]; omega) (fun i hi => by rw [F03.2.2 _ _ (fun q => by unfold pSp at q; omega)]; exact hA i hi) (fun p hp' => by rw [el]; have := hp p (List.mem_append_left _ hp'); omega)
  have W4 := F4.WM (f3.WM W2)
  have F04 : Fp pSp M M4 := F03.tr (F4.up (fun a j q => Or.inr q))
  have n4 : M4.2.1 91 23 = zI ((f + X.length + (Y.length - t) : Nat) : Int) := by rw [F4.2.2 _ _ (fun q => by omega), setI_self]
  have go : ∀ M5, EvC G d m_M_splice 144 [some (.ref 91), some (.int (zI (1408 + (f : Int)))), some (.int (zI (1408 + (t : Int)))), some (.int (zI (ws.length : Int))), some (.int (zI (lsV ls))), some (.int (zI ((X.length : Int) - ((t : Int) - (f : Int))))), some (.int (zI (1408 + (Y.length : Int)))), some (.int (zI (ws.length : Int)))] [] M4 (none, M5) → Ev G d 143 [.ref 91, .int (zI (1408 + (f : Int))), .int (zI (1408 + (t : Int))), .int (zI (ws.length : Int)), .int (zI (lsV ls))] M (none, M5) := fun M5 h5 => a3 _ (b3 _ (c3 _ h5))
  have ed := upT_ed (B := Y) (X := X) (f := f) (t := t) (ps := ws ++ ls.toList) (g := (X.length : Int) - ((t : Int) - (f : Int))) hn hp hft ht rfl
  cases ls with
  | none =>
    rw [show (none : Option Nat).toList = [] from rfl, List.append_nil] at ed ⊢
    rw [ed] at c1
    refine ⟨M4, go M4 (ev_M_splice_144 ?_), ⟨by rw [n4, edB_len], c1⟩, F04⟩
    rw [if_neg (fun q => by rw [zI_lt ⟨by omega, by omega⟩ ⟨by omega, by omega⟩] at q; omega), zI_0, if_pos (show zI (lsV none) < zI 0 from (zI_lt (a := -1) ⟨by omega, by omega⟩ ⟨by omega, by omega⟩).mpr (by omega))]
  | some v =>
    have hv := hp v (by simp)
    rw [show (some v : Option Nat).toList = [v] from rfl] at ed ⊢
    have eu : upT (sl Y 0 f ++ X ++ sl Y t Y.length) (ws ++ [v]) ((X.length : Int) - ((t : Int) - (f : Int))) = (upT (sl Y 0 f ++ X ++ sl Y t Y.length) ws ((X.length : Int) - ((t : Int) - (f : Int)))).set v (by_ (upT (sl Y 0 f ++ X ++ sl Y t Y.length) ws ((X.length : Int) - ((t : Int) - (f : Int)))) v + ((X.length : Int) - ((t : Int) - (f : Int)))) := by
      unfold upT
      rw [List.foldl_append]
      rfl
    rw [← ed, eu]
    have ul := upT_len (g := (X.length : Int) - ((t : Int) - (f : Int))) ws (sl Y 0 f ++ X ++ sl Y t Y.length)
    rw [el] at ul
    refine ⟨am_setI M4 92 (1408 + v) (zI (by_ (upT (sl Y 0 f ++ X ++ sl Y t Y.length) ws ((X.length : Int) - ((t : Int) - (f : Int)))) v + ((X.length : Int) - ((t : Int) - (f : Int))))), go _ (ev_M_splice_144 ?_), ⟨by rw [List.length_set, ul, setI_cell (by decide)]; exact n4, fun i hi => ?_⟩, F04.tr (Fp.set (Or.inr ⟨rfl, by omega⟩))⟩
    · have e3 : (zI (lsV (some v))).toNatClampNeg = 1408 + v := by
        show (zI (1408 + ((v : Nat) : Int))).toNatClampNeg = _
        rw [zI_clamp ⟨by omega, by omega⟩]; omega
      have ok : am_okA M4 (91 + 1) 0 (zI (lsV (some v))) = true := okA_W W4 (show sg0[91 + 1]? = some (.inr (0, 1728)) from rfl) (zI_in (show (0 : Int) ≤ 1408 + ((v : Nat) : Int) by omega) (show (1408 : Int) + ((v : Nat) : Int) < _ by omega) (show (1408 : Int) + ((v : Nat) : Int) < _ by omega))
      rw [if_neg (fun q => by rw [zI_lt ⟨by omega, by omega⟩ ⟨by omega, by omega⟩] at q; omega), zI_0, if_neg (show ¬ zI (lsV (some v)) < zI 0 from fun q => by have := (zI_lt (a := 1408 + ((v : Nat) : Int)) ⟨by omega, by omega⟩ ⟨by omega, by omega⟩).mp q; omega), e3, show M4.2.1 (91 + 1) (1408 + v) = _ from c1 v (by rw [ul]; omega), zI_add]
      exact ⟨okF_W W4 rfl, okF_W W4 rfl, ok, ok, rfl⟩
    · rw [List.length_set, ul] at hi
      rw [by_set (by rw [ul]; omega)]
      by_cases e : i = v
      · rw [if_pos e, e, setI_self]
      · rw [if_neg e, setI_idx (by omega)]
        exact c1 i (by rw [ul]; exact hi)
end MSPL
