/-! THE STORE of the class: placeOf, keep, drop -/
def plG (D : List Dc) (n : Int) : Nat → Nat → Int
  | 0, _ => -1
  | m + 1, k => if dN D k = n then (k : Int) else plG D n m (k + 1)
def plc (D : List Dc) (n : Int) : Int := plG D n D.length 0
theorem plG_spec {D : List Dc} {n : Int} : ∀ (m k : Nat), (plG D n m k = -1 ∧ ∀ i, k ≤ i → i < k + m → ¬ dN D i = n) ∨ ∃ i, k ≤ i ∧ i < k + m ∧ dN D i = n ∧ plG D n m k = (i : Int) ∧ ∀ j, k ≤ j → j < i → ¬ dN D j = n
  | 0, k => Or.inl ⟨rfl, fun i h1 h2 => by omega⟩
  | m + 1, k => by
    unfold plG
    by_cases c : dN D k = n
    · exact Or.inr ⟨k, Nat.le_refl _, by omega, c, by rw [if_pos c], fun j h1 h2 => by omega⟩
    · rw [if_neg c]
      rcases plG_spec m (k + 1) with ⟨h1, h2⟩ | ⟨i, h1, h2, h3, h4, h5⟩
      · refine Or.inl ⟨h1, fun i q1 q2 => ?_⟩
        rcases Nat.lt_or_ge k i with q | q
        · exact h2 i (by omega) (by omega)
        · have : i = k := by omega
          rw [this]; exact c
      · refine Or.inr ⟨i, by omega, by omega, h3, h4, fun j q1 q2 => ?_⟩
        rcases Nat.lt_or_ge k j with q | q
        · exact h5 j (by omega) q2
        · have : j = k := by omega
          rw [this]; exact c
theorem plc_spec {D : List Dc} {n : Int} : (plc D n = -1 ∧ ∀ i, i < D.length → ¬ dN D i = n) ∨ ∃ i, i < D.length ∧ dN D i = n ∧ plc D n = (i : Int) ∧ ∀ j, j < i → ¬ dN D j = n := by
  rcases plG_spec (D := D) (n := n) D.length 0 with ⟨h1, h2⟩ | ⟨i, h1, h2, h3, h4, h5⟩
  · exact Or.inl ⟨h1, fun i hi => h2 i (Nat.zero_le _) (by omega)⟩
  · exact Or.inr ⟨i, by omega, h3, h4, fun j hj => h5 j (Nat.zero_le _) hj⟩
def insG (D : List Dc) (n : Int) : Nat → Nat
  | 0 => 0
  | k + 1 => if n < dN D k then insG D n k else k + 1
def insP (D : List Dc) (n : Int) : Nat := insG D n D.length
theorem insG_le {D : List Dc} {n : Int} : ∀ k, insG D n k ≤ k
  | 0 => Nat.le_refl _
  | k + 1 => by
    unfold insG
    have := insG_le (D := D) (n := n) k
    split <;> omega
def insD (D : List Dc) (p : Nat) (x : Dc) : List Dc := D.take p ++ x :: D.drop p
theorem insD_len {D : List Dc} {p : Nat} {x : Dc} (hp : p ≤ D.length) : (insD D p x).length = D.length + 1 := by
  unfold insD
  rw [List.length_append, List.length_cons, List.length_take, List.length_drop]
  omega
theorem insD_get {D : List Dc} {p k : Nat} {x z : Dc} (hp : p ≤ D.length) : (insD D p x).getD k z = if k < p then D.getD k z else if k = p then x else D.getD (k - 1) z := by
  have hl : (D.take p).length = p := by rw [List.length_take]; omega
  unfold insD
  rw [List.getD_eq_getElem?_getD]
  by_cases c : k < p
  · rw [if_pos c, List.getElem?_append_left (by omega), List.getElem?_take_of_lt c, List.getD_eq_getElem?_getD]
  · rw [if_neg c, List.getElem?_append_right (by omega), hl]
    by_cases c2 : k = p
    · rw [if_pos c2, c2, Nat.sub_self]
      rfl
    · rw [if_neg c2, show k - p = (k - p - 1) + 1 by omega, List.getElem?_cons_succ, List.getElem?_drop, show p + (k - p - 1) = k - 1 by omega, List.getD_eq_getElem?_getD]
theorem insD_N {D : List Dc} {p k : Nat} {x : Dc} (hp : p ≤ D.length) : dN (insD D p x) k = if k < p then dN D k else if k = p then x.1 else dN D (k - 1) := by
  unfold dN
  rw [insD_get hp]
  split
  · rfl
  · split <;> rfl
theorem insD_B {D : List Dc} {p k : Nat} {x : Dc} (hp : p ≤ D.length) : dB (insD D p x) k = if k < p then dB D k else if k = p then x.2 else dB D (k - 1) := by
  unfold dB
  rw [insD_get hp]
  split
  · rfl
  · split <;> rfl
theorem era_get {D : List Dc} {p k : Nat} {z : Dc} : (D.eraseIdx p).getD k z = if k < p then D.getD k z else D.getD (k + 1) z := by
  rw [List.getD_eq_getElem?_getD, List.getElem?_eraseIdx]
  split <;> rw [List.getD_eq_getElem?_getD]
theorem era_N {D : List Dc} {p k : Nat} : dN (D.eraseIdx p) k = if k < p then dN D k else dN D (k + 1) := by
  unfold dN
  rw [era_get]
  split <;> rfl
theorem era_B {D : List Dc} {p k : Nat} : dB (D.eraseIdx p) k = if k < p then dB D k else dB D (k + 1) := by
  unfold dB
  rw [era_get]
  split <;> rfl
theorem row_clr {M : Mm_} {r cap : Nat} (h1 : sg0[r]? = some (.inl 4)) (h2 : sg0[r + 1]? = some (.inr (0, cap))) : rowIs (am_setI M r 1 (zI 0)) r cap [] := ⟨h1, h2, Nat.zero_le _, setI_self, fun i hi => (by cases hi), fun i hi => (by cases hi)⟩
section STO
variable {G : Nat × (Nat → Int32)} {d : Nat} {D : List Dc}
theorem e_R_becomeS {M : Mm_} {r cap r2 cap2 : Nat} {C : List Int} (hr : r2 ≠ r) (hr1 : r2 ≠ r + 1) (hr2 : r2 + 1 ≠ r) (hW : WM M) (s1 : sg0[r]? = some (.inl 4)) (s2 : sg0[r + 1]? = some (.inr (0, cap))) (h' : rowIs M r2 cap2 C) (hl : C.length ≤ cap) :
    ∃ M', Ev G (d + 2) 35 [.ref r, .ref r2] M (none, M') ∧ rowIs M' r cap C ∧ Fr [r, r + 1] M M' := by
  have f0 : Fr [r, r + 1] M (am_setI M r 1 (zI 0)) := Fr.set (by simp)
  have h0 := row_clr (M := M) s1 s2
  have h0' : rowIs (am_setI M r 1 (zI 0)) r2 cap2 C := h'.kept f0 (by simp [hr, hr1]) (by simp [hr2]; omega)
  obtain ⟨M', e, q, f⟩ := e_R_addPart (G := G) (d := d) (i := 0) (j := C.length) hr hr1 hr2 (Nat.zero_le _) (WM_setI hW) h0 h0' (Nat.le_refl _) (by simp; omega)
  refine ⟨M', ev_of (q := mt_R_become) rfl (ev_R_become_0 ⟨okP_W hW s1 rfl, okF_W (WM_setI hW) h'.1, okO_W (WM_setI hW) s1, M', ?_, ev_R_become_15 rfl⟩), by rw [sl_all] at q; exact q, f0.tr f⟩
  rw [h0'.2.2.2.1]
  exact e
theorem pl_l {M : Mm_} {n : Int} (hW : WM M) (h : cSto M D) (hD : okD D) (hn : rg n) : ∀ (m k : Nat), k + m = D.length → EvC G d m_S_placeOf 2 [some (.ref 5), some (.int (zI n)), some (.int (zI (k : Int)))] [] M (some (.int (zI (plG D n m k))), M)
  | 0, k, hk => by
    have hl := h.1
    refine ev_S_placeOf_2 ?_
    rw [h.2.1, if_neg (fun q => by rw [zI_lt ⟨by omega, by omega⟩ ⟨by omega, by omega⟩] at q; omega)]
    exact ⟨okF_W hW rfl, rfl⟩
  | m + 1, k, hk => by
    have hl := h.1
    obtain ⟨h1, h2, R, h3, h4⟩ := h
    have w := (h4 k (by omega)).2
    have r := (hD.1 k (by omega)).2.2.2
    refine ev_S_placeOf_2 ?_
    rw [h2, if_pos ((zI_lt ⟨by omega, by omega⟩ ⟨by omega, by omega⟩).mpr (by omega)), zI_nat (show k < 2147483648 by omega), show M.2.1 (5 + 2) k = zI (dN D k) from w]
    refine ⟨okF_W hW rfl, okF_W hW rfl, okA_z hW (show sg0[5 + 2]? = some (.inr (0, 16)) from rfl) (by omega) (by omega), ?_⟩
    unfold plG
    by_cases c : dN D k = n
    · rw [if_pos (by rw [c]), if_pos c]
    · rw [if_neg (zI_ne ⟨by omega, by omega⟩ hn c), if_neg c, zI_add, show (k : Int) + 1 = ((k + 1 : Nat) : Int) by omega]
      exact pl_l hW ⟨h1, h2, R, h3, h4⟩ hD hn m (k + 1) (by omega)
theorem e_S_placeOf {M : Mm_} {n : Int} (hW : WM M) (h : cSto M D) (hD : okD D) (hn : rg n) : Ev G d 33 [.ref 5, .int (zI n)] M (some (.int (zI (plc D n))), M) := ev_of (q := mt_S_placeOf) rfl (ev_S_placeOf_0 (pl_l hW h hD hn D.length 0 (Nat.zero_add _)))
/-- within keep: the place q is free -/
def kpI (M : Mm_) (D : List Dc) (R : Nat → Nat) (q : Nat) : Prop := WM M ∧ M.2.1 5 2 = zI (D.length : Int) ∧ (∀ k, k < 16 → M.2.2 6 k = some (if q < k ∧ k ≤ D.length then R (k - 1) else R k)) ∧ (∀ k, k < q → M.2.1 7 k = zI (dN D k)) ∧ ∀ k, q < k → k ≤ D.length → M.2.1 7 k = zI (dN D (k - 1))
def p67 (a _j : Nat) : Prop := a = 6 ∨ a = 7
theorem nf6 : ∀ c, sg0[6]? = some (.inl c) → ∀ j, ¬ fkT c j = 1 := fun c h => by have : (some (.inr (6, 16)) : Option Sh_) = some (.inl c) := h; cases this
theorem keep_l {R : Nat → Nat} {n : Int} {r0 : Nat} (hn : rg n) (hD : okD D) (hl : D.length < 16) (hR : ∀ k, k < 16 → isRw (R k)) : ∀ (q : Nat) (M : Mm_), q ≤ D.length → kpI M D R q → ∃ M1, kpI M1 D R (insG D n q) ∧ Fx p67 M M1 ∧
    ∀ r, (am_okO M1 r0 4 = true ∧ (∃ M', Ev G d 35 [.ref r0, .ref 1] M1 (none, M') ∧ EvC G (d + 1) m_S_keep 88 [some (.ref 5), some (.ref 1), some (.int (zI n)), some (.ref r0), some (.int (zI ((insG D n q : Nat) : Int)))] [] M' r)) → EvC G (d + 1) m_S_keep 27 [some (.ref 5), some (.ref 1), some (.int (zI n)), some (.ref r0), some (.int (zI (q : Int)))] [] M r
  | 0, M, hq, h => by
    refine ⟨M, h, Fx.rf h.1, fun r hr => ev_S_keep_27 ?_⟩
    rw [zI_0, if_neg (fun q => by rw [zI_lt ⟨by omega, by omega⟩ ⟨by omega, by omega⟩] at q; omega)]
    exact hr
  | q + 1, M, hq, h => by
    obtain ⟨hW, g1, g2, g3, g4⟩ := h
    have rq := (hD.1 q (by omega)).2.2.2
    have e1 : zI ((q + 1 : Nat) : Int) - zI 1 = zI (q : Int) := by rw [zI_sub, show ((q + 1 : Nat) : Int) - 1 = (q : Int) by omega]
    have g7 : M.2.1 (5 + 2) q = zI (dN D q) := g3 q (by omega)
    have a7 : ∀ {M' : Mm_} {k : Nat}, WM M' → k < 16 → am_okA M' (5 + 2) 0 (zI (k : Int)) = true := fun hW' hk => okA_z hW' (show sg0[5 + 2]? = some (.inr (0, 16)) from rfl) hk (by omega)
    by_cases c : n < dN D q
    · have g6 : M.2.2 (5 + 1) q = some (R q) := by rw [show M.2.2 (5 + 1) q = _ from g2 q (by omega), if_neg (by omega)]
      have WR : WM (am_setR M (5 + 1) (q + 1) (R q)) := WM_setR hW (fun c hc => nf6 c hc _)
      have f1 : Fx p67 M (am_setI (am_setR M (5 + 1) (q + 1) (R q)) (5 + 2) (q + 1) (zI (dN D q))) := (Fx.setR hW (fun c hc => nf6 c hc _) (Or.inl rfl)).tr (Fx.setI WR (Or.inr rfl))
      have h1 : kpI (am_setI (am_setR M (5 + 1) (q + 1) (R q)) (5 + 2) (q + 1) (zI (dN D q))) D R q := by
        refine ⟨f1.1, ?_, fun k hk => ?_, fun k hk => ?_, fun k h1 h2 => ?_⟩
        · rw [setI_cell (by decide)]; exact g1
        · show (am_setR M 6 (q + 1) (R q)).2.2 6 k = _
          by_cases e : k = q + 1
          · rw [e, setR_at, if_pos (by omega), Nat.add_sub_cancel]
          · rw [setR_idx e, g2 k hk]
            by_cases c1 : q + 1 < k ∧ k ≤ D.length
            · rw [if_pos c1, if_pos (by omega)]
            · rw [if_neg c1, if_neg (by omega)]
        · show (am_setI (am_setR M (5 + 1) (q + 1) (R q)) 7 (q + 1) (zI (dN D q))).2.1 7 k = _
          rw [setI_idx (by omega)]
          exact g3 k (by omega)
        · show (am_setI (am_setR M (5 + 1) (q + 1) (R q)) 7 (q + 1) (zI (dN D q))).2.1 7 k = _
          by_cases e : k = q + 1
          · rw [e, setI_self, Nat.add_sub_cancel]
          · rw [setI_idx e]
            exact g4 k (by omega) h2
      obtain ⟨M1, k1, k2, k3⟩ := keep_l (r0 := r0) hn hD hl hR q _ (by omega) h1
      have ei : insG D n (q + 1) = insG D n q := by rw [insG, if_pos c]
      rw [ei]
      refine ⟨M1, k1, f1.tr k2, fun r hr => ev_S_keep_27 ?_⟩
      rw [zI_0, if_pos ((zI_lt ⟨by omega, by omega⟩ ⟨by omega, by omega⟩).mpr (by omega)), e1, zI_nat (show q < 2147483648 by omega), zI_nat (show q + 1 < 2147483648 by omega), g7, g6, if_pos ((zI_lt hn ⟨by omega, by omega⟩).mpr c), Option.getD_some]
      refine ⟨okF_W hW rfl, a7 hW (by omega), okF_W hW rfl, okF_W hW rfl, okQ_6 hW (by omega), rfl, okS_6 hW (by omega) (hR q (by omega)), okF_W WR rfl, okF_W WR rfl, a7 WR (by omega), a7 WR (by omega), ev_S_keep_77 ?_⟩
      rw [show (am_setR M (5 + 1) (q + 1) (R q)).2.1 (5 + 2) q = zI (dN D q) from g7, zI_add, show ((q + 1 : Nat) : Int) + -1 = (q : Int) by omega]
      exact k3 r hr
    · have ei : insG D n (q + 1) = q + 1 := by rw [insG, if_neg c]
      rw [ei]
      refine ⟨M, ⟨hW, g1, g2, g3, g4⟩, Fx.rf hW, fun r hr => ev_S_keep_27 ?_⟩
      rw [zI_0, if_pos ((zI_lt ⟨by omega, by omega⟩ ⟨by omega, by omega⟩).mpr (by omega)), e1, zI_nat (show q < 2147483648 by omega), g7, if_neg (fun w => c ((zI_lt hn ⟨by omega, by omega⟩).mp w))]
      exact ⟨okF_W hW rfl, a7 hW (by omega), hr⟩
def insR (R : Nat → Nat) (p t k : Nat) : Nat := if k < p then R k else if k = p then R t else if k ≤ t then R (k - 1) else R k
def p5_39 (a _j : Nat) : Prop := 5 ≤ a ∧ a ≤ 39
theorem e_S_keep {M : Mm_} {n : Int} {B : List Int} (hW : WM M) (h : cSto M D) (hD : okD D) (hn : 0 ≤ n ∧ n ≤ 999) (hB : rowIs M 1 80 B) (hBl : B.length ≤ 60) : ∃ M', Ev G (d + 3) 34 [.ref 5, .ref 1, .int (zI n)] M (some (.int (zI (if D.length < 16 then 1 else 0))), M') ∧ cSto M' (if D.length < 16 then insD D (insP D n) (n, B) else D) ∧ Fx p5_39 M M' := by
  have h0 := h
  obtain ⟨h1, h2, R, ⟨h3, h4⟩, h5⟩ := h
  by_cases c : D.length < 16
  · rw [if_pos c, if_pos c]
    have hr0 := h3 D.length (by omega)
    have rt := hr0.2
    unfold isRw at rt
    obtain ⟨M1, k1, k2, k3⟩ := keep_l (G := G) (d := d + 2) (r0 := R D.length) (n := n) ⟨by omega, by omega⟩ hD c (fun k hk => (h3 k hk).2) D.length M (Nat.le_refl _) ⟨hW, h2, fun k hk => by rw [if_neg (by omega)]; exact (h3 k hk).1, fun k hk => (h5 k hk).2, fun k q1 q2 => by omega⟩
    have hp : insP D n ≤ D.length := insG_le _
    have k2' := k2
    have B1 : rowIs M1 1 80 B := hB.kx k2 (fun j q => by unfold p67 at q; omega) (fun j q => by unfold p67 at q; omega)
    obtain ⟨M2, b1, b2, b3⟩ := e_R_becomeS (G := G) (d := d) (r := R D.length) (cap := 60) (by omega) (by omega) (by omega) k1.1 (rw_sg hr0.2).1 (rw_sg hr0.2).2 B1 hBl
    have W2 := b3.WM k1.1
    have x3 := b3.x k1.1
    obtain ⟨-, g1, g2, g3, g4⟩ := k1
    have un : ∀ a j, ¬ (a = R D.length ∨ a = R D.length + 1) → M2.2.1 a j = M1.2.1 a j := fun a j hn => x3.2.2 a j (fun q => hn (mem2 q))
    have ur : ∀ a j, ¬ (a = R D.length ∨ a = R D.length + 1) → M2.2.2 a j = M1.2.2 a j := fun a j hn => x3.2.1 a j (fun q => hn (mem2 q))
    have WR : WM (am_setR M2 (5 + 1) (insP D n) (R D.length)) := WM_setR W2 (fun c hc => nf6 c hc _)
    have g1' : M2.2.1 5 2 = zI (D.length : Int) := by rw [un _ _ (by omega)]; exact g1
    refine ⟨am_setI (am_setI (am_setR M2 (5 + 1) (insP D n) (R D.length)) (5 + 2) (insP D n) (zI n)) 5 2 (zI ((D.length + 1 : Nat) : Int)), ev_of (q := mt_S_keep) rfl (ev_S_keep_0 ?_), ?_, ?_⟩
    · rw [h2, if_pos ((zI_lt ⟨by omega, by omega⟩ ⟨by omega, by omega⟩).mpr (by omega)), zI_nat (show D.length < 2147483648 by omega), show M.2.2 (5 + 1) D.length = some (R D.length) from hr0.1, Option.getD_some]
      refine ⟨okF_W hW rfl, okF_W hW rfl, okF_W hW rfl, okQ_6 hW c, rfl, okF_W hW rfl, k3 _ ⟨okO_W k2.1 (rw_sg hr0.2).1, _, b1, ev_S_keep_88 ?_⟩⟩
      rw [show insG D n D.length = insP D n from rfl, zI_nat (show insP D n < 2147483648 by omega)]
      refine ⟨okF_W W2 rfl, okS_6 W2 (by omega) hr0.2, okF_W WR rfl, okA_z WR (show sg0[5 + 2]? = some (.inr (0, 16)) from rfl) (by omega) (by omega), okF_W (WM_setI WR) rfl, okP_W (WM_setI WR) rfl rfl, ?_⟩
      rw [setI_cell (show (5 : Nat) ≠ 5 + 2 by decide), show (am_setR M2 (5 + 1) (insP D n) (R D.length)).2.1 5 2 = zI (D.length : Int) from g1', zI_add]
      rfl
    · refine ⟨by rw [insD_len hp]; omega, by rw [setI_self, insD_len hp], insR R (insP D n) D.length, ⟨fun k hk => ?_, fun i j hi hj e => ?_⟩, fun k hk => ?_⟩
      · show (am_setR M2 6 (insP D n) (R D.length)).2.2 6 k = _ ∧ _
        unfold insR
        by_cases e : k = insP D n
        · rw [if_neg (by omega), if_pos e, e]
          exact ⟨setR_at, hr0.2⟩
        · rw [setR_idx e, ur _ _ (by omega), g2 k hk, show insG D n D.length = insP D n from rfl]
          by_cases c1 : k < insP D n
          · rw [if_neg (by omega), if_pos c1]
            exact ⟨rfl, (h3 k hk).2⟩
          · rw [if_neg c1, if_neg e]
            by_cases c2 : k ≤ D.length
            · rw [if_pos (by omega), if_pos c2]
              exact ⟨rfl, (h3 _ (by omega)).2⟩
            · rw [if_neg (by omega), if_neg c2]
              exact ⟨rfl, (h3 k hk).2⟩
      · unfold insR at e
        have key : ∀ k, k < 16 → ∃ s, s < 16 ∧ (if k < insP D n then R k else if k = insP D n then R D.length else if k ≤ D.length then R (k - 1) else R k) = R s ∧ ((k < insP D n ∧ s = k) ∨ (k = insP D n ∧ s = D.length) ∨ (insP D n < k ∧ k ≤ D.length ∧ s = k - 1) ∨ (D.length < k ∧ s = k)) := fun k hk => by
          by_cases c1 : k < insP D n
          · exact ⟨k, hk, by rw [if_pos c1], by omega⟩
          · by_cases c2 : k = insP D n
            · exact ⟨D.length, c, by rw [if_neg c1, if_pos c2], by omega⟩
            · by_cases c3 : k ≤ D.length
              · exact ⟨k - 1, by omega, by rw [if_neg c1, if_neg c2, if_pos c3], by omega⟩
              · exact ⟨k, hk, by rw [if_neg c1, if_neg c2, if_neg c3], by omega⟩
        obtain ⟨s, s1, s2, s3⟩ := key i hi
        obtain ⟨t, t1, t2, t3⟩ := key j hj
        have := h4 s t s1 t1 (s2.symm.trans (e.trans t2))
        omega
      · rw [insD_len hp] at hk
        rw [insD_N hp, insD_B hp]
        unfold insR
        have fin : ∀ (s : Nat) (C : List Int), rowIs M2 s 60 C → isRw s → rowIs (am_setI (am_setI (am_setR M2 (5 + 1) (insP D n) (R D.length)) (5 + 2) (insP D n) (zI n)) 5 2 (zI ((D.length + 1 : Nat) : Int))) s 60 C := fun s C w ws => by
          obtain ⟨a1, a2, a3, a4, a5, a6⟩ := w
          unfold isRw at ws
          refine ⟨a1, a2, a3, ?_, fun i hi => ?_, a6⟩
          · rw [setI_cell (by omega), setI_cell (by omega)]; exact a4
          · rw [setI_cell (by omega), setI_cell (by omega)]; exact a5 i hi
        have old : ∀ s, s < D.length → rowIs M2 (R s) 60 (dB D s) := fun s hs => by
          have w := (h5 s hs).1
          have hs' := (h3 s (by omega)).2
          unfold isRw at hs'
          have ne : R s ≠ R D.length := fun e => by have := h4 s D.length (by omega) c e; omega
          have w1 : rowIs M1 (R s) 60 (dB D s) := w.kx k2 (fun j q => by unfold p67 at q; omega) (fun j q => by unfold p67 at q; omega)
          exact w1.kx x3 (fun j q => by have := mem2 q; omega) (fun j q => by have := mem2 q; omega)
        have n7 : ∀ k', ¬ k' = insP D n → (am_setI (am_setI (am_setR M2 (5 + 1) (insP D n) (R D.length)) (5 + 2) (insP D n) (zI n)) 5 2 (zI ((D.length + 1 : Nat) : Int))).2.1 7 k' = M1.2.1 7 k' := fun k' hk' => by
          rw [setI_cell (by decide)]
          show (am_setI (am_setR M2 (5 + 1) (insP D n) (R D.length)) 7 (insP D n) (zI n)).2.1 7 k' = _
          rw [setI_idx hk']
          exact un _ _ (by omega)
        by_cases c1 : k < insP D n
        · rw [if_pos c1, if_pos c1, if_pos c1]
          exact ⟨fin _ _ (old k (by omega)) (h3 k (by omega)).2, by rw [n7 k (by omega)]; exact g3 k c1⟩
        · rw [if_neg c1, if_neg c1, if_neg c1]
          by_cases c2 : k = insP D n
          · rw [if_pos c2, if_pos c2, if_pos c2]
            refine ⟨fin _ _ b2 hr0.2, ?_⟩
            rw [setI_cell (by decide), c2]
            exact setI_self
          · rw [if_neg c2, if_neg c2, if_neg c2, if_pos (by omega)]
            exact ⟨fin _ _ (old (k - 1) (by omega)) (h3 _ (by omega)).2, by rw [n7 k c2]; exact g4 k (show insG D n D.length < k by have : insG D n D.length = insP D n := rfl; omega) (by omega)⟩
    · refine ((k2.up (fun a j q => by unfold p67 at q; unfold p5_39; omega)).tr (x3.up (fun a j q => by have := mem2 q; unfold p5_39; omega))).tr ?_
      exact ((Fx.setR W2 (fun c hc => nf6 c hc _) (show p5_39 (5 + 1) _ from ⟨by omega, by omega⟩)).tr (Fx.setI WR (show p5_39 (5 + 2) _ from ⟨by omega, by omega⟩))).tr (Fx.setI (WM_setI WR) (show p5_39 5 2 from ⟨by omega, by omega⟩))
  · rw [if_neg c, if_neg c]
    refine ⟨M, ev_of (q := mt_S_keep) rfl (ev_S_keep_0 ?_), h0, Fx.rf hW⟩
    rw [h2, if_neg (fun q => c (by rw [zI_lt ⟨by omega, by omega⟩ ⟨by omega, by omega⟩] at q; omega))]
    exact ⟨okF_W hW rfl, rfl⟩
end STO
