/-! THE STORE of the reference: holder, move, insert, fetch, remove, count -/
def hlG (D : List Dc) (n : Int) : Nat → Nat → Int → Int
  | 0, _, b => b
  | m + 1, k, b => hlG D n m (k + 1) (if dN D k = n then (k : Int) else b)
theorem hlG_spec {D : List Dc} {n : Int} : ∀ (m k : Nat) (b : Int), (hlG D n m k b = b ∧ ∀ i, k ≤ i → i < k + m → ¬ dN D i = n) ∨ ∃ i, k ≤ i ∧ i < k + m ∧ dN D i = n ∧ hlG D n m k b = (i : Int)
  | 0, k, b => Or.inl ⟨rfl, fun i h1 h2 => by omega⟩
  | m + 1, k, b => by
    unfold hlG
    rcases hlG_spec m (k + 1) (if dN D k = n then (k : Int) else b) with ⟨h1, h2⟩ | ⟨i, h1, h2, h3, h4⟩
    · by_cases c : dN D k = n
      · exact Or.inr ⟨k, Nat.le_refl _, by omega, c, by rw [h1, if_pos c]⟩
      · refine Or.inl ⟨by rw [h1, if_neg c], fun i q1 q2 => ?_⟩
        rcases Nat.lt_or_ge k i with q | q
        · exact h2 i (by omega) (by omega)
        · have : i = k := by omega
          rw [this]; exact c
    · exact Or.inr ⟨i, by omega, by omega, h3, h4⟩
theorem hl_plc {D : List Dc} {n : Int} (h : okD D) : hlG D n D.length 0 (-1) = plc D n := by
  rcases plc_spec (D := D) (n := n) with ⟨p1, p2⟩ | ⟨i, p1, p2, p3, p4⟩
  · rcases hlG_spec (D := D) (n := n) D.length 0 (-1) with ⟨h1, h2⟩ | ⟨j, h1, h2, h3, h4⟩
    · rw [h1, p1]
    · exact absurd h3 (p2 j (by omega))
  · rcases hlG_spec (D := D) (n := n) D.length 0 (-1) with ⟨h1, h2⟩ | ⟨j, h1, h2, h3, h4⟩
    · exact absurd p2 (h2 i (Nat.zero_le _) (by omega))
    · have : i = j := by
        rcases Nat.lt_trichotomy i j with c | c | c
        · have := h.2 i j c (by omega); omega
        · exact c
        · have := h.2 j i c (by omega); omega
      rw [h4, p3, this]
def dAt (M : Mm_) (s : Nat) (n : Int) (B : List Int) : Prop := mAt M (64 * s) B ∧ M.2.1 93 s = zI (B.length : Int) ∧ M.2.1 94 s = zI n
def pMv (t a j : Nat) : Prop := (a = 94 ∧ j = t) ∨ (a = 93 ∧ j = t) ∨ (a = 92 ∧ 64 * t ≤ j ∧ j < 64 * t + 64)
theorem dAt.kp {P : Nat → Nat → Prop} {M M' : Mm_} {s : Nat} {n : Int} {B : List Int} (h : dAt M s n B) (hB : B.length ≤ 60) (f : Fp P M M') (hp : ∀ a j, P a j → ¬ pMv s a j) : dAt M' s n B := by
  obtain ⟨h1, h2, h3⟩ := h
  unfold pMv at hp
  exact ⟨fun i hi => by rw [f.2.2 _ _ (fun q => hp _ _ q (by omega))]; exact h1 i hi, by rw [f.2.2 _ _ (fun q => hp _ _ q (by omega))]; exact h2, by rw [f.2.2 _ _ (fun q => hp _ _ q (by omega))]; exact h3⟩
section MSTO
variable {G : Nat × (Nat → Int32)} {d : Nat} {D : List Dc}
theorem hl_l {M : Mm_} {n : Int} (hW : WM M) (h : mSto M D) (hD : okD D) (hn : rg n) : ∀ (m k : Nat) (b : Int), k + m = D.length → EvC G d m_M_holder 4 [some (.ref 91), some (.int (zI n)), some (.int (zI b)), some (.int (zI (k : Int)))] [] M (some (.int (zI (hlG D n m k b))), M)
  | 0, k, b, hk => by
    have hl := h.1
    refine ev_M_holder_4 ?_
    rw [h.2.1, if_neg (fun q => by rw [zI_lt ⟨by omega, by omega⟩ ⟨by omega, by omega⟩] at q; omega)]
    exact ⟨okF_W hW rfl, rfl⟩
  | m + 1, k, b, hk => by
    have hl := h.1
    have w := (h.2.2 k (by omega)).2.2
    have r := (hD.1 k (by omega)).2.2.2
    have ek : zI (k : Int) + zI 1 = zI ((k + 1 : Nat) : Int) := by rw [zI_add, show (k : Int) + 1 = ((k + 1 : Nat) : Int) by omega]
    refine ev_M_holder_4 ?_
    rw [h.2.1, if_pos ((zI_lt ⟨by omega, by omega⟩ ⟨by omega, by omega⟩).mpr (by omega)), zI_nat (show k < 2147483648 by omega), show M.2.1 (91 + 3) k = zI (dN D k) from w, ek]
    refine ⟨okF_W hW rfl, okF_W hW rfl, okA_z hW (show sg0[91 + 3]? = some (.inr (0, 16)) from rfl) (by omega) (by omega), ?_⟩
    unfold hlG
    by_cases c : dN D k = n
    · rw [if_pos (show zI (dN D k) = zI n by rw [c]), if_pos c]
      exact hl_l hW h hD hn m (k + 1) (k : Int) (by omega)
    · rw [if_neg (zI_ne ⟨by omega, by omega⟩ hn c), if_neg c]
      exact hl_l hW h hD hn m (k + 1) b (by omega)
theorem e_M_holder {M : Mm_} {n : Int} (hW : WM M) (h : mSto M D) (hD : okD D) (hn : rg n) : Ev G d 106 [.ref 91, .int (zI n)] M (some (.int (zI (plc D n))), M) := by
  rw [← hl_plc hD]
  exact ev_of (q := mt_M_holder) rfl (ev_M_holder_0 (hl_l hW h hD hn D.length 0 (-1) (Nat.zero_add _)))
theorem cl2 {a b : Nat} (h : a + b < 100000) : (zI ((a : Int) + (b : Int))).toNatClampNeg = a + b := by rw [zI_clamp ⟨by omega, by omega⟩]; omega
theorem move_l {f t : Nat} {c : Nat → Int32} (hf : f < 16) (ht : t < 16) (hft : f ≠ t) : ∀ (m j : Nat) (M : Mm_), j + m = 64 → WM M → (∀ i, i < 64 → M.2.1 92 (64 * f + i) = c i) → (∀ i, i < j → M.2.1 92 (64 * t + i) = c i) → ∃ M', EvC G d m_M_move 26 [some (.ref 91), some (.int (zI (f : Int))), some (.int (zI (t : Int))), some (.int (zI (j : Int)))] [] M (none, M') ∧ (∀ i, i < 64 → M'.2.1 92 (64 * t + i) = c i) ∧ Fp (fun a j => a = 92 ∧ 64 * t ≤ j ∧ j < 64 * t + 64) M M'
  | 0, j, M, hj, hW, h1, h2 => by
    refine ⟨M, ev_M_move_26 ?_, fun i hi => h2 i (by omega), Fp.rf⟩
    rw [if_neg (fun q => by rw [zI_lt ⟨by omega, by omega⟩ ⟨by omega, by omega⟩] at q; omega)]
  | m + 1, j, M, hj, hW, h1, h2 => by
    have ej : zI (j : Int) + zI 1 = zI ((j + 1 : Nat) : Int) := by rw [zI_add, show (j : Int) + 1 = ((j + 1 : Nat) : Int) by omega]
    have ef : zI 64 * zI (f : Int) + zI (j : Int) = zI (((64 * f : Nat) : Int) + (j : Int)) := by rw [zI_mul, zI_add, show (64 : Int) * (f : Int) = ((64 * f : Nat) : Int) by omega]
    have et : zI 64 * zI (t : Int) + zI (j : Int) = zI (((64 * t : Nat) : Int) + (j : Int)) := by rw [zI_mul, zI_add, show (64 : Int) * (t : Int) = ((64 * t : Nat) : Int) by omega]
    have fp : Fp (fun a j => a = 92 ∧ 64 * t ≤ j ∧ j < 64 * t + 64) M (am_setI M 92 (64 * t + j) (c j)) := Fp.set ⟨rfl, by omega, by omega⟩
    obtain ⟨M', e, g1, g2⟩ := move_l (c := c) hf ht hft m (j + 1) (am_setI M 92 (64 * t + j) (c j)) (by omega) (WM_setI hW) (fun i hi => by rw [setI_idx (by omega)]; exact h1 i hi) (fun i hi => by
      by_cases e : i = j
      · rw [e, setI_self]
      · rw [setI_idx (by omega)]; exact h2 i (by omega))
    refine ⟨M', ev_M_move_26 ?_, g1, fp.tr g2⟩
    rw [if_pos ((zI_lt ⟨by omega, by omega⟩ ⟨by omega, by omega⟩).mpr (by omega)), ej, ef, et, cl2 (by omega), cl2 (by omega), show M.2.1 (91 + 1) (64 * f + j) = c j from h1 j (by omega)]
    exact ⟨okF_W hW rfl, okF_W hW rfl, okA_W hW (show sg0[91 + 1]? = some (.inr (0, 1728)) from rfl) (zI_in (by omega) (by omega) (by omega)), okA_W hW (show sg0[91 + 1]? = some (.inr (0, 1728)) from rfl) (zI_in (by omega) (by omega) (by omega)), e⟩
theorem e_M_move {M : Mm_} {f t : Nat} {n : Int} {B : List Int} (hf : f < 16) (ht : t < 16) (hft : f ≠ t) (hW : WM M) (hB : B.length ≤ 60) (h : dAt M f n B) : ∃ M', Ev G d 107 [.ref 91, .int (zI (f : Int)), .int (zI (t : Int))] M (none, M') ∧ dAt M' t n B ∧ Fp (pMv t) M M' := by
  obtain ⟨h1, h2, h3⟩ := h
  have f1 : Fp (pMv t) M (am_setI M 94 t (zI n)) := Fp.set (Or.inl ⟨rfl, rfl⟩)
  have f2 : Fp (pMv t) (am_setI M 94 t (zI n)) (am_setI (am_setI M 94 t (zI n)) 93 t (zI (B.length : Int))) := Fp.set (Or.inr (Or.inl ⟨rfl, rfl⟩))
  obtain ⟨M', e, g1, g2⟩ := move_l (G := G) (d := d) (c := fun i => M.2.1 92 (64 * f + i)) hf ht hft 64 0 (am_setI (am_setI M 94 t (zI n)) 93 t (zI (B.length : Int))) rfl (WM_setI (WM_setI hW)) (fun i hi => by rw [setI_cell (by decide), setI_cell (by decide)]) (fun i hi => by omega)
  have g2' : Fp (pMv t) _ _ := g2.up (fun a j q => Or.inr (Or.inr q))
  refine ⟨M', ev_of (q := mt_M_move) rfl (ev_M_move_0 ?_), ⟨fun i hi => ?_, ?_, ?_⟩, (f1.tr f2).tr g2'⟩
  · rw [zI_nat (show f < 2147483648 by omega), zI_nat (show t < 2147483648 by omega), show M.2.1 (91 + 3) f = zI n from h3, show (am_setI M (91 + 3) t (zI n)).2.1 (91 + 2) f = zI (B.length : Int) from (by rw [setI_cell (by decide)]; exact h2)]
    have a3 : ∀ {M' : Mm_} {k : Nat}, WM M' → k < 16 → am_okA M' (91 + 3) 0 (zI (k : Int)) = true := fun hW' hk => okA_z hW' (show sg0[91 + 3]? = some (.inr (0, 16)) from rfl) hk (by omega)
    have a2 : ∀ {M' : Mm_} {k : Nat}, WM M' → k < 16 → am_okA M' (91 + 2) 0 (zI (k : Int)) = true := fun hW' hk => okA_z hW' (show sg0[91 + 2]? = some (.inr (0, 16)) from rfl) hk (by omega)
    exact ⟨okF_W hW rfl, okF_W hW rfl, a3 hW hf, a3 hW ht, okF_W (WM_setI hW) rfl, okF_W (WM_setI hW) rfl, a2 (WM_setI hW) hf, a2 (WM_setI hW) ht, e⟩
  · rw [g1 i (by omega)]; exact h1 i hi
  · rw [g2.2.2 _ _ (fun q => by omega), setI_self]
  · rw [g2.2.2 _ _ (fun q => by omega), setI_cell (by decide), setI_self]
/-- within the reference's insert: the place q is free -/
def miI (M : Mm_) (D : List Dc) (q : Nat) : Prop := WM M ∧ M.2.1 91 2 = zI (D.length : Int) ∧ (∀ k, k < q → dAt M k (dN D k) (dB D k)) ∧ ∀ k, q < k → k ≤ D.length → dAt M k (dN D (k - 1)) (dB D (k - 1))
def pMs (a j : Nat) : Prop := (a = 92 ∧ j < 1024) ∨ a = 93 ∨ a = 94
theorem pMv_s {t a j : Nat} (ht : t < 16) (h : pMv t a j) : pMs a j := by unfold pMv at h; unfold pMs; omega
theorem mins_l {n : Int} {x1 : Int32} {u4 : Option Value} (hn : rg n) (hD : okD D) (hl : D.length < 16) : ∀ (q : Nat) (M : Mm_), q ≤ D.length → miI M D q → ∃ M1, miI M1 D (insG D n q) ∧ Fp pMs M M1 ∧
    ∀ r, EvC G (d + 1) m_M_insert 115 [some (.ref 91), some (.int x1), some (.int (zI n)), some (.int (zI ((insG D n q : Nat) : Int))), u4] [] M1 r → EvC G (d + 1) m_M_insert 84 [some (.ref 91), some (.int x1), some (.int (zI n)), some (.int (zI (q : Int))), u4] [] M r
  | 0, M, hq, h => by
    refine ⟨M, h, Fp.rf, fun r hr => ev_M_insert_84 ?_⟩
    rw [zI_0, if_neg (fun q => by rw [zI_lt ⟨by omega, by omega⟩ ⟨by omega, by omega⟩] at q; omega)]
    exact hr
  | q + 1, M, hq, h => by
    obtain ⟨hW, g1, g2, g3⟩ := h
    have rq := hD.1 q (by omega)
    have rn := rq.2.2.2
    have e1 : zI ((q + 1 : Nat) : Int) - zI 1 = zI (q : Int) := by rw [zI_sub, show ((q + 1 : Nat) : Int) - 1 = (q : Int) by omega]
    have g7 : M.2.1 (91 + 3) q = zI (dN D q) := (g2 q (by omega)).2.2
    have a3 : am_okA M (91 + 3) 0 (zI (q : Int)) = true := okA_z hW (show sg0[91 + 3]? = some (.inr (0, 16)) from rfl) (by omega) (by omega)
    by_cases c : n < dN D q
    · obtain ⟨M1, m1, m2, m3⟩ := e_M_move (G := G) (d := d) (f := q) (t := q + 1) (by omega) (by omega) (by omega) hW rq.2.1 (g2 q (by omega))
      have h1 : miI M1 D q := by
        refine ⟨m3.WM hW, by rw [m3.2.2 _ _ (fun w => by unfold pMv at w; omega)]; exact g1, fun k hk => (g2 k (by omega)).kp (hD.1 k (by omega)).2.1 m3 (fun a j w w' => by unfold pMv at w w'; omega), fun k q1 q2 => ?_⟩
        by_cases e : k = q + 1
        · rw [e, Nat.add_sub_cancel]; exact m2
        · exact (g3 k (by omega) q2).kp (hD.1 (k - 1) (by omega)).2.1 m3 (fun a j w w' => by unfold pMv at w w'; omega)
      obtain ⟨M2, k1, k2, k3⟩ := mins_l (x1 := x1) (u4 := u4) hn hD hl q M1 (by omega) h1
      have ei : insG D n (q + 1) = insG D n q := by rw [insG, if_pos c]
      rw [ei]
      refine ⟨M2, k1, (m3.up (fun a j w => pMv_s (by omega) w)).tr k2, fun r hr => ev_M_insert_84 ?_⟩
      rw [zI_0, if_pos ((zI_lt ⟨by omega, by omega⟩ ⟨by omega, by omega⟩).mpr (by omega)), e1, zI_nat (show q < 2147483648 by omega), g7, if_pos ((zI_lt hn ⟨by omega, by omega⟩).mpr c)]
      refine ⟨okF_W hW rfl, a3, okO_W hW rfl, _, m1, ev_M_insert_108 ?_⟩
      rw [e1]
      exact k3 r hr
    · have ei : insG D n (q + 1) = q + 1 := by rw [insG, if_neg c]
      rw [ei]
      refine ⟨M, ⟨hW, g1, g2, g3⟩, Fp.rf, fun r hr => ev_M_insert_84 ?_⟩
      rw [zI_0, if_pos ((zI_lt ⟨by omega, by omega⟩ ⟨by omega, by omega⟩).mpr (by omega)), e1, zI_nat (show q < 2147483648 by omega), g7, if_neg (fun w => c ((zI_lt hn ⟨by omega, by omega⟩).mp w))]
      exact ⟨okF_W hW rfl, a3, hr⟩
/-- the bytes are copied -/
theorem mcp_l {B : List Int} {x1 x2 : Int32} {p t : Nat} (hp : p < 16) (hB : B.length ≤ 60) : ∀ (m j : Nat) (M : Mm_), j + m = B.length → WM M → mBuf M B → M.2.1 91 2 = zI (t : Int) → (∀ i, i < j → M.2.1 92 (64 * p + i) = zI (by_ B i)) → ∃ M1, mAt M1 (64 * p) B ∧ Fp (fun a j => a = 92 ∧ 64 * p ≤ j ∧ j < 64 * p + 64) M M1 ∧
    EvC G d m_M_insert 135 [some (.ref 91), some (.int x1), some (.int x2), some (.int (zI (p : Int))), some (.int (zI (j : Int)))] [] M (some (.int x2), am_setI (am_setI M1 91 2 (zI ((t + 1 : Nat) : Int))) 91 1 (zI 0))
  | 0, j, M, hj, hW, hb, ht, h => by
    refine ⟨M, fun i hi => h i (by omega), Fp.rf, ev_M_insert_135 ?_⟩
    rw [hb.2.1, if_neg (fun q => by rw [zI_lt ⟨by omega, by omega⟩ ⟨by omega, by omega⟩] at q; omega), ht, zI_add, show (t : Int) + 1 = ((t + 1 : Nat) : Int) by omega]
    exact ⟨okF_W hW rfl, okF_W hW rfl, okP_W hW rfl rfl, okP_W (WM_setI hW) rfl rfl, rfl⟩
  | m + 1, j, M, hj, hW, hb, ht, h => by
    have ej : zI (j : Int) + zI 1 = zI ((j + 1 : Nat) : Int) := by rw [zI_add, show (j : Int) + 1 = ((j + 1 : Nat) : Int) by omega]
    have ep : zI 64 * zI (p : Int) + zI (j : Int) = zI (((64 * p : Nat) : Int) + (j : Int)) := by rw [zI_mul, zI_add, show (64 : Int) * (p : Int) = ((64 * p : Nat) : Int) by omega]
    have eb : zI 1024 + zI (j : Int) = zI (((1024 : Nat) : Int) + (j : Int)) := zI_add _ _
    have fp : Fp (fun a j => a = 92 ∧ 64 * p ≤ j ∧ j < 64 * p + 64) M (am_setI M 92 (64 * p + j) (zI (by_ B j))) := Fp.set ⟨rfl, by omega, by omega⟩
    obtain ⟨M1, g1, g2, g3⟩ := mcp_l (x1 := x1) (x2 := x2) (t := t) hp hB m (j + 1) (am_setI M 92 (64 * p + j) (zI (by_ B j))) (by omega) (WM_setI hW) (hb.kx (fp.x hW) (fun a j q => by omega)) (by rw [setI_cell (by decide)]; exact ht) (fun i hi => by
      by_cases e : i = j
      · rw [e, setI_self]
      · rw [setI_idx (by omega)]; exact h i (by omega))
    refine ⟨M1, g1, fp.tr g2, ev_M_insert_135 ?_⟩
    rw [hb.2.1, if_pos ((zI_lt ⟨by omega, by omega⟩ ⟨by omega, by omega⟩).mpr (by omega)), ej, ep, eb, cl2 (by omega), cl2 (by omega), show M.2.1 (91 + 1) (1024 + j) = zI (by_ B j) from hb.2.2.1 j (by omega)]
    exact ⟨okF_W hW rfl, okF_W hW rfl, okF_W hW rfl, okA_W hW (show sg0[91 + 1]? = some (.inr (0, 1728)) from rfl) (zI_in (by omega) (by omega) (by omega)), okA_W hW (show sg0[91 + 1]? = some (.inr (0, 1728)) from rfl) (zI_in (by omega) (by omega) (by omega)), g3⟩
end MSTO
section MSTO2
variable {G : Nat × (Nat → Int32)} {d : Nat} {S : St_} {M : Mm_}
theorem RepM.sb {P : Nat → Nat → Prop} {M M' : Mm_} {D : List Dc} {B : List Int} (h : RepM M S) (f : Fx P M M') (hp : ∀ a j, P a j → gV a j ∨ (a = 91 ∧ (j = 1 ∨ j = 2)) ∨ (a = 92 ∧ j < 1104) ∨ a = 93 ∨ a = 94) (hD : mSto M' D) (hB : mBuf M' B) : RepM M' ((S.sD (D)).sB (B)) := by
  obtain ⟨h0, h1, h2, h3, h4, h5, h6, h7⟩ := h
  unfold gV at hp
  exact ⟨f.1, hB, h2.kx f (fun q => by have := hp _ _ q; omega) (fun i _ _ q => by have := hp _ _ q; omega), hD, h4.kx f (fun a j q => by have := hp _ _ q; omega), h5.kx f (fun a j q => by have := hp _ _ q; omega), h6.kx f (fun a j q => by have := hp _ _ q; omega), by rw [f.2.2 _ _ (fun q => by have := hp _ _ q; omega)]; exact h7⟩
theorem pRd_gV {a j : Nat} (h : pRd a j) : gV a j := by unfold pRd at h; unfold gV; omega
theorem gV_M {a j : Nat} (h : gV a j) : gM a j := by unfold gV at h; unfold gM; omega
theorem mBuf.in_ {B : List Int} (hW : WM M) (h : mBuf M B) : mIn M 1024 B := ⟨hW, h.2.2.2, h.2.2.1, by have := h.1; omega⟩
theorem e_M_insert (h : RepM M S) (hO : Ok S) (hf : ∀ f, rdD S.buf = .inl f → f < 1000) : ∃ M', Ev G (d + 4) 96 [.ref 91] M (some (.int (zI (sp_insert S).1)), M') ∧ RepM M' (sp_insert S).2 ∧ Fx gM M M' := by
  have hW := h.1
  have hb := h.2.1
  have hbl := hb.1
  obtain ⟨M1, e1, f1⟩ := e_M_read_doc (G := G) (d := d) (hb.in_ hW)
  have f1x := (f1.x hW).up (fun a j q => pRd_gV q)
  have h1 := h.k hO f1x (fun a j q => Or.inl q)
  have F1 : Fx gM M M1 := f1x.up (fun a j q => gV_M q)
  have W1 := h1.1
  have pre : ∀ r, EvC G (d + 4) m_M_insert 16 [some (.ref 91), none, none, none, none] [.int (zI (fo 1024 (rdD S.buf)))] M1 r → Ev G (d + 4) 96 [.ref 91] M r := fun r hr => by
    refine ev_of (q := mt_M_insert) rfl (ev_M_insert_0 ?_)
    rw [hb.2.1, zI_add]
    exact ⟨okF_W hW rfl, okO_W hW rfl, _, _, e1, hr⟩
  unfold sp_insert
  cases hrd : rdD S.buf with
  | inl f =>
    have hf' := hf f hrd
    refine ⟨M1, pre _ (ev_M_insert_16 ?_), h1, F1⟩
    have e0 : fo 1024 (.inl f) = ((1024 : Nat) : Int) + (f : Int) := rfl
    rw [hrd, zI_0, e0, if_neg (fun q => by rw [zI_lt ⟨by omega, by omega⟩ ⟨by omega, by omega⟩] at q; omega), zI_sub, zI_sub, show (-1 : Int) - (((1024 : Nat) : Int) + (f : Int) - 1024) = -1 - (f : Int) by omega]
  | inr N =>
    have hA := rdD_acc hrd
    have hE := rdD_end hrd
    have hL := rdD_len hrd
    have en := e_M_numberAt (G := G) (d := d + 2) (h1.2.1.in_ W1) hA hE hL.1 hL.2
    have dr := dNum_rg (B := S.buf) (N := N)
    have b1 := h1.2.1.2.1
    have pre2 : ∀ r, EvC G (d + 4) m_M_insert 36 [some (.ref 91), some (.int (zI (-1))), none, none, none] [.int (zI (dNum S.buf N))] M1 r → Ev G (d + 4) 96 [.ref 91] M r := fun r hr => by
      refine pre _ (ev_M_insert_16 ?_)
      rw [hrd, show zI (fo 1024 (.inr N)) = zI (-1) from rfl, zI_0, if_pos ((zI_lt ⟨by omega, by omega⟩ ⟨by omega, by omega⟩).mpr (by omega))]
      exact ⟨okO_W W1 rfl, _, _, en, hr⟩
    show ∃ M', Ev G (d + 4) 96 [.ref 91] M (some (.int (zI (if 60 < S.buf.length ∨ dNum S.buf N = -1 then (-1000, S) else if ¬ plc S.docs (dNum S.buf N) = -1 then (-1001, S) else if 16 ≤ S.docs.length then (-1002, S) else (dNum S.buf N, ((S.sD (insD S.docs (insP S.docs (dNum S.buf N)) (dNum S.buf N, S.buf))).sB ([]))) : Int × St_).1)), M') ∧ RepM M' (if 60 < S.buf.length ∨ dNum S.buf N = -1 then (-1000, S) else if ¬ plc S.docs (dNum S.buf N) = -1 then (-1001, S) else if 16 ≤ S.docs.length then (-1002, S) else (dNum S.buf N, ((S.sD (insD S.docs (insP S.docs (dNum S.buf N)) (dNum S.buf N, S.buf))).sB ([]))) : Int × St_).2 ∧ Fx gM M M'
    by_cases c1 : 60 < S.buf.length ∨ dNum S.buf N = -1
    · rw [if_pos c1]
      refine ⟨M1, pre2 _ (ev_M_insert_36 ?_), h1, F1⟩
      rw [b1, zI_0]
      refine ⟨okF_W W1 rfl, ?_⟩
      by_cases c2 : 60 < S.buf.length
      · rw [if_pos ((zI_lt ⟨by omega, by omega⟩ ⟨by omega, by omega⟩).mpr (by omega))]
      · rw [if_neg (fun q => by rw [zI_lt ⟨by omega, by omega⟩ ⟨by omega, by omega⟩] at q; omega), if_pos ((zI_lt ⟨by omega, by omega⟩ ⟨by omega, by omega⟩).mpr (by omega))]
    · rw [if_neg c1]
      have ep := e_M_holder (G := G) (d := d + 3) (n := dNum S.buf N) W1 h1.2.2.2.1 hO.1 ⟨by omega, by omega⟩
      have pre3 : ∀ r, EvC G (d + 4) m_M_insert 59 [some (.ref 91), some (.int (zI (-1))), some (.int (zI (dNum S.buf N))), none, none] [.int (zI (plc S.docs (dNum S.buf N)))] M1 r → Ev G (d + 4) 96 [.ref 91] M r := fun r hr => by
        refine pre2 _ (ev_M_insert_36 ?_)
        rw [b1, zI_0, if_neg (fun q => by rw [zI_lt ⟨by omega, by omega⟩ ⟨by omega, by omega⟩] at q; omega), if_neg (fun q => by rw [zI_lt ⟨by omega, by omega⟩ ⟨by omega, by omega⟩] at q; omega)]
        exact ⟨okF_W W1 rfl, okO_W W1 rfl, _, _, ep, hr⟩
      obtain ⟨d1, d2, d3⟩ := h1.2.2.2.1
      rcases plc_spec (D := S.docs) (n := dNum S.buf N) with ⟨p1, p2⟩ | ⟨i, p1, p2, p3, p4⟩
      · rw [if_neg (fun q => q p1)]
        by_cases c3 : S.docs.length < 16
        · rw [if_neg (show ¬ 16 ≤ S.docs.length by omega)]
          obtain ⟨M2, k1, k2, k3⟩ := mins_l (G := G) (d := d + 3) (n := dNum S.buf N) (x1 := zI (-1)) (u4 := none) ⟨by omega, by omega⟩ hO.1 c3 S.docs.length M1 (Nat.le_refl _) ⟨W1, d2, fun k hk => d3 k hk, fun k q1 q2 => by omega⟩
          have hp : insP S.docs (dNum S.buf N) ≤ S.docs.length := insG_le _
          have hi : insG S.docs (dNum S.buf N) S.docs.length = insP S.docs (dNum S.buf N) := rfl
          rw [hi] at k1 k3
          obtain ⟨W2, g1, g2, g3⟩ := k1
          have f3 : Fp (pMv (insP S.docs (dNum S.buf N))) M2 (am_setI (am_setI M2 94 (insP S.docs (dNum S.buf N)) (zI (dNum S.buf N))) 93 (insP S.docs (dNum S.buf N)) (zI (S.buf.length : Int))) := Fp.tr (Fp.set (Or.inl ⟨rfl, rfl⟩)) (Fp.set (Or.inr (Or.inl ⟨rfl, rfl⟩)))
          have f2x := k2.x W1
          have b2 : mBuf M2 S.buf := h1.2.1.kx f2x (fun a j q => by unfold pMs at q; omega)
          have b3 : mBuf (am_setI (am_setI M2 94 (insP S.docs (dNum S.buf N)) (zI (dNum S.buf N))) 93 (insP S.docs (dNum S.buf N)) (zI (S.buf.length : Int))) S.buf := b2.kx (f3.x W2) (fun a j q => by unfold pMv at q; omega)
          obtain ⟨M3, w1, w2, w3⟩ := mcp_l (G := G) (d := d + 4) (x1 := zI (-1)) (x2 := zI (dNum S.buf N)) (p := insP S.docs (dNum S.buf N)) (t := S.docs.length) (B := S.buf) (by omega) (by omega) S.buf.length 0 _ (Nat.zero_add _) (f3.WM W2) b3 (by rw [setI_cell (by decide), setI_cell (by decide)]; exact g1) (fun i hi => by omega)
          have w2' : Fp (pMv (insP S.docs (dNum S.buf N))) _ M3 := w2.up (fun a j q => Or.inr (Or.inr q))
          have f4 : Fp (pMv (insP S.docs (dNum S.buf N))) M2 M3 := f3.tr w2'
          have W3 := f4.WM W2
          have fz : Fp (fun a j => a = 91 ∧ (j = 1 ∨ j = 2)) M3 (am_setI (am_setI M3 91 2 (zI ((S.docs.length + 1 : Nat) : Int))) 91 1 (zI 0)) := Fp.tr (Fp.set ⟨rfl, Or.inr rfl⟩) (Fp.set ⟨rfl, Or.inl rfl⟩)
          have nD : dAt M3 (insP S.docs (dNum S.buf N)) (dNum S.buf N) S.buf := by
            refine ⟨w1, ?_, ?_⟩
            · rw [w2.2.2 _ _ (fun q => by omega), setI_self]
            · rw [w2.2.2 _ _ (fun q => by omega), setI_cell (by decide), setI_self]
          have F : Fx (fun a j => gV a j ∨ (a = 91 ∧ (j = 1 ∨ j = 2)) ∨ (a = 92 ∧ j < 1104) ∨ a = 93 ∨ a = 94) M (am_setI (am_setI M3 91 2 (zI ((S.docs.length + 1 : Nat) : Int))) 91 1 (zI 0)) := by
            refine (((f1x.up (fun a j q => Or.inl q)).tr (f2x.up (fun a j q => ?_))).tr ((f4.x W2).up (fun a j q => ?_))).tr ((fz.x W3).up (fun a j q => Or.inr (Or.inl q)))
            · unfold pMs at q; omega
            · unfold pMv at q; omega
          refine ⟨_, pre3 _ (ev_M_insert_59 ?_), h.sb F (fun a j q => q) ⟨by rw [insD_len hp]; omega, ?_, fun k hk => ?_⟩ ⟨Nat.zero_le _, setI_self, fun i hi => (by cases hi), fun i hi => (by cases hi)⟩, F.up (fun a j q => by unfold gV at q; unfold gM; omega)⟩
          · rw [p1, zI_0, if_pos ((zI_lt ⟨by omega, by omega⟩ ⟨by omega, by omega⟩).mpr (by omega)), d2, if_pos ((zI_lt ⟨by omega, by omega⟩ ⟨by omega, by omega⟩).mpr (by omega))]
            refine ⟨okF_W W1 rfl, okF_W W1 rfl, k3 _ (ev_M_insert_115 ?_)⟩
            rw [zI_nat (show insP S.docs (dNum S.buf N) < 2147483648 by omega), show (am_setI M2 (91 + 3) (insP S.docs (dNum S.buf N)) (zI (dNum S.buf N))).2.1 91 1 = zI (S.buf.length : Int) from (by rw [setI_cell (by decide)]; exact b2.2.1)]
            exact ⟨okF_W W2 rfl, okA_z W2 (show sg0[91 + 3]? = some (.inr (0, 16)) from rfl) (by omega) (by omega), okF_W (WM_setI W2) rfl, okF_W (WM_setI W2) rfl, okA_z (WM_setI W2) (show sg0[91 + 2]? = some (.inr (0, 16)) from rfl) (by omega) (by omega), w3⟩
          · rw [setI_idx (by decide), setI_self, insD_len hp]
          · rw [insD_len hp] at hk
            rw [insD_N hp, insD_B hp]
            have fin : ∀ s n B, B.length ≤ 60 → dAt M3 s n B → dAt (am_setI (am_setI M3 91 2 (zI ((S.docs.length + 1 : Nat) : Int))) 91 1 (zI 0)) s n B := fun s n B hB w => w.kp hB fz (fun a j q q' => by unfold pMv at q'; omega)
            by_cases c1 : k < insP S.docs (dNum S.buf N)
            · rw [if_pos c1, if_pos c1]
              exact fin k _ _ (hO.1.1 k (by omega)).2.1 ((g2 k c1).kp (hO.1.1 k (by omega)).2.1 f4 (fun a j q q' => by unfold pMv at q q'; omega))
            · rw [if_neg c1, if_neg c1]
              by_cases c2 : k = insP S.docs (dNum S.buf N)
              · rw [if_pos c2, if_pos c2, c2]
                exact fin _ _ _ (show S.buf.length ≤ 60 by omega) nD
              · rw [if_neg c2, if_neg c2]
                exact fin k _ _ (hO.1.1 (k - 1) (by omega)).2.1 ((g3 k (by omega) (by omega)).kp (hO.1.1 (k - 1) (by omega)).2.1 f4 (fun a j q q' => by unfold pMv at q q'; omega))
        · rw [if_pos (show 16 ≤ S.docs.length by omega)]
          refine ⟨M1, pre3 _ (ev_M_insert_59 ?_), h1, F1⟩
          rw [p1, zI_0, if_pos ((zI_lt ⟨by omega, by omega⟩ ⟨by omega, by omega⟩).mpr (by omega)), d2, if_neg (fun q => by rw [zI_lt ⟨by omega, by omega⟩ ⟨by omega, by omega⟩] at q; omega)]
          exact ⟨okF_W W1 rfl, rfl⟩
      · rw [if_pos (show ¬ plc S.docs (dNum S.buf N) = -1 by omega)]
        refine ⟨M1, pre3 _ (ev_M_insert_59 ?_), h1, F1⟩
        rw [zI_0, if_neg (fun q => by rw [zI_lt ⟨by omega, by omega⟩ ⟨by omega, by omega⟩] at q; omega)]
/-! fetch, remove, count -/
theorem mfe_l {B : List Int} {x1 : Int32} {k : Nat} (hk : k < 16) (hB : B.length ≤ 60) (ho : okB B) : ∀ (m j : Nat) (M : Mm_), j + m = B.length → WM M → mAt M (64 * k) B → M.2.1 91 1 = zI (B.length : Int) → (∀ i, i < j → M.2.1 92 (1024 + i) = zI (by_ B i)) → ∃ M', EvC G d m_M_fetch 24 [some (.ref 91), some (.int x1), some (.int (zI (k : Int))), some (.int (zI (j : Int)))] [] M (some (.int (zI (B.length : Int))), M') ∧ mBuf M' B ∧ Fp pBuf M M'
  | 0, j, M, hj, hW, h1, h2, h3 => by
    refine ⟨M, ev_M_fetch_24 ?_, ⟨by omega, h2, fun i hi => h3 i (by omega), ho⟩, Fp.rf⟩
    rw [h2, if_neg (fun q => by rw [zI_lt ⟨by omega, by omega⟩ ⟨by omega, by omega⟩] at q; omega)]
    exact ⟨okF_W hW rfl, okF_W hW rfl, rfl⟩
  | m + 1, j, M, hj, hW, h1, h2, h3 => by
    have ej : zI (j : Int) + zI 1 = zI ((j + 1 : Nat) : Int) := by rw [zI_add, show (j : Int) + 1 = ((j + 1 : Nat) : Int) by omega]
    have ep : zI 64 * zI (k : Int) + zI (j : Int) = zI (((64 * k : Nat) : Int) + (j : Int)) := by rw [zI_mul, zI_add, show (64 : Int) * (k : Int) = ((64 * k : Nat) : Int) by omega]
    have eb : zI 1024 + zI (j : Int) = zI (((1024 : Nat) : Int) + (j : Int)) := zI_add _ _
    have fp : Fp pBuf M (am_setI M 92 (1024 + j) (zI (by_ B j))) := Fp.set (Or.inr ⟨rfl, by omega, by omega⟩)
    obtain ⟨M', g1, g2, g3⟩ := mfe_l (x1 := x1) hk hB ho m (j + 1) (am_setI M 92 (1024 + j) (zI (by_ B j))) (by omega) (WM_setI hW) (fun i hi => by rw [setI_idx (by omega)]; exact h1 i hi) (by rw [setI_cell (by decide)]; exact h2) (fun i hi => by
      by_cases e : i = j
      · rw [e, setI_self]
      · rw [setI_idx (by omega)]; exact h3 i (by omega))
    refine ⟨M', ev_M_fetch_24 ?_, g2, fp.tr g3⟩
    rw [h2, if_pos ((zI_lt ⟨by omega, by omega⟩ ⟨by omega, by omega⟩).mpr (by omega)), ej, ep, eb, cl2 (by omega), cl2 (by omega), show M.2.1 (91 + 1) (64 * k + j) = zI (by_ B j) from h1 j (by omega)]
    exact ⟨okF_W hW rfl, okF_W hW rfl, okF_W hW rfl, okA_W hW (show sg0[91 + 1]? = some (.inr (0, 1728)) from rfl) (zI_in (by omega) (by omega) (by omega)), okA_W hW (show sg0[91 + 1]? = some (.inr (0, 1728)) from rfl) (zI_in (by omega) (by omega) (by omega)), g1⟩
theorem e_M_fetch {n : Int} (h : RepM M S) (hO : Ok S) (hn : rg n) : ∃ M', Ev G (d + 1) 108 [.ref 91, .int (zI n)] M (some (.int (zI (sp_fetch S n).1)), M') ∧ RepM M' (sp_fetch S n).2 ∧ Fx gM M M' := by
  have hW := h.1
  have ep := e_M_holder (G := G) (d := d) (n := n) hW h.2.2.2.1 hO.1 hn
  have pre : ∀ r, EvC G (d + 1) m_M_fetch 5 [some (.ref 91), some (.int (zI n)), none, none] [.int (zI (plc S.docs n))] M r → Ev G (d + 1) 108 [.ref 91, .int (zI n)] M r := fun r hr => ev_of (q := mt_M_fetch) rfl (ev_M_fetch_0 ⟨okO_W hW rfl, _, _, ep, hr⟩)
  obtain ⟨d1, d2, d3⟩ := h.2.2.2.1
  unfold sp_fetch
  rcases plc_spec (D := S.docs) (n := n) with ⟨p1, p2⟩ | ⟨i, p1, p2, p3, p4⟩
  · rw [if_pos p1]
    refine ⟨M, pre _ (ev_M_fetch_5 ?_), h, Fx.rf hW⟩
    rw [p1, zI_0, if_pos ((zI_lt ⟨by omega, by omega⟩ ⟨by omega, by omega⟩).mpr (by omega))]
  · rw [if_neg (show ¬ plc S.docs n = -1 by omega), p3, Int.toNat_natCast]
    obtain ⟨w1, w2, w3⟩ := d3 i p1
    have ok := hO.1.1 i p1
    have f0 : Fp pBuf M (am_setI M 91 1 (zI ((dB S.docs i).length : Int))) := Fp.set (Or.inl ⟨rfl, rfl⟩)
    obtain ⟨M1, e1, b1, f1⟩ := mfe_l (G := G) (d := d + 1) (x1 := zI n) (k := i) (by omega) ok.2.1 ok.2.2.1 (dB S.docs i).length 0 (am_setI M 91 1 (zI ((dB S.docs i).length : Int))) (Nat.zero_add _) (WM_setI hW) (fun j hj => by rw [setI_cell (by decide)]; exact w1 j hj) setI_self (fun i hi => by omega)
    have F := (f0.tr f1).x hW
    have hS : mSto M1 S.docs := h.2.2.2.1.kx hO.1 F (fun a j q => by unfold pBuf at q; omega)
    refine ⟨M1, pre _ (ev_M_fetch_5 ?_), ?_, F.up (fun a j q => by unfold pBuf at q; unfold gM; omega)⟩
    · rw [p3, zI_0, if_neg (fun q => by rw [zI_lt ⟨by omega, by omega⟩ ⟨by omega, by omega⟩] at q; omega), zI_nat (show i < 2147483648 by omega), show M.2.1 (91 + 2) i = _ from w2]
      exact ⟨okF_W hW rfl, okA_z hW (show sg0[91 + 2]? = some (.inr (0, 16)) from rfl) (by omega) (by omega), okP_W hW rfl rfl, e1⟩
    · exact h.sb F (fun a j q => by unfold pBuf at q; omega) hS b1
theorem mre_l {D : List Dc} {x1 : Int32} {p : Nat} (hl : D.length ≤ 16) (hp : p < D.length) (hD : okD D) : ∀ (m k : Nat) (M : Mm_), k + m = D.length - 1 → p ≤ k → WM M → M.2.1 91 2 = zI ((D.length - 1 : Nat) : Int) → (∀ j, j < D.length → dAt M j (if p ≤ j ∧ j < k then dN D (j + 1) else dN D j) (if p ≤ j ∧ j < k then dB D (j + 1) else dB D j)) → ∃ M', EvC G (d + 1) m_M_remove 24 [some (.ref 91), some (.int x1), some (.int (zI (p : Int))), some (.int (zI (k : Int)))] [] M (some (.int (zI 1)), M') ∧ (∀ j, j < D.length → dAt M' j (if p ≤ j ∧ j < D.length - 1 then dN D (j + 1) else dN D j) (if p ≤ j ∧ j < D.length - 1 then dB D (j + 1) else dB D j)) ∧ Fp pMs M M'
  | 0, k, M, hk, hpk, hW, h1, h2 => by
    have ek : k = D.length - 1 := by omega
    refine ⟨M, ev_M_remove_24 ?_, by rw [ek] at h2; exact h2, Fp.rf⟩
    rw [h1, if_neg (fun q => by rw [zI_lt ⟨by omega, by omega⟩ ⟨by omega, by omega⟩] at q; omega)]
    exact ⟨okF_W hW rfl, rfl⟩
  | m + 1, k, M, hk, hpk, hW, h1, h2 => by
    have e1 : zI (k : Int) + zI 1 = zI ((k + 1 : Nat) : Int) := by rw [zI_add, show (k : Int) + 1 = ((k + 1 : Nat) : Int) by omega]
    have s := h2 (k + 1) (by omega)
    rw [if_neg (by omega), if_neg (by omega)] at s
    obtain ⟨M1, m1, m2, m3⟩ := e_M_move (G := G) (d := d) (f := k + 1) (t := k) (by omega) (by omega) (by omega) hW (hD.1 (k + 1) (by omega)).2.1 s
    obtain ⟨M2, g1, g2, g3⟩ := mre_l (x1 := x1) hl hp hD m (k + 1) M1 (by omega) (by omega) (m3.WM hW) (by rw [m3.2.2 _ _ (fun w => by unfold pMv at w; omega)]; exact h1) (fun j hj => by
      by_cases e : j = k
      · rw [if_pos (by omega), if_pos (by omega), e]; exact m2
      · have w := h2 j hj
        by_cases c1 : p ≤ j ∧ j < k
        · rw [if_pos c1, if_pos c1] at w
          rw [if_pos (by omega), if_pos (by omega)]
          exact w.kp (hD.1 (j + 1) (by omega)).2.1 m3 (fun a i q q' => by unfold pMv at q q'; omega)
        · rw [if_neg c1, if_neg c1] at w
          rw [if_neg (by omega), if_neg (by omega)]
          exact w.kp (hD.1 j hj).2.1 m3 (fun a i q q' => by unfold pMv at q q'; omega))
    refine ⟨M2, ev_M_remove_24 ?_, g2, (m3.up (fun a j w => pMv_s (by omega) w)).tr g3⟩
    rw [h1, if_pos ((zI_lt ⟨by omega, by omega⟩ ⟨by omega, by omega⟩).mpr (by omega)), e1]
    refine ⟨okF_W hW rfl, okO_W hW rfl, _, m1, ev_M_remove_40 ?_⟩
    rw [e1]
    exact g1
theorem e_M_remove {n : Int} (h : RepM M S) (hO : Ok S) (hn : rg n) : ∃ M', Ev G (d + 1) 109 [.ref 91, .int (zI n)] M (some (.int (zI (sp_remove S n).1)), M') ∧ RepM M' (sp_remove S n).2 ∧ Fx gM M M' := by
  have hW := h.1
  have ep := e_M_holder (G := G) (d := d) (n := n) hW h.2.2.2.1 hO.1 hn
  have pre : ∀ r, EvC G (d + 1) m_M_remove 5 [some (.ref 91), some (.int (zI n)), none, none] [.int (zI (plc S.docs n))] M r → Ev G (d + 1) 109 [.ref 91, .int (zI n)] M r := fun r hr => ev_of (q := mt_M_remove) rfl (ev_M_remove_0 ⟨okO_W hW rfl, _, _, ep, hr⟩)
  obtain ⟨d1, d2, d3⟩ := h.2.2.2.1
  unfold sp_remove
  rcases plc_spec (D := S.docs) (n := n) with ⟨p1, p2⟩ | ⟨i, p1, p2, p3, p4⟩
  · rw [if_pos p1]
    refine ⟨M, pre _ (ev_M_remove_5 ?_), h, Fx.rf hW⟩
    rw [p1, zI_0, if_pos ((zI_lt ⟨by omega, by omega⟩ ⟨by omega, by omega⟩).mpr (by omega))]
  · rw [if_neg (show ¬ plc S.docs n = -1 by omega), p3, Int.toNat_natCast]
    have f0 : Fp (fun a j => a = 91 ∧ j = 2) M (am_setI M 91 2 (zI ((S.docs.length - 1 : Nat) : Int))) := Fp.set ⟨rfl, rfl⟩
    obtain ⟨M1, e1, k1, k2⟩ := mre_l (G := G) (d := d) (x1 := zI n) (p := i) (D := S.docs) d1 p1 hO.1 (S.docs.length - 1 - i) i (am_setI M 91 2 (zI ((S.docs.length - 1 : Nat) : Int))) (by omega) (Nat.le_refl _) (WM_setI hW) setI_self (fun j hj => by
      rw [if_neg (by omega), if_neg (by omega)]
      exact dAt.kp (d3 j hj) (hO.1.1 j hj).2.1 f0 (fun a i q q' => by unfold pMv at q'; omega))
    have F : Fx (fun a j => (a = 91 ∧ j = 2) ∨ pMs a j) M M1 := ((f0.x hW).up (fun a j q => Or.inl q)).tr ((k2.x (WM_setI hW)).up (fun a j q => Or.inr q))
    have el : (S.docs.eraseIdx i).length = S.docs.length - 1 := List.length_eraseIdx_of_lt p1
    have hS : mSto M1 (S.docs.eraseIdx i) := by
      refine ⟨by rw [el]; omega, ?_, fun k hk => ?_⟩
      · rw [k2.2.2 _ _ (fun q => by unfold pMs at q; omega), setI_self, el]
      · rw [el] at hk
        have w := k1 k (by omega)
        rw [era_N, era_B]
        by_cases c1 : k < i
        · rw [if_pos c1, if_pos c1]
          rw [if_neg (by omega), if_neg (by omega)] at w
          exact w
        · rw [if_neg c1, if_neg c1]
          rw [if_pos (by omega), if_pos (by omega)] at w
          exact w
    have hb : mBuf M1 S.buf := h.2.1.kx F (fun a j q => by unfold pMs at q; omega)
    refine ⟨M1, pre _ (ev_M_remove_5 ?_), h.sb F (fun a j q => by unfold pMs at q; omega) hS hb, F.up (fun a j q => by unfold pMs at q; unfold gM; omega)⟩
    rw [p3, zI_0, if_neg (fun q => by rw [zI_lt ⟨by omega, by omega⟩ ⟨by omega, by omega⟩] at q; omega), d2, zI_sub, show (S.docs.length : Int) - 1 = ((S.docs.length - 1 : Nat) : Int) by omega]
    exact ⟨okF_W hW rfl, okP_W hW rfl rfl, e1⟩
theorem e_M_count (h : RepM M S) : Ev G d 110 [.ref 91] M (some (.int (zI (S.docs.length : Int))), M) := by
  refine ev_of (q := mt_M_count) rfl (ev_M_count_0 ⟨okF_W h.1 rfl, ?_⟩)
  rw [h.2.2.2.1.2.1]
end MSTO2
