/-! THE REFERENCE's conditions: isLong, holds -/
section MCOND3
variable {G : Nat × (Nat → Int32)} {d o : Nat} {B : List Int} {N : List Nd} {P : List (List Int)} {f : Int} {Q : List Int} {c : Nat}
theorem kids_len {k : Nat} : (kids N k).length ≤ N.length := nodup_len _ _ kids_nodup (fun _ hz => (kids_lt hz).1)
theorem mil_s {M : Mm_} {x1 x4 : Int32} {k t : Nat} {s : Int} {r : Out_} (h : mIn M o B) (hN : N.length ≤ 1000) (ht : 1 ≤ rTy N t ∧ rTy N t ≤ 6) (hC : mcn M c P f Q) (l1 : M.2.1 100 k = zI (rTy N t)) (hk : k < 128) (hm : rTy N t = 4 → M.2.1 91 13 = zI ((kids N t).length : Int)) (hs : s = 0 ∨ s = 1)
    (H : ∀ s' : Int, (s' = 0 ∨ s' = 1) → (s' = 1 ↔ (s = 1 ∨ (rTy N t = 4 ∧ by_ Q 0 = 1 ∧ ((kids N t).length : Int) = sgn Q 1))) → EvC G (d + 1) m_M_isLong 28 [some (.ref 91), some (.int x1), some (.int (zI (c : Int))), some (.int (zI ((1120 + 96 * c : Nat) : Int))), some (.int x4), some (.int (zI s')), some (.int (zI (k : Int) + zI 1))] [] M r) :
    EvC G (d + 1) m_M_isLong 66 [some (.ref 91), some (.int x1), some (.int (zI (c : Int))), some (.int (zI ((1120 + 96 * c : Nat) : Int))), some (.int x4), some (.int (zI s)), some (.int (zI (k : Int)))] [] M r := by
  obtain ⟨c1, c2, c3, c4, c5, c6, c7, c8⟩ := hC
  have hq0 : 0 < Q.length := by_lt (by have := c5.2.1; omega)
  have i0 := mI c2 hq0
  have o0 := mOk c2 hq0
  rw [← zI_o0] at i0 o0
  have q1 := c5.2.1
  have q2 := c5.2.2.1
  have l1' : M.2.1 (91 + 9) k = zI (rTy N t) := l1
  have a9 : am_okA M (91 + 9) 0 (zI (k : Int)) = true := okA_z h.1 (show sg0[91 + 9]? = some (.inr (0, 128)) from rfl) (by omega) (by omega)
  have hlen := kids_len (N := N) (k := t)
  have no : s = 0 → ¬ (rTy N t = 4 ∧ by_ Q 0 = 1 ∧ ((kids N t).length : Int) = sgn Q 1) → EvC G (d + 1) m_M_isLong 28 [some (.ref 91), some (.int x1), some (.int (zI (c : Int))), some (.int (zI ((1120 + 96 * c : Nat) : Int))), some (.int x4), some (.int (zI 0)), some (.int (zI (k : Int) + zI 1))] [] M r := fun s0 q => H 0 (Or.inl rfl) ⟨fun z => absurd z (by decide), fun z => z.elim (fun z => by omega) (fun z => absurd z q)⟩
  refine ev_M_isLong_66 ?_
  rcases hs with rfl | rfl
  · rw [zI_0, if_pos rfl, zI_nat (show k < 2147483648 by omega), l1']
    refine ⟨okF_W h.1 rfl, a9, ?_⟩
    by_cases t4 : rTy N t = 4
    · rw [if_pos (by rw [t4]), i0]
      refine ⟨okF_W h.1 rfl, o0, ?_⟩
      by_cases b1 : by_ Q 0 = 1
      · have m1 := okQ_1 c5 b1
        have r1 := sgn_rg c2.2.1 (p := 1) (by omega)
        have e1 : zI ((1120 + 96 * c : Nat) : Int) + zI 1 = zI (((1120 + 96 * c : Nat) : Int) + ((1 : Nat) : Int)) := by rw [zI_add]; rfl
        rw [if_pos (by rw [b1]), hm t4, e1]
        refine ⟨okF_W h.1 rfl, okO_W h.1 rfl, _, _, e_M_value c2 (by omega), ev_M_isLong_103 ?_⟩
        by_cases e : ((kids N t).length : Int) = sgn Q 1
        · rw [if_pos (by rw [e])]
          exact H 1 (Or.inr rfl) ⟨fun _ => Or.inr ⟨t4, b1, e⟩, fun _ => rfl⟩
        · rw [if_neg (zI_ne ⟨by omega, by omega⟩ ⟨by omega, by omega⟩ e)]
          exact no rfl (fun q => e q.2.2)
      · rw [if_neg (zI_ne ⟨by omega, by omega⟩ ⟨by omega, by omega⟩ b1)]
        exact no rfl (fun q => b1 q.2.1)
    · rw [if_neg (zI_ne ⟨by omega, by omega⟩ ⟨by omega, by omega⟩ t4)]
      exact no rfl (fun q => t4 q.1)
  · rw [zI_0, if_neg z10]
    exact H 1 (Or.inr rfl) ⟨fun _ => Or.inl rfl, fun _ => rfl⟩
theorem mil_l {L : List Nat} {x1 : Int32} (hA : Acc B 3 0 N) (hB : B.length ≤ 64) (hl : L.length ≤ 128) (hLN : ∀ z ∈ L, z < N.length) : ∀ (m k : Nat) (s : Int) (M : Mm_), k + m = L.length → (s = 0 ∨ s = 1) → mIn M o B → mcn M c P f Q → cur M o N L → ∃ M' x, EvC G (d + 5) m_M_isLong 28 [some (.ref 91), some (.int x1), some (.int (zI (c : Int))), some (.int (zI ((1120 + 96 * c : Nat) : Int))), some (.int (zI (L.length : Int))), some (.int (zI s)), some (.int (zI (k : Int)))] [] M (some (.int x), M') ∧ b01 (s = 1 ∨ ∃ i, k ≤ i ∧ i < L.length ∧ rTy N (L.getD i 0) = 4 ∧ by_ Q 0 = 1 ∧ ((kids N (L.getD i 0)).length : Int) = sgn Q 1) x ∧ Fp pCm M M'
  | 0, k, s, M, hk, hs, h, hC, hL => by
    refine ⟨M, zI s, ev_M_isLong_28 ?_, ?_, Fp.rf⟩
    · rw [if_neg (fun q => by rw [zI_lt ⟨by omega, by omega⟩ ⟨by omega, by omega⟩] at q; omega)]
      exact ⟨bit_z hs, rfl⟩
    · rcases hs with rfl | rfl
      · refine b01_f (fun z => ?_)
        rcases z with z | ⟨i, h1, h2, _⟩
        · exact absurd z (by decide)
        · omega
      · exact b01_t (Or.inl rfl)
  | m + 1, k, s, M, hk, hs, h, hC, hL => by
    have hkN := hLN _ (getD_memN (L := L) (i := k) (by omega))
    have hN := hA.2.1
    obtain ⟨w1, w2, w3⟩ := nd_w hA hkN
    have hlen := kids_len (N := N) (k := L.getD k 0)
    have hc3 := hC.2.2.2.2.2.2.1
    have ek : zI (k : Int) + zI 1 = zI ((k + 1 : Nat) : Int) := by rw [zI_add, show (k : Int) + 1 = ((k + 1 : Nat) : Int) by omega]
    have f0 : Fp pCm M (am_setI M 91 13 (zI 0)) := Fp.set (Or.inl ⟨rfl, rfl⟩)
    have h0 := h.cm f0
    have C0 := hC.cm f0
    have L0 : cur (am_setI M 91 13 (zI 0)) o N L := fun i hi => by rw [setI_cell (by decide), setI_cell (by decide)]; exact hL i hi
    have n0 : nxt (am_setI M 91 13 (zI 0)) o N [] := ⟨setI_self, fun i hi => by cases hi⟩
    -- the memory at 66
    have st : ∃ M1, (∀ r, EvC G (d + 5) m_M_isLong 66 [some (.ref 91), some (.int x1), some (.int (zI (c : Int))), some (.int (zI ((1120 + 96 * c : Nat) : Int))), some (.int (zI (L.length : Int))), some (.int (zI s)), some (.int (zI (k : Int)))] [] M1 r → EvC G (d + 5) m_M_isLong 28 [some (.ref 91), some (.int x1), some (.int (zI (c : Int))), some (.int (zI ((1120 + 96 * c : Nat) : Int))), some (.int (zI (L.length : Int))), some (.int (zI s)), some (.int (zI (k : Int)))] [] M r) ∧ (rTy N (L.getD k 0) = 4 → M1.2.1 91 13 = zI ((kids N (L.getD k 0)).length : Int)) ∧ Fp pCm M M1 ∧ cur M1 o N L := by
      obtain ⟨l1, l2⟩ := L0 k (by omega)
      have l1' : (am_setI M 91 13 (zI 0)).2.1 (91 + 9) k = zI (rTy N (L.getD k 0)) := l1
      have l2' : (am_setI M 91 13 (zI 0)).2.1 (91 + 10) k = zI ((o : Int) + ((rPl N (L.getD k 0) : Nat) : Int)) := l2
      have a9 : am_okA (am_setI M 91 13 (zI 0)) (91 + 9) 0 (zI (k : Int)) = true := okA_z h0.1 (show sg0[91 + 9]? = some (.inr (0, 128)) from rfl) (by omega) (by omega)
      have a10 : am_okA (am_setI M 91 13 (zI 0)) (91 + 10) 0 (zI (k : Int)) = true := okA_z h0.1 (show sg0[91 + 10]? = some (.inr (0, 128)) from rfl) (by omega) (by omega)
      by_cases t4 : rTy N (L.getD k 0) = 4
      · obtain ⟨M1, e1, n1, f1⟩ := e_M_items (G := G) (d := d) (i := -1) (ox := none) (L := []) h0 hA C0.1 (by omega) (Or.inl ⟨rfl, rfl⟩) hkN t4 n0 (by rw [show itG N none = fun j => [j] from rfl, flat_sing]; simp only [List.length_nil]; omega)
        rw [show itG N none = fun j => [j] from rfl, flat_sing, List.nil_append] at n1
        refine ⟨M1, fun r hr => ev_M_isLong_28 ?_, fun _ => n1.1, f0.tr (f1.up (fun _ _ => pNx_Cm)), L0.keptp f1 (fun j => by unfold pNx; omega) (fun j => by unfold pNx; omega)⟩
        rw [if_pos ((zI_lt ⟨by omega, by omega⟩ ⟨by omega, by omega⟩).mpr (by omega)), zI_nat (show k < 2147483648 by omega), l1', l2', if_pos (by rw [t4]), zI_add, show (3 : Int) + (c : Int) = ((3 + c : Nat) : Int) by omega]
        exact ⟨okP_W h.1 rfl rfl, okF_W h0.1 rfl, a9, okF_W h0.1 rfl, a10, okO_W h0.1 rfl, _, e1, hr⟩
      · refine ⟨_, fun r hr => ev_M_isLong_28 ?_, fun q => absurd q t4, f0, L0⟩
        rw [if_pos ((zI_lt ⟨by omega, by omega⟩ ⟨by omega, by omega⟩).mpr (by omega)), zI_nat (show k < 2147483648 by omega), l1', if_neg (zI_ne ⟨by omega, by omega⟩ ⟨by omega, by omega⟩ t4)]
        exact ⟨okP_W h.1 rfl rfl, okF_W h0.1 rfl, a9, hr⟩
    obtain ⟨M1, to, m1, f1, L1⟩ := st
    have h1 := h.cm f1
    have C1 := hC.cm f1
    have l1 := (L1 k (by omega)).1
    by_cases cc : s = 1 ∨ (rTy N (L.getD k 0) = 4 ∧ by_ Q 0 = 1 ∧ ((kids N (L.getD k 0)).length : Int) = sgn Q 1)
    · obtain ⟨M2, x, e, w, f2⟩ := mil_l (x1 := x1) hA hB hl hLN m (k + 1) 1 M1 (by omega) (Or.inr rfl) h1 C1 L1
      refine ⟨M2, x, to _ (mil_s h1 (by omega) w1 C1 l1 (by omega) m1 hs (fun s' hs' hi => ?_)), b01_iff w ⟨fun _ => ?_, fun _ => Or.inl rfl⟩, f1.tr f2⟩
      · have e1 : s' = 1 := hi.mpr cc
        subst e1
        rw [ek]
        exact e
      · rcases cc with q | q
        · exact Or.inl q
        · exact Or.inr ⟨k, Nat.le_refl _, by omega, q⟩
    · obtain ⟨M2, x, e, w, f2⟩ := mil_l (x1 := x1) hA hB hl hLN m (k + 1) 0 M1 (by omega) (Or.inl rfl) h1 C1 L1
      refine ⟨M2, x, to _ (mil_s h1 (by omega) w1 C1 l1 (by omega) m1 hs (fun s' hs' hi => ?_)), b01_iff w ⟨fun z => ?_, fun z => ?_⟩, f1.tr f2⟩
      · have e1 : s' = 0 := by
          rcases hs' with q | q
          · exact q
          · exact absurd (hi.mp q) cc
        subst e1
        rw [ek]
        exact e
      · rcases z with q | ⟨i, q1, q2⟩
        · exact absurd q (by decide)
        · exact Or.inr ⟨i, by omega, q2⟩
      · rcases z with q | ⟨i, q1, q2, q3⟩
        · exact absurd (Or.inl q) cc
        · rcases Nat.lt_or_ge k i with h4 | h4
          · exact Or.inr ⟨i, by omega, q2, q3⟩
          · have : i = k := by omega
            subst this
            exact absurd (Or.inr q3) cc
theorem come_ltN (hA : Acc B 3 0 N) {p : List Int} {k : Nat} (h : k ∈ comeN N p) : k < N.length := by
  have := mem_come (p := p) hA p.length (Nat.le_refl _) k
  rw [List.take_length] at this
  exact (this.mp h).1
theorem come_len' (hA : Acc B 3 0 N) {p : List Int} : (comeN N p).length ≤ N.length := by
  have b1 := come_len (p := p) hA (i := p.length) (Nat.le_refl _)
  rw [List.take_length] at b1
  exact b1
theorem e_M_isLong {M : Mm_} {di : Nat} (h : mIn M (64 * di) B) (hA : Acc B 3 0 N) (hB : B.length ≤ 64) (hC : mcn M c P f Q) : ∃ M' x, Ev G (d + 6) 132 [.ref 91, .int (zI (di : Int)), .int (zI (c : Int))] M (some (.int x), M') ∧ b01 (hSize N P Q) x ∧ Fp pCm M M' := by
  obtain ⟨M1, e1, c1, f1⟩ := e_M_come (G := G) (d := d) h hA hB hC.1 (by have := hC.2.2.2.2.2.2.1; omega)
  have hN := hA.2.1
  have gl := come_len' hA (p := pks P)
  obtain ⟨M2, x, e, w, f2⟩ := mil_l (G := G) (d := d + 1) (x1 := zI (di : Int)) (L := comeN N (pks P)) hA hB (by omega) (fun z hz => come_ltN hA hz) _ 0 0 M1 (Nat.zero_add _) (Or.inl rfl) (h.cm f1) (hC.cm f1) c1
  refine ⟨M2, x, ev_of (q := mt_M_isLong) rfl (ev_M_isLong_0 ?_), b01_iff w ?_, f1.tr f2⟩
  · rw [zI_mul, zI_mul, zI_add, zI_add, show (64 : Int) * (di : Int) = ((64 * di : Nat) : Int) by omega, show (3 : Int) + (c : Int) = ((3 + c : Nat) : Int) by omega, show (1120 : Int) + 96 * (c : Int) = ((1120 + 96 * c : Nat) : Int) by omega]
    exact ⟨okO_W h.1 rfl, _, _, e1, ev_M_isLong_20 e⟩
  · rw [ex_idxN (L := comeN N (pks P)) (p := fun z => rTy N z = 4 ∧ by_ Q 0 = 1 ∧ ((kids N z).length : Int) = sgn Q 1)]
    constructor
    · rintro (q | ⟨z, h1, h2, h3, h4⟩)
      · exact absurd q (by decide)
      · exact ⟨h3, z, h1, h2, h4⟩
    · rintro ⟨h1, z, h2, h3, h4⟩
      exact Or.inr ⟨z, h2, h3, h1, h4⟩
theorem e_M_holds {M : Mm_} {di : Nat} (h : mIn M (64 * di) B) (hA : Acc B 3 0 N) (hB : B.length ≤ 64) (hC : mcn M c P f Q) : ∃ M' x, Ev G (d + 8) 128 [.ref 91, .int (zI (di : Int)), .int (zI (c : Int))] M (some (.int x), M') ∧ b01 (hHolds B N P f Q) x ∧ Fp pCm M M' := by
  have hC' := hC
  obtain ⟨c1, c2, c3, c4, c5, c6, c7, c8⟩ := hC
  have rf : rg f := ⟨by omega, by omega⟩
  have f' : M.2.1 (91 + 6) c = zI f := c3
  have a6 : ∀ {M' : Mm_}, WM M' → am_okA M' (91 + 6) 0 (zI (c : Int)) = true := fun hW => okA_z hW (show sg0[91 + 6]? = some (.inr (0, 3)) from rfl) (by omega) (by omega)
  have q1 := c5.2.1
  have q2 := c5.2.2.1
  have eq : (zI 1120) + ((zI 96) * (zI (c : Int))) = zI ((1120 + 96 * c : Nat) : Int) := by rw [zI_mul, zI_add, show (1120 : Int) + 96 * (c : Int) = ((1120 + 96 * c : Nat) : Int) by omega]
  unfold hHolds
  by_cases f01 : f < 2
  · obtain ⟨M1, x, e, w, f1⟩ := e_M_isEqual (G := G) (d := d) h hA hB hC'
    have f2 : M1.2.1 (91 + 6) c = zI f := (f1.2.2 _ _ (by unfold pCm; omega)).trans f'
    have W1 := f1.WM h.1
    have pre : ∀ y, (if zI f = zI 0 then (if x = zI 1 then (some (.int y), M1) = ((some (.int (zI 1)), M1) : Out_) else (some (.int y), M1) = ((some (.int (zI 0)), M1) : Out_)) else (if x = zI 0 then (some (.int y), M1) = ((some (.int (zI 1)), M1) : Out_) else (some (.int y), M1) = ((some (.int (zI 0)), M1) : Out_))) → Ev G (d + 8) 128 [.ref 91, .int (zI (di : Int)), .int (zI (c : Int))] M (some (.int y), M1) := fun y hy => by
      refine ev_of (q := mt_M_holds) rfl (ev_M_holds_0 ?_)
      rw [zI_nat (show c < 2147483648 by omega), f', if_pos ((zI_lt rf ⟨by omega, by omega⟩).mpr f01)]
      refine ⟨okF_W h.1 rfl, a6 h.1, okO_W h.1 rfl, _, _, e, ev_M_holds_25 ?_⟩
      rw [zI_nat (show c < 2147483648 by omega), f2, zI_0]
      exact ⟨okF_W W1 rfl, a6 W1, hy⟩
    by_cases g0 : f = 0
    · rw [if_pos g0]
      rcases w with ⟨w1, w2⟩ | ⟨w1, w2⟩
      · exact ⟨M1, zI 1, pre _ (by rw [if_pos (by rw [g0]), if_pos w2]), b01_t w1, f1⟩
      · exact ⟨M1, zI 0, pre _ (by rw [if_pos (by rw [g0]), w2, if_neg (fun q => z10 q.symm)]), b01_f w1, f1⟩
    · rw [if_neg g0, if_pos (show f = 1 by omega)]
      rcases w with ⟨w1, w2⟩ | ⟨w1, w2⟩
      · exact ⟨M1, zI 0, pre _ (by rw [if_neg (zI_ne rf ⟨by omega, by omega⟩ g0), w2, if_neg z10]), b01_f (fun q => q w1), f1⟩
      · exact ⟨M1, zI 1, pre _ (by rw [if_neg (zI_ne rf ⟨by omega, by omega⟩ g0), if_pos w2]), b01_t w1, f1⟩
  · rw [if_neg (show ¬ f = 0 by omega), if_neg (show ¬ f = 1 by omega)]
    by_cases f26 : f < 6
    · rw [if_neg (show ¬ f = 6 by omega), if_neg (show ¬ f = 7 by omega)]
      obtain ⟨M1, x, e, w, f1⟩ := e_M_isCompared (G := G) (d := d) h hA hB hC'
      refine ⟨M1, x, ev_of (q := mt_M_holds) rfl (ev_M_holds_0 ?_), w, f1⟩
      rw [zI_nat (show c < 2147483648 by omega), f', if_neg (fun q => f01 ((zI_lt rf ⟨by omega, by omega⟩).mp q)), if_pos ((zI_lt rf ⟨by omega, by omega⟩).mpr f26)]
      exact ⟨okF_W h.1 rfl, a6 h.1, okF_W h.1 rfl, a6 h.1, okO_W h.1 rfl, _, _, e, ev_M_holds_65 ⟨b01_bit w, rfl⟩⟩
    · by_cases f7 : f = 7
      · rw [if_neg (show ¬ f = 6 by omega), if_pos f7]
        obtain ⟨M1, x, e, w, f1⟩ := e_M_isLong (G := G) (d := d + 1) h hA hB hC'
        refine ⟨M1, x, ev_of (q := mt_M_holds) rfl (ev_M_holds_0 ?_), w, f1⟩
        rw [zI_nat (show c < 2147483648 by omega), f', if_neg (fun q => f01 ((zI_lt rf ⟨by omega, by omega⟩).mp q)), if_neg (fun q => f26 ((zI_lt rf ⟨by omega, by omega⟩).mp q)), if_pos (by rw [f7])]
        exact ⟨okF_W h.1 rfl, a6 h.1, okF_W h.1 rfl, a6 h.1, okF_W h.1 rfl, a6 h.1, okO_W h.1 rfl, _, _, e, ev_M_holds_83 ⟨b01_bit w, rfl⟩⟩
      · rw [if_pos (show f = 6 by omega)]
        obtain ⟨M1, e1, -, f1⟩ := e_M_come (G := G) (d := d + 2) h hA hB c1 (show 3 + c < 6 by omega)
        have hN := hA.2.1
        have gl := come_len' hA (p := pks P)
        have hq0 : 0 < Q.length := by_lt (by omega)
        have i0 := mI c2 hq0
        have o0 := mOk c2 hq0
        rw [← zI_o0] at i0 o0
        have e1' : zI ((1120 + 96 * c : Nat) : Int) + zI 1 = zI (((1120 + 96 * c : Nat) : Int) + ((1 : Nat) : Int)) := by rw [zI_add]; rfl
        -- behind the type
        have fin : ∀ z : Int, (z = 0 ∨ z = 1) → ∃ y, EvC G (d + 8) m_M_holds 110 [some (.ref 91), some (.int (zI (di : Int))), some (.int (zI (c : Int))), some (.int (zI ((1120 + 96 * c : Nat) : Int))), none] [.int (zI z)] M (some (.int y), M1) ∧ b01 (comeN N (pks P) = [] ↔ z = 1) y := fun z hz => by
          have pre : ∀ y, (if zI ((comeN N (pks P)).length : Int) = zI 0 then (if zI 1 = zI z then (some (.int y), M1) = ((some (.int (zI 1)), M1) : Out_) else (some (.int y), M1) = ((some (.int (zI 0)), M1) : Out_)) else (if zI 0 = zI z then (some (.int y), M1) = ((some (.int (zI 1)), M1) : Out_) else (some (.int y), M1) = ((some (.int (zI 0)), M1) : Out_))) → EvC G (d + 8) m_M_holds 110 [some (.ref 91), some (.int (zI (di : Int))), some (.int (zI (c : Int))), some (.int (zI ((1120 + 96 * c : Nat) : Int))), none] [.int (zI z)] M (some (.int y), M1) := fun y hy => by
            refine ev_M_holds_110 ?_
            rw [zI_mul, zI_add, show (64 : Int) * (di : Int) = ((64 * di : Nat) : Int) by omega, show (3 : Int) + (c : Int) = ((3 + c : Nat) : Int) by omega]
            refine ⟨okO_W h.1 rfl, _, _, e1, ev_M_holds_123 ?_⟩
            rw [zI_0]
            exact hy
          by_cases n0 : (comeN N (pks P)).length = 0
          · have nn : comeN N (pks P) = [] := List.length_eq_zero_iff.mp n0
            rcases hz with rfl | rfl
            · exact ⟨zI 0, pre _ (by rw [n0, if_pos (show zI ((0 : Nat) : Int) = zI 0 from rfl), if_neg z10]), b01_f (fun q => absurd (q.mp nn) (by decide))⟩
            · exact ⟨zI 1, pre _ (by rw [n0, if_pos (show zI ((0 : Nat) : Int) = zI 0 from rfl), if_pos rfl]), b01_t ⟨fun _ => rfl, fun _ => nn⟩⟩
          · have nn : ¬ comeN N (pks P) = [] := fun q => n0 (by rw [q]; rfl)
            rcases hz with rfl | rfl
            · exact ⟨zI 1, pre _ (by rw [if_neg (zI_ne ⟨by omega, by omega⟩ ⟨by omega, by omega⟩ (by omega)), if_pos rfl]), b01_t ⟨fun q => absurd q nn, fun q => absurd q (by decide)⟩⟩
            · exact ⟨zI 0, pre _ (by rw [if_neg (zI_ne ⟨by omega, by omega⟩ ⟨by omega, by omega⟩ (by omega)), if_neg (fun q => z10 q.symm)]), b01_f (fun q => nn (q.mpr rfl))⟩
        unfold hThere
        have to : ∀ y, (if zI (by_ Q 0) = zI 5 then ((am_okF M 91 8 0) = true ∧ ((am_okA M (91 + 1) 0 (zI (((1120 + 96 * c : Nat) : Int) + ((1 : Nat) : Int)))) = true ∧ (if (M.2.1 (91 + 1) (zI (((1120 + 96 * c : Nat) : Int) + ((1 : Nat) : Int))).toNatClampNeg) = zI 0 then (EvC G (d + 8) m_M_holds 110 [some (.ref 91), some (.int (zI (di : Int))), some (.int (zI (c : Int))), some (.int (zI ((1120 + 96 * c : Nat) : Int))), none] [.int (zI 1)] M (some (.int y), M1)) else (EvC G (d + 8) m_M_holds 109 [some (.ref 91), some (.int (zI (di : Int))), some (.int (zI (c : Int))), some (.int (zI ((1120 + 96 * c : Nat) : Int))), none] [] M (some (.int y), M1))))) else (EvC G (d + 8) m_M_holds 109 [some (.ref 91), some (.int (zI (di : Int))), some (.int (zI (c : Int))), some (.int (zI ((1120 + 96 * c : Nat) : Int))), none] [] M (some (.int y), M1))) → Ev G (d + 8) 128 [.ref 91, .int (zI (di : Int)), .int (zI (c : Int))] M (some (.int y), M1) := fun y hy => by
          refine ev_of (q := mt_M_holds) rfl (ev_M_holds_0 ?_)
          rw [zI_nat (show c < 2147483648 by omega), f', if_neg (fun q => f01 ((zI_lt rf ⟨by omega, by omega⟩).mp q)), if_neg (fun q => f26 ((zI_lt rf ⟨by omega, by omega⟩).mp q)), if_neg (zI_ne rf ⟨by omega, by omega⟩ f7), eq, i0, e1', zI_0]
          exact ⟨okF_W h.1 rfl, a6 h.1, okF_W h.1 rfl, a6 h.1, okF_W h.1 rfl, a6 h.1, okF_W h.1 rfl, o0, hy⟩
        by_cases q5 : by_ Q 0 = 5
        · have m5 := okQ_5 c5 q5
          have b1 := c2.2.1 1 (by omega)
          have i1 := mI c2 (i := 1) (by omega)
          have o1 := mOk c2 (i := 1) (by omega)
          by_cases b0 : by_ Q 1 = 0
          · obtain ⟨y, e, w⟩ := fin 1 (Or.inr rfl)
            refine ⟨M1, y, to y ?_, b01_iff w ⟨fun z => ⟨fun q => ⟨q5, b0⟩, fun q => z.mpr rfl⟩, fun z => ⟨fun _ => rfl, fun _ => z.mpr ⟨q5, b0⟩⟩⟩, f1⟩
            rw [if_pos (by rw [q5]), i1, if_pos (by rw [b0])]
            exact ⟨okF_W h.1 rfl, o1, e⟩
          · obtain ⟨y, e, w⟩ := fin 0 (Or.inl rfl)
            refine ⟨M1, y, to y ?_, b01_iff w ⟨fun z => ⟨fun q => absurd (z.mp q) (by decide), fun q => absurd q.2 b0⟩, fun z => ⟨fun q => absurd (z.mp q).2 b0, fun q => absurd q (by decide)⟩⟩, f1⟩
            rw [if_pos (by rw [q5]), i1, if_neg (zI_ne ⟨by omega, by omega⟩ ⟨by omega, by omega⟩ b0)]
            exact ⟨okF_W h.1 rfl, o1, ev_M_holds_109 e⟩
        · obtain ⟨y, e, w⟩ := fin 0 (Or.inl rfl)
          refine ⟨M1, y, to y ?_, b01_iff w ⟨fun z => ⟨fun q => absurd (z.mp q) (by decide), fun q => absurd q.1 q5⟩, fun z => ⟨fun q => absurd (z.mp q).1 q5, fun q => absurd q (by decide)⟩⟩, f1⟩
          rw [if_neg (zI_ne ⟨by omega, by omega⟩ ⟨by omega, by omega⟩ q5)]
          exact ev_M_holds_109 e
end MCOND3
