/-! FOUND VALUES: none twice; THE REFERENCE: items, turn -/
theorem nodup_len : ∀ (n : Nat) (L : List Nat), L.Nodup → (∀ k ∈ L, k < n) → L.length ≤ n
  | 0, L, _, h => by
    cases L with
    | nil => exact Nat.le_refl _
    | cons a r => exact absurd (h a List.mem_cons_self) (by omega)
  | n + 1, L, hd, h => by
    by_cases c : n ∈ L
    · obtain ⟨s, t, rfl⟩ := List.append_of_mem c
      obtain ⟨p1, p2, p3⟩ := List.pairwise_append.mp hd
      obtain ⟨p4, p5⟩ := List.pairwise_cons.mp p2
      have := nodup_len n (s ++ t) (List.pairwise_append.mpr ⟨p1, p5, fun a ha b hb => p3 a ha b (List.mem_cons_of_mem _ hb)⟩) (fun k hk => by
        rcases List.mem_append.mp hk with hk | hk
        · have h1 := h k (List.mem_append_left _ hk)
          have h2 := p3 k hk n List.mem_cons_self
          omega
        · have h1 := h k (List.mem_append_right _ (List.mem_cons_of_mem _ hk))
          have h2 := p4 k hk
          omega)
      simp only [List.length_append, List.length_cons] at this ⊢
      omega
    · have := nodup_len n L hd (fun k hk => by
        have h1 := h k hk
        have h2 : k ≠ n := fun e => c (e ▸ hk)
        omega)
      omega
theorem nodup_flat {L : List Nat} {g : Nat → List Nat} (hL : L.Nodup) (h1 : ∀ a ∈ L, (g a).Nodup) (h2 : ∀ a ∈ L, ∀ b ∈ L, ∀ j, j ∈ g a → j ∈ g b → a = b) : (L.flatMap g).Nodup := by
  refine List.pairwise_flatMap.mpr ⟨h1, ?_⟩
  refine List.Pairwise.imp_of_mem (fun {a b} ha hb hab => ?_) hL
  intro x hx y hy e
  subst e
  exact hab (h2 a ha b hb x hx hy)
theorem nat_cast_inj {a b : Nat} (h : (a : Int) = (b : Int)) : a = b := by omega
section NODUP
variable {B : List Int} {N : List Nd} {p : List Int}
theorem lead_mem {x : Int} {c k : Nat} (h : k ∈ leadN N x c) : rPa N k = (c : Int) ∧ k < N.length := ⟨(kids_lt (List.mem_filter.mp h).1).2, (kids_lt (List.mem_filter.mp h).1).1⟩
/-- the items' parts with a name -/
def itX (N : List Nd) (x : Int) (j : Nat) : List Nat := if rTy N j = 3 then leadN N x j else []
theorem itX_nodup {x : Int} {c : Nat} : ((kids N c).flatMap (itX N x)).Nodup := by
  refine nodup_flat kids_nodup (fun a _ => ?_) (fun a _ b _ j ha hb => ?_)
  · unfold itX
    split
    · exact List.Pairwise.filter _ kids_nodup
    · exact List.Pairwise.nil
  · unfold itX at ha hb
    split at ha
    · split at hb
      · exact nat_cast_inj ((lead_mem ha).1.symm.trans (lead_mem hb).1)
      · cases hb
    · cases ha
theorem itX_mem {x : Int} {c j : Nat} (h : j ∈ (kids N c).flatMap (itX N x)) : ∃ z : Nat, rPa N j = (z : Int) ∧ rPa N z = (c : Int) ∧ rTy N z = 3 := by
  obtain ⟨z, hz, hj⟩ := List.mem_flatMap.mp h
  unfold itX at hj
  split at hj
  · next t => exact ⟨z, (lead_mem hj).1, (kids_lt hz).2, t⟩
  · cases hj
theorem step_eq {x : Int} {k : Nat} : stepN N x k = if rTy N k = 3 then leadN N x k else if rTy N k = 4 then (kids N k).flatMap (itX N x) else [] := rfl
theorem step_nodup {x : Int} {k : Nat} : (stepN N x k).Nodup := by
  rw [step_eq]
  split
  · exact List.Pairwise.filter _ kids_nodup
  · split
    · exact itX_nodup
    · exact List.Pairwise.nil
theorem come_nodup (hA : Acc B 3 0 N) : ∀ i, i ≤ p.length → (comeN N (p.take i)).Nodup := by
  intro i
  induction i with
  | zero => intro _; exact List.nodup_cons.mpr ⟨by simp, List.Pairwise.nil⟩
  | succ i ih =>
    intro hi
    have hi' : i < p.length := by omega
    have e : p.take (i + 1) = p.take i ++ [p.getD i 0] := by
      rw [List.take_succ, List.getD_eq_getElem?_getD, List.getElem?_eq_getElem hi']
      rfl
    rw [e, come_succ]
    have hol : ∀ a ∈ comeN N (p.take i), ∀ b : Nat, rPa N a = (b : Int) → rTy N b = 3 := fun a ha b hb => by
      obtain ⟨-, -, h0, h1⟩ := (mem_come hA i (by omega) a).mp ha
      rcases Nat.eq_zero_or_pos i with i0 | ip
      · have a0 := h0 i0
        subst a0
        have := (root_ty hA).2.2
        omega
      · obtain ⟨-, c, hc, t⟩ := h1 ip
        have : b = c := by omega
        rw [this]
        exact t
    refine nodup_flat (ih (by omega)) (fun a _ => step_nodup) (fun a ha b hb j hja hjb => ?_)
    rw [step_eq] at hja hjb
    split at hja
    · next ta =>
      split at hjb
      · exact nat_cast_inj ((lead_mem hja).1.symm.trans (lead_mem hjb).1)
      · split at hjb
        · next tb =>
          obtain ⟨z, z1, z2, z3⟩ := itX_mem hjb
          have ez : a = z := nat_cast_inj ((lead_mem hja).1.symm.trans z1)
          subst ez
          have := hol a ha b z2
          omega
        · cases hjb
    · split at hja
      · next ta =>
        obtain ⟨z, z1, z2, z3⟩ := itX_mem hja
        split at hjb
        · next tb =>
          have ez : b = z := nat_cast_inj ((lead_mem hjb).1.symm.trans z1)
          subst ez
          have := hol b hb a z2
          omega
        · split at hjb
          · obtain ⟨w, w1, w2, w3⟩ := itX_mem hjb
            have ez : z = w := nat_cast_inj (z1.symm.trans w1)
            subst ez
            exact nat_cast_inj (z2.symm.trans w2)
          · cases hjb
      · cases hja
theorem come_len (hA : Acc B 3 0 N) {i : Nat} (hi : i ≤ p.length) : (comeN N (p.take i)).length ≤ N.length := nodup_len _ _ (come_nodup hA i hi) (fun k hk => ((mem_come hA i hi k).mp hk).1)
/-- the items of what one comes to -/
def itK (N : List Nd) (k : Nat) : List Nat := if rTy N k = 4 then kids N k else []
theorem gath_eq : gathN N p = comeN N p ++ (comeN N p).flatMap (itK N) := rfl
theorem itK_len (hA : Acc B 3 0 N) : ((comeN N p).flatMap (itK N)).length ≤ N.length := by
  have hn := come_nodup (p := p) hA p.length (Nat.le_refl _)
  rw [List.take_length] at hn
  refine nodup_len _ _ (nodup_flat hn (fun a _ => ?_) (fun a _ b _ j ha hb => ?_)) (fun k hk => ?_)
  · unfold itK
    split
    · exact kids_nodup
    · exact List.Pairwise.nil
  · unfold itK at ha hb
    split at ha
    · split at hb
      · exact nat_cast_inj ((kids_lt ha).2.symm.trans (kids_lt hb).2)
      · cases hb
    · cases ha
  · obtain ⟨a, _, h⟩ := List.mem_flatMap.mp hk
    unfold itK at h
    split at h
    · exact (kids_lt h).1
    · cases h
end NODUP
/-- the list that one is at -/
def cur (M : Mm_) (o : Nat) (N : List Nd) (L : List Nat) : Prop := ∀ i, i < L.length → M.2.1 100 i = zI (rTy N (L.getD i 0)) ∧ M.2.1 101 i = zI ((o : Int) + ((rPl N (L.getD i 0) : Nat) : Int))
def pTn (a _j : Nat) : Prop := a = 100 ∨ a = 101
theorem nxt.keptp {p : Nat → Nat → Prop} {M M' : Mm_} {o : Nat} {N : List Nd} {L : List Nat} (h : nxt M o N L) (f : Fp p M M') (h1 : ¬ p 91 13) (h2 : ∀ j, ¬ p 102 j) (h3 : ∀ j, ¬ p 103 j) : nxt M' o N L := ⟨by rw [f.2.2 _ _ h1]; exact h.1, fun i hi => by rw [f.2.2 _ _ (h2 _), f.2.2 _ _ (h3 _)]; exact h.2 i hi⟩
theorem cur.keptp {p : Nat → Nat → Prop} {M M' : Mm_} {o : Nat} {N : List Nd} {L : List Nat} (h : cur M o N L) (f : Fp p M M') (h2 : ∀ j, ¬ p 100 j) (h3 : ∀ j, ¬ p 101 j) : cur M' o N L := fun i hi => by rw [f.2.2 _ _ (h2 _), f.2.2 _ _ (h3 _)]; exact h i hi
section MCOME
variable {G : Nat × (Nat → Int32)} {d o : Nat} {B : List Int} {N : List Nd}
theorem turn_l {L : List Nat} (hl : L.length ≤ 128) : ∀ (m k : Nat) (M : Mm_), k + m = L.length → WM M → nxt M o N L → (∀ i, i < k → M.2.1 100 i = zI (rTy N (L.getD i 0)) ∧ M.2.1 101 i = zI ((o : Int) + ((rPl N (L.getD i 0) : Nat) : Int))) →
    ∃ M', EvC G d m_M_turn 2 [some (.ref 91), some (.int (zI (k : Int)))] [] M (none, M') ∧ cur M' o N L ∧ Fp pTn M M'
  | 0, k, M, hk, hW, h, hc => by
    refine ⟨M, ev_M_turn_2 ?_, fun i hi => hc i (by omega), Fp.rf⟩
    rw [h.1, if_neg (fun q => by rw [zI_lt ⟨by omega, by omega⟩ ⟨by omega, by omega⟩] at q; omega)]
    exact ⟨okF_W hW rfl, rfl⟩
  | m + 1, k, M, hk, hW, h, hc => by
    obtain ⟨h1, h2⟩ := h.2 k (by omega)
    let M1 := am_setI M 100 k (zI (rTy N (L.getD k 0)))
    let M2 := am_setI M1 101 k (zI ((o : Int) + ((rPl N (L.getD k 0) : Nat) : Int)))
    have f2 : Fp pTn M M2 := Fp.tr (Fp.set (Or.inl rfl)) (Fp.set (Or.inr rfl))
    have hW1 : WM M1 := WM_setI hW
    obtain ⟨M', e, w1, w2⟩ := turn_l hl m (k + 1) M2 (by omega) (f2.WM hW) (h.keptp f2 (by unfold pTn; omega) (fun j => by unfold pTn; omega) (fun j => by unfold pTn; omega)) (fun i hi => by
      by_cases c : i = k
      · subst c
        constructor
        · show (am_setI M1 101 _ _).2.1 100 i = _
          rw [setI_cell (by decide)]
          exact setI_self
        · exact setI_self
      · have := hc i (by omega)
        constructor
        · show (am_setI M1 101 _ _).2.1 100 i = _
          rw [setI_cell (by decide)]
          show (am_setI M 100 _ _).2.1 100 i = _
          rw [setI_idx c]
          exact this.1
        · show (am_setI M1 101 _ _).2.1 101 i = _
          rw [setI_idx c]
          show (am_setI M 100 _ _).2.1 101 i = _
          rw [setI_cell (by decide)]
          exact this.2)
    refine ⟨M', ev_M_turn_2 ?_, w1, f2.tr w2⟩
    rw [h.1, if_pos ((zI_lt ⟨by omega, by omega⟩ ⟨by omega, by omega⟩).mpr (by omega)), zI_nat (by omega), show M.2.1 (91 + 11) k = zI (rTy N (L.getD k 0)) from h1, setI_cell (show (91 + 12 : Nat) ≠ 91 + 9 by decide), show M.2.1 (91 + 12) k = zI ((o : Int) + ((rPl N (L.getD k 0) : Nat) : Int)) from h2, zI_add, show (k : Int) + 1 = ((k + 1 : Nat) : Int) by omega]
    exact ⟨okF_W hW rfl, okF_W hW rfl, okF_W hW rfl, okA_z hW (show sg0[91 + 11]? = some (.inr (0, 128)) from rfl) (by omega) (by omega), okA_z hW (show sg0[91 + 9]? = some (.inr (0, 128)) from rfl) (by omega) (by omega), okF_W hW1 rfl, okF_W hW1 rfl, okA_z hW1 (show sg0[91 + 12]? = some (.inr (0, 128)) from rfl) (by omega) (by omega), okA_z hW1 (show sg0[91 + 10]? = some (.inr (0, 128)) from rfl) (by omega) (by omega), e⟩
theorem e_M_turn {M : Mm_} {L : List Nat} (hl : L.length ≤ 128) (hW : WM M) (h : nxt M o N L) : ∃ M', Ev G d 120 [.ref 91] M (none, M') ∧ cur M' o N L ∧ Fp pTn M M' := by
  obtain ⟨M', e, w1, w2⟩ := turn_l (G := G) (d := d) hl L.length 0 M (by omega) hW h (fun i hi => absurd hi (by omega))
  exact ⟨M', ev_of (q := mt_M_turn) rfl (ev_M_turn_0 e), w1, w2⟩
/-- an array's items one behind the other -/
theorem rSt_rEn4 {c k : Nat} (hN : NdOk B N k) (hk : rPa N k = (c : Int)) (ht : rTy N c = 4) : rPl N k = rSt N k + 1 ∧ rPl N k ≤ rEn B N k ∧ by_ B (rSt N k) = rTy N k ∧ (rTy N k = 1 ∨ rTy N k = 5 ∨ rTy N k = 6 ∨ rPl N k < B.length) := by
  obtain ⟨h1, h2, h3, h4, h5, h6⟩ := hN
  obtain ⟨k1, k2, k3, k4, k5⟩ := h4 c hk
  have k5 := k5 ht
  refine ⟨k5.1, ?_, k3, ?_⟩
  · unfold rEn bh
    split
    · omega
    · split
      · omega
      · split
        · omega
        · split <;> omega
  · by_cases c2 : rTy N k = 2
    · exact Or.inr (Or.inr (Or.inr (by_lt (h5 c2).1)))
    · by_cases c3 : isC (rTy N k)
      · exact Or.inr (Or.inr (Or.inr (by_lt (h6 c3))))
      · unfold isC at c3
        omega
theorem Chn_le4 {c : Nat} (ht : rTy N c = 4) : ∀ (ks : List Nat) (a z : Nat), (∀ k ∈ ks, NdOk B N k ∧ rPa N k = (c : Int)) → Chn B N ks a z → a ≤ z
  | [], a, z, _, h => Nat.le_of_eq h
  | k :: r, a, z, hk, h => by
    obtain ⟨h1, h2⟩ := h
    have := Chn_le4 ht r _ z (fun k' hk' => hk k' (List.mem_cons_of_mem _ hk')) h2
    obtain ⟨g1, g2⟩ := hk k List.mem_cons_self
    have := rSt_rEn4 g1 g2 ht
    omega
/-- what an item gives -/
def itG (N : List Nd) (ox : Option Int) (j : Nat) : List Nat := match ox with
  | none => [j]
  | some x => itX N x j
theorem items_l {c j z : Nat} {i : Int} {P : List (List Int)} {x1 : Int32} {ox : Option Int} (hA : Acc B 3 0 N) (hj : j < 6) (hi : (ox = none ∧ i = -1) ∨ (0 ≤ i ∧ i.toNat < P.length ∧ ox = some ((pks P).getD i.toNat 0))) (ht : rTy N c = 4) (hz : z < B.length) : ∀ (ks : List Nat) (a : Nat) (M : Mm_) (L : List Nat), mIn M o B → mPth M j P → (∀ k ∈ ks, k < N.length ∧ rPa N k = (c : Int)) → Chn B N ks a z → nxt M o N L → L.length + (ks.flatMap (itG N ox)).length ≤ 128 →
    ∃ M', EvC G (d + 4) m_M_items 17 [some (.ref 91), some (.int x1), some (.int (zI (j : Int))), some (.int (zI i)), some (.int (zI ((o : Int) + (z : Int)))), some (.int (zI ((o : Int) + (a : Int))))] [] M (none, M') ∧ nxt M' o N (L ++ ks.flatMap (itG N ox)) ∧ Fp pNx M M'
  | [], a, M, L, h, hP, hk, hc, hL, hl => by
    have hq := h.2.2.2
    have hc : a = z := hc
    refine ⟨M, ev_M_items_17 ?_, by rw [List.flatMap_nil, List.append_nil]; exact hL, Fp.rf⟩
    rw [if_neg (fun q => by rw [zI_lt ⟨by omega, by omega⟩ ⟨by omega, by omega⟩] at q; omega)]
  | k :: r, a, M, L, h, hP, hk, hc, hL, hl => by
    have hq := h.2.2.2
    have hPl := hP.1
    obtain ⟨hc1, hc2⟩ := hc
    obtain ⟨g0, g2⟩ := hk k List.mem_cons_self
    have g1 := hA.2.2.1 k g0
    have hr := fun k' hk' => hk k' (List.mem_cons_of_mem _ hk')
    obtain ⟨e1, e2, e3, e5⟩ := rSt_rEn4 g1 g2 ht
    have hle := Chn_le4 ht r _ z (fun k' hk' => ⟨hA.2.2.1 k' (hr k' hk').1, (hr k' hk').2⟩) hc2
    have hty : 1 ≤ rTy N k ∧ rTy N k ≤ 6 := ⟨g1.1, g1.2.1⟩
    subst hc1
    have hsl : rSt N k < B.length := by omega
    have eP : zI ((o : Int) + ((rSt N k : Nat) : Int)) + zI 1 = zI ((o : Int) + ((rPl N k : Nat) : Int)) := by rw [zI_add, show (o : Int) + ((rSt N k : Nat) : Int) + 1 = (o : Int) + ((rPl N k : Nat) : Int) by omega]
    rw [List.flatMap_cons] at hl ⊢
    rw [List.length_append] at hl
    -- the round's end
    have fin : ∀ M1 : Mm_, Fp pNx M M1 → nxt M1 o N (L ++ itG N ox k) → ∃ M', EvC G (d + 4) m_M_items 95 [some (.ref 91), some (.int x1), some (.int (zI (j : Int))), some (.int (zI i)), some (.int (zI ((o : Int) + (z : Int)))), some (.int (zI ((o : Int) + ((rSt N k : Nat) : Int))))] [] M1 (none, M') ∧ nxt M' o N (L ++ (itG N ox k ++ r.flatMap (itG N ox))) ∧ Fp pNx M M' := fun M1 f1 n1 => by
      have h1 : mIn M1 o B := h.keptp f1 (fun i hi => by unfold pNx; omega)
      have hP1 : mPth M1 j P := hP.keptp f1 (by unfold pNx; omega) (fun i _ _ => by unfold pNx; omega)
      obtain ⟨M', e, w1, w2⟩ := items_l hA hj hi ht hz r _ M1 (L ++ itG N ox k) h1 hP1 hr hc2 n1 (by rw [List.length_append]; omega)
      refine ⟨M', ev_M_items_95 ?_, by rw [← List.append_assoc]; exact w1, f1.tr w2⟩
      rw [mI h1 hsl, e3, eP]
      exact ⟨okF_W h1.1 rfl, mOk h1 hsl, okO_W h1.1 rfl, _, _, e_M_behind h1 hty e5, ev_M_items_110 e⟩
    rcases hi with ⟨ho, hi⟩ | ⟨hi0, hi1, ho⟩
    · subst ho hi
      have eg : itG N none k = [k] := rfl
      rw [eg] at fin hl ⊢
      simp only [List.length_singleton] at hl
      have hl1 : L.length < 128 := by omega
      have f1 : Fp pNx M (am_setI (am_setI (am_setI M 102 L.length (zI (rTy N k))) 103 L.length (zI ((o : Int) + ((rPl N k : Nat) : Int)))) 91 13 (zI ((L.length + 1 : Nat) : Int))) := Fp.tr (Fp.tr (Fp.set (Or.inr (Or.inl rfl))) (Fp.set (Or.inr (Or.inr rfl)))) (Fp.set (Or.inl ⟨rfl, rfl⟩))
      obtain ⟨M', e, w1, w2⟩ := fin _ f1 (nxt_add hL rfl)
      refine ⟨M', ev_M_items_17 ?_, w1, w2⟩
      have hW1 : ∀ x, WM (am_setI M (91 + 11) L.length x) := fun x => WM_setI h.1
      have hW2 : ∀ x y, WM (am_setI (am_setI M (91 + 11) L.length x) (91 + 12) L.length y) := fun x y => WM_setI (WM_setI h.1)
      rw [if_pos ((zI_lt ⟨by omega, by omega⟩ ⟨by omega, by omega⟩).mpr (by omega)), zI_0, if_pos (by decide +kernel), hL.1, zI_nat (by omega), mI h hsl, e3, eP, setI_cell (show (91 : Nat) ≠ 91 + 11 by decide), hL.1, zI_nat (by omega), setI_cell (show (91 : Nat) ≠ 91 + 12 by decide), setI_cell (show (91 : Nat) ≠ 91 + 11 by decide), hL.1, zI_add, show (L.length : Int) + 1 = ((L.length + 1 : Nat) : Int) by omega]
      exact ⟨okF_W h.1 rfl, okF_W h.1 rfl, okF_W h.1 rfl, mOk h hsl, okA_z h.1 (show sg0[91 + 11]? = some (.inr (0, 128)) from rfl) (by omega) (by omega), okF_W (hW1 _) rfl, okF_W (hW1 _) rfl, okA_z (hW1 _) (show sg0[91 + 12]? = some (.inr (0, 128)) from rfl) (by omega) (by omega), okF_W (hW2 _ _) rfl, okP_W (hW2 _ _) rfl rfl, ev_M_items_67 e⟩
    · subst ho
      have ei : zI i = zI ((i.toNat : Nat) : Int) := by rw [show ((i.toNat : Nat) : Int) = i by omega]
      have eg : itG N (some ((pks P).getD i.toNat 0)) k = if rTy N k = 3 then leadN N ((pks P).getD i.toNat 0) k else [] := rfl
      by_cases t3 : rTy N k = 3
      · rw [if_pos t3] at eg
        rw [eg] at fin hl ⊢
        obtain ⟨M1, e1', n1, f1⟩ := e_M_lead (G := G) (d := d) h hA hP hj hi1 g0 t3 hL (by omega)
        obtain ⟨M', e, w1, w2⟩ := fin M1 f1 n1
        refine ⟨M', ev_M_items_17 ?_, w1, w2⟩
        rw [if_pos ((zI_lt ⟨by omega, by omega⟩ ⟨by omega, by omega⟩).mpr (by omega)), zI_0, if_neg (fun q => by rw [zI_lt ⟨by omega, by omega⟩ ⟨by omega, by omega⟩] at q; omega), mI h hsl, e3, if_pos (by rw [t3]), eP, hL.1]
        rw [← ei] at e1'
        exact ⟨okF_W h.1 rfl, mOk h hsl, okF_W h.1 rfl, okO_W h.1 rfl, _, e1', e⟩
      · rw [if_neg t3] at eg
        rw [eg] at fin hl ⊢
        obtain ⟨M', e, w1, w2⟩ := fin M Fp.rf (by rw [List.append_nil]; exact hL)
        refine ⟨M', ev_M_items_17 ?_, w1, w2⟩
        rw [if_pos ((zI_lt ⟨by omega, by omega⟩ ⟨by omega, by omega⟩).mpr (by omega)), zI_0, if_neg (fun q => by rw [zI_lt ⟨by omega, by omega⟩ ⟨by omega, by omega⟩] at q; omega), mI h hsl, e3, if_neg (zI_ne ⟨by omega, by omega⟩ ⟨by omega, by omega⟩ t3)]
        exact ⟨okF_W h.1 rfl, mOk h hsl, e⟩
theorem e_M_items {M : Mm_} {c j : Nat} {i : Int} {P : List (List Int)} {ox : Option Int} {L : List Nat} (h : mIn M o B) (hA : Acc B 3 0 N) (hP : mPth M j P) (hj : j < 6) (hi : (ox = none ∧ i = -1) ∨ (0 ≤ i ∧ i.toNat < P.length ∧ ox = some ((pks P).getD i.toNat 0))) (hc : c < N.length) (ht : rTy N c = 4) (hL : nxt M o N L) (hl : L.length + ((kids N c).flatMap (itG N ox)).length ≤ 128) :
    ∃ M', Ev G (d + 4) 119 [.ref 91, .int (zI ((o : Int) + ((rPl N c : Nat) : Int))), .int (zI (j : Int)), .int (zI i)] M (none, M') ∧ nxt M' o N (L ++ (kids N c).flatMap (itG N ox)) ∧ Fp pNx M M' := by
  have hq := h.2.2.2
  obtain ⟨w1, w2⟩ := hA.2.2.2.1 c hc (by simp)
  obtain ⟨w3, w4, w5⟩ := w2 (Or.inr ht)
  have hpl : rPl N c < B.length := by omega
  have hb := h.2.1 _ hpl
  have hen : rEn B N c = rPl N c + (by_ B (rPl N c)).toNat := by
    unfold rEn bh
    rw [ht, if_neg (by decide), if_neg (by decide), if_neg (by decide), if_neg (by decide)]
  obtain ⟨M', e, n1, f1⟩ := items_l (G := G) (d := d) (x1 := zI ((o : Int) + ((rPl N c : Nat) : Int))) hA hj hi ht (show rEn B N c - 1 < B.length by omega) (kids N c) _ M L h hP (fun k hk => kids_lt hk) w3 hL hl
  refine ⟨M', ev_of (q := mt_M_items) rfl (ev_M_items_0 ?_), n1, f1⟩
  rw [mI h hpl, zI_add, zI_sub, zI_add, show (o : Int) + ((rPl N c : Nat) : Int) + by_ B (rPl N c) - 1 = (o : Int) + ((rEn B N c - 1 : Nat) : Int) by omega, show (o : Int) + ((rPl N c : Nat) : Int) + 1 = (o : Int) + ((rPl N c + 1 : Nat) : Int) by omega]
  exact ⟨okF_W h.1 rfl, mOk h hpl, e⟩
end MCOME
