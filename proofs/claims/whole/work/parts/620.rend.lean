/-! ACCEPTED BYTES end where the whole ends -/
def REn (B : List Int) (P : Rs) : Prop := P.2.2 = [] → P.1 = rEn B P.2.1 0
theorem rEn_c {B : List Int} {N : List Nd} {c : Nat} (h : isC (rTy N c)) : rEn B N c = rPl N c + (by_ B (rPl N c)).toNat := by
  unfold rEn bh
  unfold isC at h
  rw [if_neg (by omega), if_neg (by omega), if_neg (by omega), if_neg (by omega)]
theorem rdS_end {B : List Int} {P P' : Rs} {c : Nat} {r : List Nat} {t0 : Int} {p0 : Nat} (hP : RInv B P) (hR : Root t0 p0 P.2.1) (hS : P.2.2 = c :: r) (h : rdS B P = .inr P') : REn B P' := by
  obtain ⟨z, N, S⟩ := P
  dsimp only at hS hR
  subst hS
  rw [rdS_eq] at h
  split at h
  · have hX : rdX B (z, N, c :: r) c r = if by_ B (rPl N c) = (z : Int) + 1 - (rPl N c : Int) then .inr (z + 1, N, r) else .inl (rPl N c) := rfl
    rw [hX] at h
    split at h
    · next cx =>
      have h := Sum.inr.inj h
      subst h
      intro hr
      have hr : r = [] := hr
      subst hr
      obtain ⟨o1, o2, o3, o4, -, -⟩ := hP.2.2.2.1
      have o1 : c < N.length := o1
      have o3 : rPa N c = -1 := o3
      have c0 : c = 0 := by
        rcases Nat.eq_zero_or_pos c with h0 | h0
        · exact h0
        · have := hR.2.2 c h0 o1
          omega
      subst c0
      have o4 : rPl N 0 + 1 ≤ z := o4
      have o2 : isC (rTy N 0) := o2
      have cx : by_ B (rPl N 0) = (z : Int) + 1 - (rPl N 0 : Int) := cx
      show z + 1 = rEn B N 0
      rw [rEn_c o2, cx]
      omega
    · cases h
  · unfold rdP at h
    split at h
    · cases h
    · unfold rdV at h
      split at h
      · cases h
      · have h := Sum.inr.inj h
        subst h
        intro hn
        dsimp only at hn
        split at hn
        · cases hn
        · cases hn
theorem rdO_end {B : List Int} {t0 : Int} {p0 : Nat} : ∀ (f : Nat) (P P' : Rs), RInv B P → Root t0 p0 P.2.1 → REn B P → rdO B f P = .inr P' → REn B P'
  | 0, P, P', hI, hR, hE, h => by
    have h := Sum.inr.inj h
    subst h
    exact hE
  | f + 1, P, P', hI, hR, hE, h => by
    unfold rdO at h
    split at h
    · have h := Sum.inr.inj h
      subst h
      exact hE
    · next c r hS =>
      split at h
      · cases h
      · next P1 h1 => exact rdO_end f P1 P' (rdS_inv hI hS h1).1 (rdS_root hR hS h1) (rdS_end hI hR hS h1) h
theorem rdE_end {B : List Int} {t0 : Int} {p0 : Nat} {N : List Nd} {P : Rs} (hP : RInv B P) (h0 : 0 < P.1) (hR : Root t0 p0 P.2.1) (hE : REn B P) (h : rdE B (rdO B B.length P) = .inr N) : rEn B N 0 = B.length := by
  cases hO : rdO B B.length P with
  | inl f => rw [hO] at h; cases h
  | inr P' =>
    rw [hO] at h
    unfold rdE at h
    dsimp only at h
    split at h
    · cases h
    · next hn =>
      have h := Sum.inr.inj h
      subst h
      obtain ⟨a1, a2⟩ := rdO_inv _ _ _ hP hO
      have hr := rdO_end _ _ _ hP hR hE hO
      have i1 := a1.1
      have hS : P'.2.2 = [] := by
        rcases a2 with a2 | a2
        · exact a2
        · omega
      have := hr hS
      omega
theorem rdD_end {B : List Int} {N : List Nd} (h : rdD B = .inr N) : rEn B N 0 = B.length := by
  unfold rdD at h
  cases hV : rdV B (0, [], []) 3 0 0 0 with
  | inl f => rw [hV] at h; cases h
  | inr P =>
    rw [hV] at h
    dsimp only at h
    have hV' := hV
    unfold rdV at hV'
    split at hV'
    · cases hV'
    · next q hq =>
      obtain ⟨e1, e2, e3⟩ := rdC_cont (Or.inl rfl) hq
      have hV' := Sum.inr.inj hV'
      obtain ⟨a1, a2⟩ := rdV_inv (rInv0 B) (t := 3) (x := 0) (s := 0) (q := 0) (by decide) (fun _ => by decide) (Nat.zero_le _) (Or.inr ⟨Or.inl rfl, Nat.le_refl _⟩) (Nat.le_refl _) (fun c r e => by cases e) (fun _ => rfl) hV
      subst hV'
      refine rdE_end a1 (by show 0 < q; omega) (t0 := 3) (p0 := 0) ⟨by simp, rfl, fun k h0 hk => ?_⟩ (fun hn => ?_) h
      · have hk : k < 1 := hk
        omega
      · cases hn
theorem rdQ_end {B : List Int} {N : List Nd} (h : rdQ B = .inr N) : bh B (by_ B 0) 1 = B.length := by
  have hA := rdQ_acc h
  have e : rEn B N 0 = B.length := by
    unfold rdQ at h
    cases hV : rdP B (0, [], []) with
    | inl f => rw [hV] at h; cases h
    | inr P =>
      rw [hV] at h
      dsimp only at h
      obtain ⟨a1, a2⟩ := rdP_inv (rInv0 B) (fun _ => rfl) hV
      rw [rdP_nil] at hV
      split at hV
      · next c =>
        have hV' := hV
        unfold rdV at hV'
        split at hV'
        · cases hV'
        · next q hq =>
          have hV' := Sum.inr.inj hV'
          have hp : (0 : Nat) < P.1 := a2
          subst hV'
          refine rdE_end a1 hp (t0 := by_ B 0) (p0 := 1) ⟨by simp, rfl, fun k h0 hk => ?_⟩ (fun hn => ?_) h
          · have hk : k < 1 := hk
            omega
          · dsimp only at hn
            split at hn
            · cases hn
            · next ht =>
              have hl : (1 : Nat) ≤ B.length := by
                have := by_lt (B := B) (p := 0) (by omega)
                omega
              exact (rdC_plain c ht hl hq).1
      · cases hV
  have hr := hA.1.2.1
  unfold rEn rTy rPl at e
  rw [hr] at e
  exact e
/-- a document's first byte is its length -/
theorem rdD_len {B : List Int} {N : List Nd} (h : rdD B = .inr N) : by_ B 0 = (B.length : Int) ∧ 2 ≤ B.length := by
  have hA := rdD_acc h
  have e := rdD_end h
  have hr := root_ty hA
  have hc := (hA.2.2.2.1 0 hA.1.1 (by simp)).2 (Or.inl hr.1)
  rw [rEn_c (Or.inl hr.1), hr.2.1] at e
  have h2 := hc.2.2
  rw [hr.2.1, rEn_c (Or.inl hr.1), hr.2.1] at h2
  omega
