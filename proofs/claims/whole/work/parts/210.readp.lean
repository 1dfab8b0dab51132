/-! WHAT THE PURE READER GIVES -/
theorem by_lt {B : List Int} {p : Nat} (h : 0 ≤ by_ B p) : p < B.length := by
  apply Nat.lt_of_not_le
  intro hn
  have : by_ B p = -1 := by simp [by_, List.getD_eq_getElem?_getD, List.getElem?_eq_none hn]
  omega
theorem rb_ok {B : List Int} {lo hi : Int} : ∀ (k p q : Nat), rb B lo hi k p = .inr q → q = p + k ∧ ∀ i, i < k → lo ≤ by_ B (p + i) ∧ by_ B (p + i) ≤ hi
  | 0, p, q, h => by
    have : p = q := Sum.inr.inj h
    exact ⟨by omega, fun i hi => by omega⟩
  | k + 1, p, q, h => by
    unfold rb at h
    split at h
    · next hc =>
      obtain ⟨h1, h2⟩ := rb_ok k (p + 1) q h
      refine ⟨by omega, fun i hi => ?_⟩
      cases i with
      | zero => exact hc
      | succ i =>
        have := h2 i (by omega)
        rw [show p + 1 + i = p + (i + 1) by omega] at this
        exact this
    · cases h
theorem rb_len {B : List Int} {lo hi : Int} {k p q : Nat} (h0 : 0 ≤ lo) (hp : p ≤ B.length) (h : rb B lo hi k p = .inr q) : q ≤ B.length := by
  obtain ⟨h1, h2⟩ := rb_ok k p q h
  cases k with
  | zero => omega
  | succ k =>
    have := h2 k (by omega)
    have := by_lt (B := B) (p := p + k) (by omega)
    omega
theorem rdC_plain {B : List Int} {t : Int} {p q : Nat} (ht : 1 ≤ t ∧ t ≤ 6) (hn : ¬ isC t) (hp : p ≤ B.length) (h : rdC B t p = .inr q) : q = bh B t p ∧ p ≤ q ∧ q ≤ B.length ∧ (t = 2 → 0 ≤ by_ B p ∧ by_ B p ≤ 8) := by
  have hc : t = 1 ∨ t = 2 ∨ t = 5 ∨ t = 6 := by
    unfold isC at hn
    omega
  unfold rdC at h
  unfold bh
  rcases hc with rfl | rfl | rfl | rfl
  · simp only [if_true, eq_self] at h ⊢
    have := (rb_ok _ _ _ h).1
    have := rb_len (by decide) hp h
    refine ⟨by omega, by omega, this, fun h => by omega⟩
  · simp only [show ¬ ((2 : Int) = 1) by decide, if_false, if_true, eq_self] at h ⊢
    split at h
    · cases h
    · next q1 h1 =>
      obtain ⟨e1, e2⟩ := rb_ok _ _ _ h1
      have e3 := e2 0 (by omega)
      rw [Nat.add_zero] at e3
      have l1 := rb_len (by decide) hp h1
      obtain ⟨e4, -⟩ := rb_ok _ _ _ h
      have l2 := rb_len (by decide) l1 h
      exact ⟨by omega, by omega, l2, fun _ => e3⟩
  · simp only [show ¬ ((5 : Int) = 1) by decide, show ¬ ((5 : Int) = 2) by decide, if_false, if_true, eq_self] at h ⊢
    have := (rb_ok _ _ _ h).1
    have := rb_len (by decide) hp h
    exact ⟨by omega, by omega, this, fun h => by first | exact h.elim | omega⟩
  · simp only [show ¬ ((6 : Int) = 1) by decide, show ¬ ((6 : Int) = 2) by decide, show ¬ ((6 : Int) = 5) by decide, if_false, if_true, eq_self] at h ⊢
    have := Sum.inr.inj h
    exact ⟨by omega, by omega, by omega, fun h => by first | exact h.elim | omega⟩
theorem rdC_cont {B : List Int} {t : Int} {p q : Nat} (hc : isC t) (h : rdC B t p = .inr q) : q = p + 1 ∧ 0 ≤ by_ B p ∧ q ≤ B.length := by
  have e : rdC B t p = rb B 0 255 1 p := by
    unfold rdC
    rcases hc with rfl | rfl
    · simp
    · simp
  rw [e] at h
  obtain ⟨h1, h2⟩ := rb_ok _ _ _ h
  have h3 := h2 0 (by omega)
  rw [Nat.add_zero] at h3
  have := by_lt h3.1
  exact ⟨h1, h3.1, by omega⟩
theorem nd_app_lt {N : List Nd} {x : Nd} {k : Nat} (h : k < N.length) : nd (N ++ [x]) k = nd N k := by
  simp [nd, List.getD_eq_getElem?_getD, List.getElem?_append_left h]
theorem nd_app_eq {N : List Nd} {x : Nd} : nd (N ++ [x]) N.length = x := by
  simp [nd, List.getD_eq_getElem?_getD]
theorem nd_out {N : List Nd} {k : Nat} (h : N.length ≤ k) : nd N k = (0, 0, 0, 0, -1) := by
  simp [nd, List.getD_eq_getElem?_getD, List.getElem?_eq_none h]
section APP
variable {B : List Int} {N : List Nd} {x : Nd} {k c : Nat}
theorem rTy_app (h : k < N.length) : rTy (N ++ [x]) k = rTy N k := by unfold rTy; rw [nd_app_lt h]
theorem rNm_app (h : k < N.length) : rNm (N ++ [x]) k = rNm N k := by unfold rNm; rw [nd_app_lt h]
theorem rSt_app (h : k < N.length) : rSt (N ++ [x]) k = rSt N k := by unfold rSt; rw [nd_app_lt h]
theorem rPl_app (h : k < N.length) : rPl (N ++ [x]) k = rPl N k := by unfold rPl; rw [nd_app_lt h]
theorem rPa_app (h : k < N.length) : rPa (N ++ [x]) k = rPa N k := by unfold rPa; rw [nd_app_lt h]
theorem rEn_app (h : k < N.length) : rEn B (N ++ [x]) k = rEn B N k := by unfold rEn; rw [rTy_app h, rPl_app h]
theorem kids_lt (h : k ∈ kids N c) : k < N.length ∧ rPa N k = (c : Int) := by
  unfold kids at h
  obtain ⟨h1, h2⟩ := List.mem_filter.mp h
  exact ⟨List.mem_range.mp h1, of_decide_eq_true h2⟩
theorem mem_kids (h : k < N.length) (h2 : rPa N k = (c : Int)) : k ∈ kids N c := List.mem_filter.mpr ⟨List.mem_range.mpr h, decide_eq_true h2⟩
theorem kids_app : kids (N ++ [x]) c = kids N c ++ (if x.2.2.2.2 = (c : Int) then [N.length] else []) := by
  unfold kids
  rw [List.length_append, List.length_singleton, List.range_succ, List.filter_append]
  congr 1
  · apply List.filter_congr
    intro k hk
    rw [rPa_app (List.mem_range.mp hk)]
  · have e : rPa (N ++ [x]) N.length = x.2.2.2.2 := by unfold rPa; rw [nd_app_eq]
    by_cases h : x.2.2.2.2 = (c : Int)
    · rw [if_pos h, List.filter_cons_of_pos (by rw [e]; exact decide_eq_true h)]
      rfl
    · rw [if_neg h, List.filter_cons_of_neg (by rw [e]; simpa using h)]
      rfl
theorem Chn_app : ∀ (ks : List Nat) (a z : Nat), (∀ k ∈ ks, k < N.length) → Chn B N ks a z → Chn B (N ++ [x]) ks a z
  | [], _, _, _, h => h
  | k :: r, a, z, hk, h => by
    have h0 := hk k List.mem_cons_self
    refine ⟨by rw [rSt_app h0]; exact h.1, ?_⟩
    rw [rEn_app h0]
    exact Chn_app r _ z (fun k h => hk k (List.mem_cons_of_mem _ h)) h.2
theorem Chn_snoc : ∀ (ks : List Nat) (a z : Nat), Chn B N ks a z → rSt N k = z → Chn B N (ks ++ [k]) a (rEn B N k)
  | [], a, z, h, hk => ⟨hk.trans h.symm, rfl⟩
  | j :: r, a, z, h, hk => ⟨h.1, Chn_snoc r _ z h.2 hk⟩
end APP
theorem kids_none {N : List Nd} {c : Nat} (h : ∀ k, k < N.length → rPa N k ≠ (c : Int)) : kids N c = [] := by
  unfold kids
  apply List.filter_eq_nil_iff.mpr
  intro k hk
  simpa using h k (List.mem_range.mp hk)
/-- a holder comes first -/
theorem hold_lt {B : List Int} {N : List Nd} (h : ∀ k, k < N.length → NdOk B N k) {k c : Nat} (hk : k < N.length) (hc : rPa N k = (c : Int)) : c < k := ((h k hk).2.2.2.1 c hc).1
theorem Ost_lt {B : List Int} {N : List Nd} : ∀ (S t : List Nat) (z : Nat), Ost B N S t z → ∀ c ∈ S, c < N.length
  | [], _, _, _, c, hc => by cases hc
  | a :: r, t, z, h, c, hc => by
    rcases List.mem_cons.mp hc with rfl | hc
    · exact h.1
    · exact Ost_lt r [a] _ h.2.2.2.2.2 c hc
/-- the open ones below the innermost, when a node comes that is held by the innermost -/
theorem Ost_app {B : List Int} {N : List Nd} {x : Nd} : ∀ (S t : List Nat) (z : Nat), (∀ c ∈ S, x.2.2.2.2 ≠ (c : Int)) → Ost B N S t z → Ost B (N ++ [x]) S t z
  | [], _, _, _, _ => trivial
  | c :: r, t, z, hx, h => by
    obtain ⟨h1, h2, h3, h4, ⟨ks, h5, h6⟩, h7⟩ := h
    refine ⟨by rw [List.length_append]; omega, by rw [rTy_app h1]; exact h2, by rw [rPa_app h1]; exact h3, by rw [rPl_app h1]; exact h4, ⟨ks, ?_, ?_⟩, ?_⟩
    · rw [kids_app, if_neg (hx c List.mem_cons_self), List.append_nil]
      exact h5
    · rw [rPl_app h1]
      exact Chn_app ks _ _ (fun k hk => (kids_lt (N := N) (c := c) (by rw [h5]; exact List.mem_append_left _ hk)).1) h6
    · rw [rSt_app h1]
      exact Ost_app r [c] _ (fun c hc => hx c (List.mem_cons_of_mem _ hc)) h7
theorem Ost_not {B : List Int} {N : List Nd} {c : Nat} {r : List Nat} (hn : (c :: r).Nodup) : ∀ d ∈ r, (c : Int) ≠ (d : Int) := by
  intro d hd e
  have : c = d := by omega
  subst this
  exact (List.nodup_cons.mp hn).1 hd
set_option maxHeartbeats 1000000 in
/-- a value comes -/
theorem rdV_inv {B : List Int} {P P' : Rs} {t x : Int} {s q : Nat} (hP : RInv B P) (ht : 1 ≤ t ∧ t ≤ 6) (hd : isC t → P.2.2.length < 4) (hqB : q ≤ B.length) (hlen : P.2.1.length + 1 ≤ q ∨ (isC t ∧ P.2.1.length ≤ q)) (hPq : P.1 ≤ q)
    (hh : ∀ c r, P.2.2 = c :: r → s = P.1 ∧ by_ B s = t ∧ (rTy P.2.1 c = 3 → NmAt B (s + 1) x q ∧ hasNm P.2.1 (c : Int) x = false) ∧ (rTy P.2.1 c = 4 → q = s + 1 ∧ x = 0))
    (hroot : P.2.2 = [] → P.2.1 = []) (h : rdV B P t x s q = .inr P') : RInv B P' ∧ q ≤ P'.1 := by
  obtain ⟨z, N, S⟩ := P
  dsimp only at hP hd hlen hPq hh hroot
  obtain ⟨i1, i2, i3, i4, i5, i6, i7, i8⟩ := hP
  dsimp only at i1 i2 i3 i4 i5 i6 i7 i8
  unfold rdV at h
  dsimp only at h
  cases hc : rdC B t q with
  | inl f => rw [hc] at h; cases h
  | inr q' =>
    rw [hc] at h
    dsimp only at h
    have h := Sum.inr.inj h
    subst h
    have hlt : ∀ k, k < N.length → k < (N ++ [(t, x, s, q, opn S)]).length := fun k hk => by rw [List.length_append]; omega
    have eT : rTy (N ++ [(t, x, s, q, opn S)]) N.length = t := by unfold rTy; rw [nd_app_eq]
    have eN : rNm (N ++ [(t, x, s, q, opn S)]) N.length = x := by unfold rNm; rw [nd_app_eq]
    have eS : rSt (N ++ [(t, x, s, q, opn S)]) N.length = s := by unfold rSt; rw [nd_app_eq]
    have eP : rPl (N ++ [(t, x, s, q, opn S)]) N.length = q := by unfold rPl; rw [nd_app_eq]
    have eA : rPa (N ++ [(t, x, s, q, opn S)]) N.length = opn S := by unfold rPa; rw [nd_app_eq]
    have eE : rEn B (N ++ [(t, x, s, q, opn S)]) N.length = bh B t q := by unfold rEn; rw [eT, eP]
    have hq' : q ≤ q' ∧ q' ≤ B.length ∧ N.length + 1 ≤ q' ∧ (t = 2 → 0 ≤ by_ B q ∧ by_ B q ≤ 8) ∧ (isC t → q' = q + 1 ∧ 0 ≤ by_ B q) ∧ (¬ isC t → q' = bh B t q) := by
      by_cases hC : isC t
      · obtain ⟨a1, a2, a3⟩ := rdC_cont hC hc
        refine ⟨by omega, a3, by omega, fun e => ?_, fun _ => ⟨a1, a2⟩, fun n => absurd hC n⟩
        unfold isC at hC
        omega
      · obtain ⟨a1, a2, a3, a4⟩ := rdC_plain ht hC hqB hc
        refine ⟨a2, a3, ?_, a4, fun n => absurd n hC, fun _ => a1⟩
        rcases hlen with hlen | ⟨hlen, -⟩
        · omega
        · exact absurd hlen hC
    obtain ⟨b1, b2, b3, b4, b5, b6⟩ := hq'
    have hcase : ∀ k, k < (N ++ [(t, x, s, q, opn S)]).length → k < N.length ∨ k = N.length := fun k hk => by
      rw [List.length_append, List.length_singleton] at hk
      omega
    have key3 : ∀ k, k < (N ++ [(t, x, s, q, opn S)]).length → NdOk B (N ++ [(t, x, s, q, opn S)]) k := by
      intro k hk
      rcases hcase k hk with hk | rfl
      · obtain ⟨n1, n2, n3, n4, n5, n6⟩ := i3 k hk
        unfold NdOk
        rw [rTy_app hk, rPa_app hk, rSt_app hk, rNm_app hk, rPl_app hk]
        refine ⟨n1, n2, n3, fun c hc => ?_, n5, n6⟩
        obtain ⟨m1, m2, m3, m4, m5⟩ := n4 c hc
        rw [rTy_app (by omega)]
        exact ⟨m1, m2, m3, m4, m5⟩
      · unfold NdOk
        rw [eT, eN, eS, eP, eA]
        refine ⟨ht.1, ht.2, ?_, fun c hc => ?_, b4, fun hC => (b5 hC).2⟩
        · cases S with
          | nil => exact Int.le_refl _
          | cons c r => show (-1 : Int) ≤ (c : Int); omega
        · cases S with
          | nil =>
            have hc : (-1 : Int) = (c : Int) := hc
            omega
          | cons c' r =>
            have hc : (c' : Int) = (c : Int) := hc
            have e : c' = c := by omega
            subst e
            obtain ⟨g1, g2, g3, g4⟩ := hh c' r rfl
            have hcN : c' < N.length := i4.1
            rw [rTy_app hcN]
            exact ⟨hcN, i4.2.1, g2, fun e3 => (g3 e3).1, fun e4 => ⟨(g4 e4).1, (g4 e4).2⟩⟩
    have key6 : Dif (N ++ [(t, x, s, q, opn S)]) := by
      intro i j hij hj hpa c hpc hty
      rcases hcase j hj with hj | rfl
      · have hi : i < N.length := by omega
        rw [rPa_app hi, rPa_app hj] at hpa
        rw [rPa_app hi] at hpc
        have hcl := hold_lt i3 hi hpc
        rw [rTy_app (by omega)] at hty
        rw [rNm_app hi, rNm_app hj]
        exact i6 i j hij hj hpa c hpc hty
      · rw [rPa_app hij, eA] at hpa
        rw [rPa_app hij] at hpc
        rw [rNm_app hij, eN]
        cases S with
        | nil =>
          have hpa : rPa N i = -1 := hpa
          omega
        | cons c' r =>
          have hpa : rPa N i = (c' : Int) := hpa
          have e : c' = c := by omega
          subst e
          have hcN : c' < N.length := i4.1
          rw [rTy_app hcN] at hty
          obtain ⟨g1, g2, g3, g4⟩ := hh c' r rfl
          have g5 := (g3 hty).2
          intro e
          have : hasNm N (c' : Int) x = true := List.any_eq_true.mpr ⟨i, List.mem_range.mpr hij, decide_eq_true ⟨hpa, e⟩⟩
          rw [this] at g5
          cases g5
    have hold0 : ∀ k, k < (N ++ [(t, x, s, q, opn S)]).length → rPa (N ++ [(t, x, s, q, opn S)]) k ≠ (N.length : Int) := by
      intro k hk e
      rcases hcase k hk with hk | rfl
      · rw [rPa_app hk] at e
        have := hold_lt i3 hk e
        omega
      · rw [eA] at e
        cases S with
        | nil =>
          have e : (-1 : Int) = (N.length : Int) := e
          omega
        | cons c r =>
          have e : (c : Int) = (N.length : Int) := e
          have := i4.1
          omega
    have hnk : kids (N ++ [(t, x, s, q, opn S)]) N.length = [] := kids_none hold0
    -- the closed ones that were there
    have key5 : ∀ c, c < N.length → c ∉ S → rEn B (N ++ [(t, x, s, q, opn S)]) c ≤ q' ∧ (isC (rTy (N ++ [(t, x, s, q, opn S)]) c) → Chn B (N ++ [(t, x, s, q, opn S)]) (kids (N ++ [(t, x, s, q, opn S)]) c) (rPl (N ++ [(t, x, s, q, opn S)]) c + 1) (rEn B (N ++ [(t, x, s, q, opn S)]) c - 1) ∧ by_ B (rEn B (N ++ [(t, x, s, q, opn S)]) c - 1) = 0 ∧ rPl (N ++ [(t, x, s, q, opn S)]) c + 2 ≤ rEn B (N ++ [(t, x, s, q, opn S)]) c) := by
      intro c hcN hcS
      rw [rEn_app hcN, rTy_app hcN, rPl_app hcN]
      obtain ⟨c1, c2⟩ := i5 c hcN hcS
      refine ⟨by omega, fun hC => ?_⟩
      obtain ⟨c3, c4, c5⟩ := c2 hC
      refine ⟨?_, c4, c5⟩
      rw [kids_app, if_neg, List.append_nil]
      · exact Chn_app _ _ _ (fun k hk => (kids_lt hk).1) c3
      · show ¬ opn S = (c : Int)
        intro e
        cases S with
        | nil =>
          have e : (-1 : Int) = (c : Int) := e
          omega
        | cons c' r =>
          have e : (c' : Int) = (c : Int) := e
          have : c' = c := by omega
          subst this
          exact hcS List.mem_cons_self
    by_cases hC : isC t
    · have hCt : t = 3 ∨ t = 4 := hC
      rw [if_pos hCt]
      obtain ⟨e1, e2⟩ := b5 hC
      refine ⟨⟨b2, by show (N ++ [_]).length ≤ q'; rw [List.length_append, List.length_singleton]; omega, key3, ?_, ?_, key6, ?_, ?_⟩, b1⟩
      · refine ⟨by rw [List.length_append, List.length_singleton]; omega, by rw [eT]; exact hC, by rw [eA], by rw [eP]; omega, ⟨[], by rw [hnk]; rfl, by rw [eP]; show q + 1 = q'; omega⟩, ?_⟩
        rw [eS]
        cases S with
        | nil => trivial
        | cons c r =>
          obtain ⟨g1, g2, g3, g4⟩ := hh c r rfl
          obtain ⟨j1, j2, j3, j4, ⟨ks, j5, j6⟩, j7⟩ := i4
          refine ⟨by rw [List.length_append]; omega, by rw [rTy_app j1]; exact j2, by rw [rPa_app j1]; exact j3, by rw [rPl_app j1]; omega, ⟨ks, ?_, ?_⟩, ?_⟩
          · rw [kids_app, if_pos (show (t, x, s, q, opn (c :: r)).2.2.2.2 = (c : Int) from rfl), j5, List.append_nil]
          · rw [rPl_app j1, g1]
            exact Chn_app ks _ _ (fun k hk => (kids_lt (N := N) (c := c) (by rw [j5]; exact List.mem_append_left _ hk)).1) j6
          · rw [rSt_app j1]
            exact Ost_app r [c] _ (Ost_not (B := B) (N := N) i8) j7
      · intro c hcl hcS
        rcases hcase c hcl with hk | rfl
        · exact key5 c hk (fun h => hcS (List.mem_cons_of_mem _ h))
        · exact absurd List.mem_cons_self hcS
      · have := hd hC
        show (N.length :: S).length ≤ 4
        rw [List.length_cons]
        omega
      · refine List.nodup_cons.mpr ⟨fun h => ?_, i8⟩
        have := Ost_lt S [] z i4 _ h
        omega
    · have hCt : ¬ (t = 3 ∨ t = 4) := hC
      rw [if_neg hCt]
      have e1 := b6 hC
      refine ⟨⟨b2, by show (N ++ [_]).length ≤ q'; rw [List.length_append, List.length_singleton]; omega, key3, ?_, ?_, key6, i7, i8⟩, b1⟩
      · cases S with
        | nil => trivial
        | cons c r =>
          obtain ⟨g1, g2, g3, g4⟩ := hh c r rfl
          obtain ⟨j1, j2, j3, j4, ⟨ks, j5, j6⟩, j7⟩ := i4
          refine ⟨by rw [List.length_append]; omega, by rw [rTy_app j1]; exact j2, by rw [rPa_app j1]; exact j3, by rw [rPl_app j1]; omega, ⟨ks ++ [N.length], ?_, ?_⟩, ?_⟩
          · rw [kids_app, if_pos (show (t, x, s, q, opn (c :: r)).2.2.2.2 = (c : Int) from rfl), j5, List.append_nil, List.append_nil]
          · have := Chn_snoc (B := B) (N := N ++ [(t, x, s, q, opn (c :: r))]) (k := N.length) ks (rPl N c + 1) z (Chn_app ks _ _ (fun k hk => (kids_lt (N := N) (c := c) (by rw [j5]; exact List.mem_append_left _ hk)).1) j6) (by rw [eS]; exact g1)
            rw [rPl_app j1]
            rw [eE, ← e1] at this
            exact this
          · rw [rSt_app j1]
            exact Ost_app r [c] _ (Ost_not (B := B) (N := N) i8) j7
      · intro c hcl hcS
        rcases hcase c hcl with hk | rfl
        · exact key5 c hk hcS
        · refine ⟨by rw [eE, ← e1]; exact Nat.le_refl _, fun h => ?_⟩
          rw [eT] at h
          exact absurd h hC
/-- the names that are read -/
theorem rdL_ok {B : List Int} : ∀ (r : Nat) (f : Bool) (x : Int) (p : Nat) (y : Int) (q : Nat), rdL B r f x p = .inr (y, q) → ∃ ls : List Int, ls.length ≤ r ∧ (f = true → 1 ≤ r → 1 ≤ ls.length) ∧ (∀ y ∈ ls, 97 ≤ y ∧ y ≤ 122) ∧ (∀ i, i < ls.length → by_ B (p + i) = ls.getD i 0) ∧ q = p + ls.length ∧ y = ls.foldl (fun a y => a * 256 + y) x
  | 0, f, x, p, y, q, h => by
    have h := Sum.inr.inj h
    cases h
    exact ⟨[], Nat.le_refl _, fun _ h => by omega, fun y hy => (by cases hy), fun i hi => (by cases hi), rfl, rfl⟩
  | r + 1, f, x, p, y, q, h => by
    unfold rdL at h
    split at h
    · next hc =>
      have h := Sum.inr.inj h
      cases h
      exact ⟨[], by simp, fun hf _ => (by rw [hc.1] at hf; cases hf), fun y hy => (by cases hy), fun i hi => (by cases hi), rfl, rfl⟩
    · split at h
      · next hc =>
        obtain ⟨ls, l1, -, l3, l4, l5, l6⟩ := rdL_ok r false _ _ y q h
        refine ⟨by_ B p :: ls, by simp; omega, fun _ _ => by simp, fun z hz => ?_, fun i hi => ?_, by simp; omega, l6⟩
        · rcases List.mem_cons.mp hz with rfl | hz
          · exact hc
          · exact l3 z hz
        · cases i with
          | zero => rfl
          | succ i =>
            rw [List.length_cons] at hi
            have := l4 i (by omega)
            rw [show p + 1 + i = p + (i + 1) by omega] at this
            exact this
      · cases h
theorem rdN_ok {B : List Int} {N : List Nd} {o : Int} {p : Nat} {x : Int} {q : Nat} (h : rdN B N o p = .inr (x, q)) : NmAt B p x q ∧ hasNm N o x = false ∧ p + 2 ≤ q ∧ q ≤ B.length := by
  unfold rdN at h
  split at h
  · cases h
  · next y q1 h1 =>
    split at h
    · next h2 =>
      split at h
      · cases h
      · next h3 =>
        have h := Sum.inr.inj h
        cases h
        obtain ⟨ls, l1, l2, l3, l4, l5, l6⟩ := rdL_ok _ _ _ _ _ _ h1
        have l7 := l2 rfl (by omega)
        have l8 := by_lt (B := B) (p := q1) (by omega)
        refine ⟨⟨ls, l7, l1, l3, l4, by rw [← l5]; exact h2, by omega, l6⟩, by simpa using h3, by omega, by omega⟩
    · cases h
/-- one round -/
theorem rdP_inv {B : List Int} {P P' : Rs} (hP : RInv B P) (hroot : P.2.2 = [] → P.2.1 = []) (h : rdP B P = .inr P') : RInv B P' ∧ P.1 < P'.1 := by
  unfold rdP at h
  split at h
  · cases h
  · next t x q hH =>
    have hi1 := hP.1
    have hi2 := hP.2.1
    unfold rdH at hH
    split at hH
    · cases hH
    · next hdeep =>
      split at hH
      · next hty =>
        have hl := by_lt (B := B) (p := P.1) (by omega)
        have hdep : isC (by_ B P.1) → P.2.2.length < 4 := fun hC => by
          apply Nat.lt_of_not_le
          intro hn
          exact hdeep ⟨hC, hn⟩
        cases hS : P.2.2 with
        | nil =>
          rw [hS] at hH
          have hH := Sum.inr.inj hH
          cases hH
          obtain ⟨a, b⟩ := rdV_inv hP hty hdep (by omega) (Or.inl (by omega)) (by omega) (fun c r e => by rw [hS] at e; cases e) hroot h
          exact ⟨a, by omega⟩
        | cons c r =>
          rw [hS] at hH
          dsimp only at hH
          split at hH
          · next h3 =>
            split at hH
            · cases hH
            · next x' q' hN =>
              have hH := Sum.inr.inj hH
              cases hH
              obtain ⟨n1, n2, n3, n4⟩ := rdN_ok hN
              obtain ⟨a, b⟩ := rdV_inv hP hty hdep n4 (Or.inl (by omega)) (by omega) (fun c' r' e => by
                rw [hS] at e
                cases e
                exact ⟨rfl, rfl, fun _ => ⟨n1, n2⟩, fun h4 => by rw [h3] at h4; cases h4⟩) hroot h
              exact ⟨a, by omega⟩
          · next h3 =>
            have hH := Sum.inr.inj hH
            cases hH
            obtain ⟨a, b⟩ := rdV_inv hP hty hdep (by omega) (Or.inl (by omega)) (by omega) (fun c' r' e => by
              rw [hS] at e
              cases e
              exact ⟨rfl, rfl, fun h4 => absurd h4 h3, fun _ => ⟨rfl, rfl⟩⟩) hroot h
            exact ⟨a, by omega⟩
      · cases hH
theorem rdX_inv {B : List Int} {P P' : Rs} {c : Nat} {r : List Nat} (hP : RInv B P) (hS : P.2.2 = c :: r) (h0 : by_ B P.1 = 0) (h : rdX B P c r = .inr P') : RInv B P' ∧ P.1 < P'.1 := by
  obtain ⟨z, N, S⟩ := P
  dsimp only at hS h0
  subst hS
  unfold rdX at h
  dsimp only at h
  split at h
  · next hT =>
    have h := Sum.inr.inj h
    subst h
    obtain ⟨i1, i2, i3, i4, i5, i6, i7, i8⟩ := hP
    dsimp only at i1 i2 i3 i4 i5 i6 i7 i8
    obtain ⟨j1, j2, j3, j4, ⟨ks, j5, j6⟩, j7⟩ := i4
    rw [List.append_nil] at j5
    have hl := by_lt (B := B) (p := z) (by omega)
    have hen : rEn B N c = z + 1 := by
      unfold rEn bh
      have a1 : ¬ rTy N c = 1 := by unfold isC at j2; omega
      have a2 : ¬ rTy N c = 2 := by unfold isC at j2; omega
      have a5 : ¬ rTy N c = 5 := by unfold isC at j2; omega
      have a6 : ¬ rTy N c = 6 := by unfold isC at j2; omega
      rw [if_neg a1, if_neg a2, if_neg a5, if_neg a6, hT]
      omega
    refine ⟨⟨by show z + 1 ≤ _; omega, by show N.length ≤ z + 1; omega, i3, ?_, ?_, i6, ?_, (List.nodup_cons.mp i8).2⟩, by show z < z + 1; omega⟩
    · cases r with
      | nil => trivial
      | cons c2 r =>
        obtain ⟨g1, g2, g3, g4, ⟨ks2, g5, g6⟩, g7⟩ := j7
        refine ⟨g1, g2, g3, ?_, ⟨ks2 ++ [c], by rw [g5, List.append_nil], ?_⟩, g7⟩
        · have hsp : rSt N c ≤ rPl N c := by
            obtain ⟨-, m2, -, m4, m5⟩ := (i3 c j1).2.2.2.1 c2 j3
            rcases m2 with h3 | h4
            · obtain ⟨ls, -, -, -, -, -, e, -⟩ := m4 h3
              omega
            · have := (m5 h4).1
              omega
          show rPl N c2 + 1 ≤ z + 1
          omega
        · have := Chn_snoc (B := B) (N := N) (k := c) ks2 (rPl N c2 + 1) (rSt N c) g6 rfl
          rw [hen] at this
          exact this
    · intro c' hc' hcS
      by_cases e : c' = c
      · subst e
        refine ⟨by rw [hen]; exact Nat.le_refl _, fun _ => ⟨?_, by rw [hen]; exact h0, by rw [hen]; show rPl N c' + 2 ≤ z + 1; omega⟩⟩
        rw [j5, hen]
        exact j6
      · obtain ⟨c1, c2⟩ := i5 c' hc' (fun h => by
          rcases List.mem_cons.mp h with h | h
          · exact e h
          · exact hcS h)
        exact ⟨by show rEn B N c' ≤ z + 1; omega, c2⟩
    · show r.length ≤ 4
      rw [List.length_cons] at i7
      omega
  · cases h
theorem rdS_inv {B : List Int} {P P' : Rs} {c : Nat} {r : List Nat} (hP : RInv B P) (hS : P.2.2 = c :: r) (h : rdS B P = .inr P') : RInv B P' ∧ P.1 < P'.1 := by
  unfold rdS at h
  rw [hS] at h
  dsimp only at h
  split at h
  · next h0 => exact rdX_inv hP hS h0 h
  · exact rdP_inv hP (fun e => by rw [hS] at e; cases e) h
theorem rdO_inv {B : List Int} : ∀ (f : Nat) (P P' : Rs), RInv B P → rdO B f P = .inr P' → RInv B P' ∧ (P'.2.2 = [] ∨ P.1 + f ≤ P'.1)
  | 0, P, P', hP, h => by
    have h := Sum.inr.inj h
    subst h
    exact ⟨hP, Or.inr (Nat.le_refl _)⟩
  | f + 1, P, P', hP, h => by
    unfold rdO at h
    split at h
    · next hS =>
      have h := Sum.inr.inj h
      subst h
      exact ⟨hP, Or.inl hS⟩
    · next c r hS =>
      split at h
      · cases h
      · next P1 h1 =>
        obtain ⟨a1, a2⟩ := rdS_inv hP hS h1
        obtain ⟨b1, b2⟩ := rdO_inv f P1 P' a1 h
        refine ⟨b1, ?_⟩
        rcases b2 with b2 | b2
        · exact Or.inl b2
        · exact Or.inr (by omega)
/-- the whole: its first node, and all others are held -/
def Root (t : Int) (p : Nat) (N : List Nd) : Prop := 0 < N.length ∧ nd N 0 = (t, 0, 0, p, -1) ∧ ∀ k, 0 < k → k < N.length → 0 ≤ rPa N k
theorem rdV_root {B : List Int} {P P' : Rs} {t x t0 : Int} {s q p0 : Nat} (hR : Root t0 p0 P.2.1) (hS : P.2.2 ≠ []) (h : rdV B P t x s q = .inr P') : Root t0 p0 P'.2.1 := by
  unfold rdV at h
  split at h
  · cases h
  · have h := Sum.inr.inj h
    subst h
    obtain ⟨r1, r2, r3⟩ := hR
    refine ⟨by show 0 < (P.2.1 ++ [_]).length; rw [List.length_append]; omega, by show nd (P.2.1 ++ [_]) 0 = _; rw [nd_app_lt r1]; exact r2, fun k h0 hk => ?_⟩
    have hk : k < (P.2.1 ++ [(t, x, s, q, opn P.2.2)]).length := hk
    rw [List.length_append, List.length_singleton] at hk
    by_cases e : k < P.2.1.length
    · show 0 ≤ rPa (P.2.1 ++ [_]) k
      rw [rPa_app e]
      exact r3 k h0 e
    · have e : k = P.2.1.length := by omega
      subst e
      show 0 ≤ rPa (P.2.1 ++ [(t, x, s, q, opn P.2.2)]) P.2.1.length
      unfold rPa
      rw [nd_app_eq]
      cases hs : P.2.2 with
      | nil => exact absurd hs hS
      | cons c r => show (0 : Int) ≤ (c : Int); omega
theorem rdS_root {B : List Int} {P P' : Rs} {c : Nat} {r : List Nat} {t0 : Int} {p0 : Nat} (hR : Root t0 p0 P.2.1) (hS : P.2.2 = c :: r) (h : rdS B P = .inr P') : Root t0 p0 P'.2.1 := by
  unfold rdS at h
  rw [hS] at h
  dsimp only at h
  split at h
  · unfold rdX at h
    split at h
    · have h := Sum.inr.inj h
      subst h
      exact hR
    · cases h
  · unfold rdP at h
    split at h
    · cases h
    · exact rdV_root hR (by rw [hS]; exact List.cons_ne_nil _ _) h
theorem rdO_root {B : List Int} {t0 : Int} {p0 : Nat} : ∀ (f : Nat) (P P' : Rs), Root t0 p0 P.2.1 → rdO B f P = .inr P' → Root t0 p0 P'.2.1
  | 0, P, P', hR, h => by
    have h := Sum.inr.inj h
    subst h
    exact hR
  | f + 1, P, P', hR, h => by
    unfold rdO at h
    split at h
    · have h := Sum.inr.inj h
      subst h
      exact hR
    · next c r hS =>
      split at h
      · cases h
      · next P1 h1 => exact rdO_root f P1 P' (rdS_root hR hS h1) h
/-- ACCEPTED BYTES: the nodes, and how they lie -/
def Acc (B : List Int) (t0 : Int) (p0 : Nat) (N : List Nd) : Prop := Root t0 p0 N ∧ N.length ≤ B.length ∧ (∀ k, k < N.length → NdOk B N k) ∧ Cls B N [] B.length ∧ Dif N
theorem rInv0 (B : List Int) : RInv B (0, [], []) := ⟨Nat.zero_le _, Nat.le_refl _, fun k hk => (by cases hk), trivial, fun c hc => (by cases hc), fun i j _ hj => (by cases hj), by simp, List.nodup_nil⟩
theorem rdE_acc {B : List Int} {t0 : Int} {p0 : Nat} {N : List Nd} {P : Rs} (hP : RInv B P) (h0 : 0 < P.1) (hR : Root t0 p0 P.2.1) (h : rdE B (rdO B B.length P) = .inr N) : Acc B t0 p0 N := by
  cases hO : rdO B B.length P with
  | inl f => rw [hO] at h; cases h
  | inr P' =>
    rw [hO] at h
    unfold rdE at h
    dsimp only at h
    split at h
    · cases h
    · next hn =>
      have h := Sum.inr.inj h
      subst h
      obtain ⟨a1, a2⟩ := rdO_inv _ _ _ hP hO
      have hr := rdO_root _ _ _ hR hO
      obtain ⟨i1, i2, i3, i4, i5, i6, i7, i8⟩ := a1
      have hS : P'.2.2 = [] := by
        rcases a2 with a2 | a2
        · exact a2
        · omega
      have hl : P'.1 = B.length := by omega
      rw [hS, hl] at i5
      rw [hl] at i2
      exact ⟨hr, i2, i3, i5, i6⟩
theorem rdD_acc {B : List Int} {N : List Nd} (h : rdD B = .inr N) : Acc B 3 0 N := by
  unfold rdD at h
  cases hV : rdV B (0, [], []) 3 0 0 0 with
  | inl f => rw [hV] at h; cases h
  | inr P =>
    rw [hV] at h
    dsimp only at h
    have hV' := hV
    unfold rdV at hV'
    split at hV'
    · cases hV'
    · next q hq =>
      obtain ⟨e1, e2, e3⟩ := rdC_cont (Or.inl rfl) hq
      have hV' := Sum.inr.inj hV'
      obtain ⟨a1, a2⟩ := rdV_inv (rInv0 B) (t := 3) (x := 0) (s := 0) (q := 0) (by decide) (fun _ => by decide) (Nat.zero_le _) (Or.inr ⟨Or.inl rfl, Nat.le_refl _⟩) (Nat.le_refl _) (fun c r e => by cases e) (fun _ => rfl) hV
      subst hV'
      refine rdE_acc a1 (by show 0 < q; omega) ⟨by simp, rfl, fun k h0 hk => ?_⟩ h
      have hk : k < 1 := hk
      omega
theorem rdQ_acc {B : List Int} {N : List Nd} (h : rdQ B = .inr N) : Acc B (by_ B 0) 1 N := by
  unfold rdQ at h
  cases hV : rdP B (0, [], []) with
  | inl f => rw [hV] at h; cases h
  | inr P =>
    rw [hV] at h
    dsimp only at h
    obtain ⟨a1, a2⟩ := rdP_inv (rInv0 B) (fun _ => rfl) hV
    refine rdE_acc a1 (by have : (0 : Nat) < P.1 := a2; exact this) ?_ h
    unfold rdP at hV
    split at hV
    · cases hV
    · next t x q hH =>
      unfold rdH at hH
      split at hH
      · cases hH
      · split at hH
        · dsimp only at hH
          have hH := Sum.inr.inj hH
          cases hH
          unfold rdV at hV
          split at hV
          · cases hV
          · have hV := Sum.inr.inj hV
            subst hV
            refine ⟨by simp, rfl, fun k h0 hk => ?_⟩
            have hk : k < 1 := hk
            omega
        · cases hH
