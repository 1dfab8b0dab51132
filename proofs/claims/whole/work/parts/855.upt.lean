/-! ways and lengths: facts -/
def upT (R : List Int) (ps : List Nat) (g : Int) : List Int := ps.foldl (fun R p => R.set p (by_ R p + g)) R
theorem upT_len {g : Int} : ∀ (ps : List Nat) (R : List Int), (upT R ps g).length = R.length
  | [], R => rfl
  | p :: ps, R => by
    have := upT_len (g := g) ps (R.set p (by_ R p + g))
    rw [List.length_set] at this
    exact this
theorem upT_by {g : Int} {i : Nat} : ∀ (ps : List Nat) (R : List Int), ps.Nodup → (∀ p ∈ ps, p < R.length) → by_ (upT R ps g) i = by_ R i + if i ∈ ps then g else 0
  | [], R, _, _ => by
    show by_ R i = _
    simp
  | p :: ps, R, hn, hp => by
    obtain ⟨n1, n2⟩ := List.nodup_cons.mp hn
    have hpl := hp p List.mem_cons_self
    have ih := upT_by (g := g) (i := i) ps (R.set p (by_ R p + g)) n2 (fun q hq => by rw [List.length_set]; exact hp q (List.mem_cons_of_mem _ hq))
    have e : upT R (p :: ps) g = upT (R.set p (by_ R p + g)) ps g := rfl
    rw [e, ih, by_set hpl]
    by_cases c : i = p
    · subst c
      rw [if_pos rfl, if_neg n1, if_pos List.mem_cons_self]
      omega
    · rw [if_neg c]
      by_cases c2 : i ∈ ps
      · rw [if_pos c2, if_pos (List.mem_cons_of_mem _ c2)]
      · rw [if_neg c2, if_neg (fun q => (List.mem_cons.mp q).elim (fun q => c q) (fun q => c2 q))]
theorem upT_ed {B X : List Int} {f t : Nat} {ps : List Nat} {g : Int} (hn : ps.Nodup) (hp : ∀ p ∈ ps, p < f) (hf : f ≤ t) (ht : t ≤ B.length) (hg : g = (X.length : Int) - ((t : Int) - (f : Int))) : upT (sl B 0 f ++ X ++ sl B t B.length) ps g = edB B f t X ps := by
  have l1 : (sl B 0 f).length = f := by rw [sl_len (by omega)]; omega
  have l2 : (sl B t B.length).length = B.length - t := sl_len (Nat.le_refl _)
  have ll : (sl B 0 f ++ X ++ sl B t B.length).length = f + X.length + (B.length - t) := by rw [List.length_append, List.length_append, l1, l2]
  refine by_ext (by rw [upT_len, ll, edB_len]) (fun i hi => ?_)
  rw [upT_len, ll] at hi
  rw [upT_by ps _ hn (fun p hp' => by rw [ll]; have := hp p hp'; omega)]
  by_cases c1 : i < f
  · rw [edB_lo c1, List.append_assoc, by_app (by omega), sl_by (by omega), Nat.zero_add, hg]
  · rw [if_neg (fun q => by have := hp i q; omega)]
    by_cases c2 : i < f + X.length
    · have e := edB_mid (B := B) (f := f) (t := t) (pc := X) (ps := ps) (i := i - f) (by omega)
      rw [show f + (i - f) = i by omega] at e
      rw [e, by_app (by rw [List.length_append]; omega), by_app2 (by omega), l1]
      omega
    · have e := edB_hi (B := B) (f := f) (t := t) (pc := X) (ps := ps) (i := i - f - X.length)
      rw [show f + X.length + (i - f - X.length) = i by omega] at e
      rw [e, by_app2 (by rw [List.length_append]; omega), List.length_append, l1, sl_by (by omega), show i - (f + X.length) = i - f - X.length by omega]
      omega
/-- each is held by the next, the last by none -/
def chA (N : List Nd) : List Nat → Prop
  | [] => True
  | [a] => rPa N a = -1
  | a :: b :: r => rPa N a = (b : Int) ∧ chA N (b :: r)
theorem isWy_ch {B : List Int} {N : List Nd} (hA : Acc B 3 0 N) : ∀ (W : List Nat) (c : Nat), isWy N W c → chA N (c :: W)
  | [], c, h => by
    have h : c = 0 := h
    subst h
    show rPa N 0 = -1
    unfold rPa
    rw [hA.1.2.1]
  | w :: r, c, h => ⟨h.2.1, isWy_ch hA r w h.1⟩
theorem way_nodup {B : List Int} {N : List Nd} (hA : Acc B 3 0 N) : ∀ (W : List Nat) (c : Nat), isWy N W c → ((c :: W).map (rPl N)).Nodup
  | [], c, h => by simp
  | w :: r, c, h => by
    have ih := way_nodup hA r w h.1
    rw [List.map_cons]
    refine List.nodup_cons.mpr ⟨fun q => ?_, ih⟩
    obtain ⟨v, hv, e⟩ := List.mem_map.mp q
    have := way_pl hA (w :: r) c h v hv
    omega
theorem wkR_fact {N : List Nd} : ∀ (xs : List Int) (c : Nat) (W W' : List Nat) (c' : Nat) (e' : Int), wkR N xs c W = some (W', c', e') → isWy N W c → isWy N W' c' ∧ W.length ≤ W'.length ∧ (xs ≠ [] → W'.length + 1 ≤ W.length + xs.length) ∧ (e' = -1 ∨ ∃ e : Nat, e' = (e : Int) ∧ e < N.length ∧ rPa N e = (c' : Int) ∧ W'.length + 1 = W.length + xs.length)
  | [], c, W, W', c', e', h, hw => by
    have h : some (W, c, (-1 : Int)) = some (W', c', e') := h
    obtain ⟨h1, h2⟩ := Prod.mk.inj (Option.some.inj h)
    obtain ⟨h2, h3⟩ := Prod.mk.inj h2
    subst h1; subst h2
    exact ⟨hw, Nat.le_refl _, fun q => absurd rfl q, Or.inl h3.symm⟩
  | x :: xs, c, W, W', c', e', h, hw => by
    unfold wkR at h
    by_cases c1 : elV N c x = -1
    · rw [if_pos c1] at h
      obtain ⟨h1, h2⟩ := Prod.mk.inj (Option.some.inj h)
      obtain ⟨h2, h3⟩ := Prod.mk.inj h2
      subst h1; subst h2
      exact ⟨hw, Nat.le_refl _, fun _ => by rw [List.length_cons]; omega, Or.inl h3.symm⟩
    · rw [if_neg c1] at h
      have ef := elV_fact c1
      have em := (elV_mem c1).2
      by_cases c2 : xs = []
      · rw [if_pos c2] at h
        obtain ⟨h1, h2⟩ := Prod.mk.inj (Option.some.inj h)
        obtain ⟨h2, h3⟩ := Prod.mk.inj h2
        subst h1; subst h2
        refine ⟨hw, Nat.le_refl _, fun _ => by rw [List.length_cons]; omega, Or.inr ⟨(elV N c x).toNat, ?_, ef.1, ef.2.1, by rw [c2]; rfl⟩⟩
        rw [← h3]; exact em
      · rw [if_neg c2] at h
        by_cases c3 : rTy N (elV N c x).toNat = 3
        · rw [if_pos c3] at h
          obtain ⟨i1, i2, i3, i4⟩ := wkR_fact xs _ (c :: W) W' c' e' h ⟨hw, ef.2.1, c3, ef.1⟩
          have i3 := i3 c2
          rw [List.length_cons] at i2 i3 i4
          rw [List.length_cons]
          refine ⟨i1, by omega, fun _ => by omega, ?_⟩
          rcases i4 with i4 | ⟨e, q1, q2, q3, q4⟩
          · exact Or.inl i4
          · exact Or.inr ⟨e, q1, q2, q3, by omega⟩
        · rw [if_neg c3] at h
          cases h
/-- a document's or array's length as it stands in the bytes -/
theorem len_T {B : List Int} {N : List Nd} (hA : Acc B 3 0 N) {c : Nat} (hc : c < N.length) (ht : isC (rTy N c)) : by_ B (rPl N c) = (rEn B N c : Int) - (rPl N c : Int) ∧ rPl N c + 2 ≤ rEn B N c ∧ rEn B N c ≤ B.length := by
  have h0 := (hA.2.2.1 c hc).2.2.2.2.2 ht
  have he := rEn_c (B := B) ht
  obtain ⟨w1, w2⟩ := hA.2.2.2.1 c hc (by simp)
  have w5 := (w2 ht).2.2
  exact ⟨by omega, w5, w1⟩
/-- the letters of an element's name -/
theorem nm_of {B : List Int} {N : List Nd} (hA : Acc B 3 0 N) {c e : Nat} (he : e < N.length) (hp : rPa N e = (c : Int)) (ht : rTy N c = 3) : ∃ ls, isN ls ∧ rNm N e = pk ls ∧ nmB B N e = ls ++ [0] ∧ rPl N e = rSt N e + ls.length + 2 ∧ rPl N e ≤ B.length := by
  obtain ⟨-, e2, -, e4, -⟩ := rSt_rEn (hA.2.2.1 e he) hp ht
  have hw := withn hA he hp
  obtain ⟨ls, a1, a2, a3, a4, a5, a6, a7⟩ := e4
  refine ⟨ls, ⟨a1, a2, a3⟩, a7, ?_, by omega, by omega⟩
  unfold nmB
  refine by_ext (by rw [sl_len (by omega), List.length_append, List.length_singleton]; omega) (fun i hi => ?_)
  rw [sl_len (by omega)] at hi
  rw [sl_by (by omega)]
  by_cases c1 : i < ls.length
  · rw [by_app c1, a4 i c1]
    unfold by_
    rw [List.getD_eq_getElem?_getD, List.getElem?_eq_getElem c1, List.getD_eq_getElem?_getD, List.getElem?_eq_getElem c1]
    rfl
  · have : i = ls.length := by omega
    rw [this, a5, by_app2 (Nat.le_refl _), Nat.sub_self]
    rfl
/-! the items of an array -/
theorem itm_len {B : List Int} {N : List Nd} (hA : Acc B 3 0 N) {c k : Nat} (hk : k < N.length) (hc : rPa N k = (c : Int)) : (itm B N k).length = rEn B N k - rSt N k ∧ rSt N k + 1 ≤ rEn B N k := by
  have g := withn hA hk hc
  unfold itm
  exact ⟨sl_len (by omega), by omega⟩
theorem oth_cons {B : List Int} {N : List Nd} {Q : List Int} {k : Nat} {ks : List Nat} : othL B N Q (k :: ks) = (if val B (rTy N k) (rPl N k) = val Q (by_ Q 0) 1 then [] else itm B N k) ++ othL B N Q ks := by
  unfold othL
  by_cases c : val B (rTy N k) (rPl N k) = val Q (by_ Q 0) 1
  · rw [if_pos c, List.filter_cons_of_neg (by simpa using c), List.nil_append]
  · rw [if_neg c, List.filter_cons_of_pos (by simpa using c), List.flatMap_cons]
theorem oth_app {B : List Int} {N : List Nd} {Q : List Int} {ks ks' : List Nat} : othL B N Q (ks ++ ks') = othL B N Q ks ++ othL B N Q ks' := by
  unfold othL
  rw [List.filter_append, List.flatMap_append]
theorem oth_len {B : List Int} {N : List Nd} {Q : List Int} (hA : Acc B 3 0 N) {c : Nat} : ∀ (ks : List Nat) (a z : Nat), (∀ k ∈ ks, k < N.length ∧ rPa N k = (c : Int)) → Chn B N ks a z → a ≤ z ∧ (othL B N Q ks).length ≤ z - a
  | [], a, z, _, h => by
    have h : a = z := h
    subst h
    exact ⟨Nat.le_refl _, Nat.zero_le _⟩
  | k :: ks, a, z, hk, h => by
    obtain ⟨h1, h2⟩ := h
    obtain ⟨i1, i2⟩ := oth_len (Q := Q) hA ks _ z (fun j hj => hk j (List.mem_cons_of_mem _ hj)) h2
    have g := itm_len hA (hk k List.mem_cons_self).1 (hk k List.mem_cons_self).2
    rw [oth_cons, List.length_append]
    split
    · rw [List.length_nil]; exact ⟨by omega, by omega⟩
    · rw [g.1]; exact ⟨by omega, by omega⟩
/-- the children up to k -/
def kidT (N : List Nd) (c k : Nat) : List Nat := (List.range k).filter (fun j => decide (rPa N j = (c : Int)))
theorem kidT_succ {N : List Nd} {c k : Nat} : kidT N c (k + 1) = if rPa N k = (c : Int) then kidT N c k ++ [k] else kidT N c k := by
  unfold kidT
  rw [List.range_succ, List.filter_append]
  by_cases h : rPa N k = (c : Int)
  · rw [if_pos h, List.filter_cons_of_pos (by simpa using h)]
    rfl
  · rw [if_neg h, List.filter_cons_of_neg (by simpa using h)]
    simp
theorem kidT_low {B : List Int} {N : List Nd} (hA : Acc B 3 0 N) {c : Nat} : ∀ k, k ≤ c + 1 → k ≤ N.length → kidT N c k = []
  | 0, _, _ => rfl
  | k + 1, h, hl => by
    rw [kidT_succ, if_neg (fun q => by have := hold_lt hA.2.2.1 (show k < N.length by omega) q; omega)]
    exact kidT_low hA k (by omega) (by omega)
theorem kidT_all {N : List Nd} {c : Nat} : kidT N c N.length = kids N c := rfl
theorem kidT_pre {N : List Nd} {c k : Nat} (hk : k ≤ N.length) : ∃ r, kids N c = kidT N c k ++ r := by
  obtain ⟨m, hm⟩ : ∃ m, N.length = k + m := ⟨N.length - k, by omega⟩
  unfold kids kidT
  rw [hm, List.range_add, List.filter_append]
  exact ⟨_, rfl⟩
/-- the first, or -1 -/
def hdI : List Nat → Int
  | [] => -1
  | a :: _ => (a : Int)
