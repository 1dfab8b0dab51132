/-! THE OPERATORS: what bytes come of them -/
/-- the element of document c with name x, or -1 -/
def elV (N : List Nd) (c : Nat) (x : Int) : Int := match leadN N x c with
  | [] => -1
  | k :: _ => (k : Int)
theorem elV_mem {N : List Nd} {c : Nat} {x : Int} (h : ¬ elV N c x = -1) : (elV N c x).toNat ∈ leadN N x c ∧ elV N c x = (((elV N c x).toNat : Nat) : Int) := by
  unfold elV at h ⊢
  cases e : leadN N x c with
  | nil => rw [e] at h; exact absurd rfl h
  | cons k r => exact ⟨by rw [Int.toNat_natCast]; exact List.mem_cons_self, by rw [Int.toNat_natCast]⟩
theorem elV_fact {N : List Nd} {c : Nat} {x : Int} (h : ¬ elV N c x = -1) : (elV N c x).toNat < N.length ∧ rPa N (elV N c x).toNat = (c : Int) ∧ rNm N (elV N c x).toNat = x := by
  have hm := (elV_mem h).1
  have hf := List.mem_filter.mp hm
  exact ⟨(kids_lt hf.1).1, (kids_lt hf.1).2, of_decide_eq_true hf.2⟩
theorem elV_rg {N : List Nd} {c : Nat} {x : Int} : elV N c x = -1 ∨ (0 ≤ elV N c x ∧ elV N c x < (N.length : Int)) := by
  by_cases h : elV N c x = -1
  · exact Or.inl h
  · have := (elV_fact h).1
    have e := (elV_mem h).2
    exact Or.inr ⟨by omega, by omega⟩
theorem elV_none {N : List Nd} {c : Nat} {x : Int} (h : elV N c x = -1) : leadN N x c = [] := by
  unfold elV at h
  cases e : leadN N x c with
  | nil => rfl
  | cons k r => rw [e] at h; have h : (k : Int) = -1 := h; omega
theorem elG_first {N : List Nd} {c x : Int} : ∀ (r k : Nat), elG N c x r k = -1 ∨ ∃ j : Nat, elG N c x r k = (j : Int) ∧ k ≤ j ∧ j < k + r ∧ rPa N j = c ∧ rNm N j = x
  | 0, k => Or.inl rfl
  | r + 1, k => by
    unfold elG
    by_cases e : rPa N k = c ∧ rNm N k = x
    · rw [if_pos e]
      exact Or.inr ⟨k, rfl, Nat.le_refl _, by omega, e⟩
    · rw [if_neg e]
      rcases elG_first (N := N) (c := c) (x := x) r (k + 1) with h | ⟨j, h1, h2, h3, h4⟩
      · exact Or.inl h
      · exact Or.inr ⟨j, h1, by omega, by omega, h4⟩
section ELV
variable {B : List Int} {N : List Nd} {c : Nat} {x : Int}
theorem elG_V (hA : Acc B 3 0 N) (hc : c < N.length) (t3 : rTy N c = 3) : elG N (c : Int) x (N.length - (c + 1)) (c + 1) = elV N c x := by
  rcases elG_first (N := N) (c := (c : Int)) (x := x) (N.length - (c + 1)) (c + 1) with h | ⟨j, h1, h2, h3, h4, h5⟩
  · rw [h]
    have hn := (elG_none _ _).mp h
    rcases lead_one (x := x) hA.2.2.2.2 t3 with e | ⟨k, e⟩
    · unfold elV; rw [e]
    · have hm : k ∈ leadN N x c := by rw [e]; exact List.mem_singleton.mpr rfl
      have hf := List.mem_filter.mp hm
      have hk := kids_lt hf.1
      have hlt := hold_lt hA.2.2.1 hk.1 hk.2
      exact absurd ⟨hk.2, of_decide_eq_true hf.2⟩ (hn k (by omega) (by omega))
  · have hm : j ∈ leadN N x c := List.mem_filter.mpr ⟨mem_kids (by omega) h4, decide_eq_true h5⟩
    rcases lead_one (x := x) hA.2.2.2.2 t3 with e | ⟨k, e⟩
    · rw [e] at hm; cases hm
    · have : j = k := by rw [e] at hm; exact List.mem_singleton.mp hm
      rw [h1]
      unfold elV
      rw [e, this]
theorem skF_V (hA : Acc B 3 0 N) (t3 : rTy N c = 3) {o : Nat} : skF o N x (kids N c) (-1) = if elV N c x = -1 then -1 else (o : Int) + ((rSt N (elV N c x).toNat : Nat) : Int) := by
  rw [skF_last]
  have hf : (kids N c).filter (fun k => decide (rNm N k = x)) = leadN N x c := rfl
  rw [hf]
  rcases lead_one (x := x) hA.2.2.2.2 t3 with e | ⟨k, e⟩
  · have e2 : elV N c x = -1 := by unfold elV; rw [e]
    rw [e, e2]
    rfl
  · have e2 : elV N c x = (k : Int) := by unfold elV; rw [e]
    rw [e, e2, if_neg (by omega), Int.toNat_natCast]
    rfl
end ELV
/-- a way: each is a document within the one before, the first is the whole -/
def isWy (N : List Nd) : List Nat → Nat → Prop
  | [], c => c = 0
  | w :: r, c => isWy N r w ∧ rPa N c = (w : Int) ∧ rTy N c = 3 ∧ c < N.length
theorem isWy_fact {B : List Int} {N : List Nd} (hA : Acc B 3 0 N) : ∀ (r : List Nat) (c : Nat), isWy N r c → c < N.length ∧ rTy N c = 3 ∧ (r = [] → c = 0)
  | [], c, h => by
    have h : c = 0 := h
    exact ⟨by rw [h]; exact hA.1.1, by rw [h]; exact (root_0 hA).1, fun _ => h⟩
  | w :: r, c, h => ⟨h.2.2.2, h.2.2.1, fun q => by cases q⟩
/-- a value lies within what holds it -/
theorem withn {B : List Int} {N : List Nd} (hA : Acc B 3 0 N) {c k : Nat} (hk : k < N.length) (hc : rPa N k = (c : Int)) : rPl N c + 1 ≤ rSt N k ∧ rSt N k + 1 ≤ rPl N k ∧ rPl N k ≤ rEn B N k ∧ rEn B N k + 1 ≤ rEn B N c ∧ rEn B N c ≤ B.length ∧ c < k := by
  have hN := hA.2.2.1 k hk
  have hlt := hold_lt hA.2.2.1 hk hc
  have hC := (hN.2.2.2.1 c hc).2.1
  obtain ⟨w1, w2⟩ := hA.2.2.2.1 c (by omega) (by simp)
  obtain ⟨w3, w4, w5⟩ := w2 hC
  have hm := mem_kids hk hc
  have gen : ∀ (ks : List Nat) (a z : Nat), (∀ j ∈ ks, NdOk B N j ∧ rPa N j = (c : Int)) → Chn B N ks a z → k ∈ ks → a ≤ rSt N k ∧ rSt N k + 1 ≤ rPl N k ∧ rPl N k ≤ rEn B N k ∧ rEn B N k ≤ z := by
    intro ks
    induction ks with
    | nil => intro a z _ _ h; cases h
    | cons j r ih =>
      intro a z hj hch hmem
      obtain ⟨c1, c2⟩ := hch
      obtain ⟨g1, g2⟩ := hj j List.mem_cons_self
      have hr := fun j' hj' => hj j' (List.mem_cons_of_mem _ hj')
      have sj : rSt N j + 1 ≤ rPl N j ∧ rPl N j ≤ rEn B N j := by
        rcases hC with t | t
        · have := rSt_rEn g1 g2 t; exact ⟨by omega, this.2.1⟩
        · have := rSt_rEn4 g1 g2 t; exact ⟨by omega, this.2.1⟩
      have le : rEn B N j ≤ z := by
        rcases hC with t | t
        · exact Chn_le t r _ z hr c2
        · exact Chn_le4 t r _ z hr c2
      rcases List.mem_cons.mp hmem with e | e
      · subst e
        exact ⟨by omega, sj.1, sj.2, le⟩
      · have := ih (rEn B N j) z hr c2 e
        exact ⟨by omega, this.2⟩
  have g := gen (kids N c) _ _ (fun j hj => ⟨hA.2.2.1 j (kids_lt hj).1, (kids_lt hj).2⟩) w3 hm
  exact ⟨g.1, g.2.1, g.2.2.1, by omega, w1, hlt⟩
/-- the places of the lengths on a way -/
theorem way_pl {B : List Int} {N : List Nd} (hA : Acc B 3 0 N) : ∀ (r : List Nat) (c : Nat), isWy N r c → ∀ w ∈ r, rPl N w < rPl N c ∧ rEn B N c ≤ rEn B N w ∧ w < N.length ∧ rTy N w = 3
  | [], c, h, w, hw => by cases hw
  | v :: r, c, h, w, hw => by
    obtain ⟨h1, h2, h3, h4⟩ := h
    have g := withn hA h4 h2
    rcases List.mem_cons.mp hw with e | e
    · subst e
      have := isWy_fact hA r w h1
      exact ⟨by omega, by omega, this.1, this.2.1⟩
    · have := way_pl hA r v h1 w e
      exact ⟨by omega, by omega, this.2.2⟩
/-- bytes f .. t - 1 give way to pc; the lengths at ps grow -/
def edB (B : List Int) (f t : Nat) (pc : List Int) (ps : List Nat) : List Int := (List.range f).map (fun i => by_ B i + if i ∈ ps then (pc.length : Int) - ((t : Int) - (f : Int)) else 0) ++ (pc ++ B.drop t)
theorem edB_len {B : List Int} {f t : Nat} {pc : List Int} {ps : List Nat} : (edB B f t pc ps).length = f + pc.length + (B.length - t) := by
  unfold edB
  rw [List.length_append, List.length_map, List.length_range, List.length_append, List.length_drop]
  omega
theorem edB_lo {B : List Int} {f t i : Nat} {pc : List Int} {ps : List Nat} (hi : i < f) : by_ (edB B f t pc ps) i = by_ B i + if i ∈ ps then (pc.length : Int) - ((t : Int) - (f : Int)) else 0 := by
  unfold edB
  rw [by_app (by rw [List.length_map, List.length_range]; exact hi)]
  unfold by_
  rw [List.getD_eq_getElem?_getD, List.getElem?_map, List.getElem?_range hi]
  rfl
theorem edB_mid {B : List Int} {f t i : Nat} {pc : List Int} {ps : List Nat} (hi : i < pc.length) : by_ (edB B f t pc ps) (f + i) = by_ pc i := by
  unfold edB
  rw [by_app2 (by rw [List.length_map, List.length_range]; omega), List.length_map, List.length_range, show f + i - f = i by omega, by_app hi]
theorem edB_hi {B : List Int} {f t i : Nat} {pc : List Int} {ps : List Nat} : by_ (edB B f t pc ps) (f + pc.length + i) = by_ B (t + i) := by
  unfold edB
  rw [by_app2 (by rw [List.length_map, List.length_range]; omega), List.length_map, List.length_range, by_app2 (by omega), show f + pc.length + i - f - pc.length = i by omega]
  unfold by_
  rw [List.getD_eq_getElem?_getD, List.getElem?_drop, List.getD_eq_getElem?_getD]
theorem by_ext {B C : List Int} (h1 : B.length = C.length) (h2 : ∀ i, i < B.length → by_ B i = by_ C i) : B = C := by
  apply List.ext_getElem h1
  intro i hi hi'
  have := h2 i hi
  unfold by_ at this
  rw [List.getD_eq_getElem?_getD, List.getElem?_eq_getElem hi, Option.getD_some, List.getD_eq_getElem?_getD, List.getElem?_eq_getElem hi', Option.getD_some] at this
  exact this
/-! the pieces -/
def wrap (t : Int) (ls inner : List Int) : List Int := t :: (ls ++ (0 :: ((inner.length : Int) + 2) :: (inner ++ [0])))
def elm (ls Q : List Int) : List Int := by_ Q 0 :: (ls ++ (0 :: Q.drop 1))
/-- what comes where there is nothing yet, from the first missing name on -/
def newP (op : Int) (Q : List Int) : List (List Int) → List Int
  | [] => []
  | [ls] => if op = 3 then wrap 4 ls Q else elm ls Q
  | ls :: r => wrap 3 ls (newP op Q r)
def itm (B : List Int) (N : List Nd) (k : Nat) : List Int := sl B (rSt N k) (rEn B N k)
/-- the items that stay -/
def othL (B : List Int) (N : List Nd) (Q : List Int) (ks : List Nat) : List Int := (ks.filter (fun k => decide (¬ val B (rTy N k) (rPl N k) = val Q (by_ Q 0) 1))).flatMap (itm B N)
def lo8 (s : Int) : Int := s % 256
def hi8 (s : Int) : Int := (s / 256) % 256
/-- the letters of a packed name as they stand in the bytes -/
def nmB (B : List Int) (N : List Nd) (e : Nat) : List Int := sl B (rSt N e + 1) (rPl N e)
/-- the bytes that an operator asks for: none if it fails, some none if there is nothing to do. W: the way, the innermost first -/
def opF (B : List Int) (N : List Nd) (P : List (List Int)) (Q : List Int) (op : Int) (W : List Nat) (c : Nat) (e : Int) : Option (Option (List Int)) :=
  if op = 2 ∧ ¬ by_ Q 0 = 1 then none
  else if e = -1 then (if op = 1 ∨ op = 4 then some none else some (some (edB B (rEn B N c - 1) (rEn B N c - 1) (newP op Q (P.drop W.length)) ((c :: W).map (rPl N)))))
  else if op = 0 then some (some (edB B (rSt N e.toNat) (rEn B N e.toNat) (by_ Q 0 :: (nmB B N e.toNat ++ Q.drop 1)) ((c :: W).map (rPl N))))
  else if op = 1 then some (some (edB B (rSt N e.toNat) (rEn B N e.toNat) [] ((c :: W).map (rPl N))))
  else if op = 2 then (if rTy N e.toNat = 1 ∧ -32768 ≤ sgn B (rPl N e.toNat) + sgn Q 1 ∧ sgn B (rPl N e.toNat) + sgn Q 1 ≤ 32767 then some (some (edB B (rPl N e.toNat) (rEn B N e.toNat) [hi8 (sgn B (rPl N e.toNat) + sgn Q 1), lo8 (sgn B (rPl N e.toNat) + sgn Q 1)] ((c :: W).map (rPl N)))) else none)
  else if ¬ rTy N e.toNat = 4 then none
  else if op = 3 then some (some (edB B (rEn B N e.toNat - 1) (rEn B N e.toNat - 1) Q ((e.toNat :: c :: W).map (rPl N))))
  else some (some (edB B (rPl N e.toNat + 1) (rEn B N e.toNat - 1) (othL B N Q (kids N e.toNat)) ((e.toNat :: c :: W).map (rPl N))))
/-- the way, the innermost first: names still to go, the document one is in, those around it -/
def wkR (N : List Nd) : List Int → Nat → List Nat → Option (List Nat × Nat × Int)
  | [], c, W => some (W, c, -1)
  | x :: xs, c, W => if elV N c x = -1 then some (W, c, -1) else if xs = [] then some (W, c, elV N c x) else if rTy N (elV N c x).toNat = 3 then wkR N xs (elV N c x).toNat (c :: W) else none
def opE (B : List Int) (P : List (List Int)) (Q : List Int) (op : Int) : Option (Option (List Int)) := match wkR (nds B) (pks P) 0 [] with
  | none => none
  | some (W, c, e) => opF B (nds B) P Q op W c e
/-- what becomes of a document, and whether the operator did its work -/
def resD (B : List Int) : Option (Option (List Int)) → Bool × List Int
  | none => (false, B)
  | some none => (true, B)
  | some (some R) => match rdD R with
    | .inl _ => (false, B)
    | .inr _ => if R.length ≤ 60 then (true, R) else (false, B)
def newD (B : List Int) (P : List (List Int)) (Q : List Int) (op : Int) : Bool × List Int := resD B (opE B P Q op)
/-! where a fault can be -/
theorem rdH_fl {B : List Int} {P : Rs} (hP : RInv B P) : (∀ g, rdH B P = .inl g → g ≤ B.length + 4) ∧ ∀ t x q, rdH B P = .inr (t, x, q) → q ≤ B.length := by
  have h1 := hP.1
  unfold rdH
  by_cases c1 : (by_ B P.1 = 3 ∨ by_ B P.1 = 4) ∧ 4 ≤ P.2.2.length
  · rw [if_pos c1]
    exact ⟨fun g h => by have := Sum.inl.inj h; omega, fun t x q h => by cases h⟩
  · rw [if_neg c1]
    by_cases c2 : 1 ≤ by_ B P.1 ∧ by_ B P.1 ≤ 6
    · rw [if_pos c2]
      have hl : P.1 < B.length := by_lt (by omega)
      cases hS : P.2.2 with
      | nil => exact ⟨fun g h => (by cases h), fun t x q h => by have := Prod.mk.inj (Prod.mk.inj (Sum.inr.inj h)).2; omega⟩
      | cons c r =>
        dsimp only
        by_cases c3 : rTy P.2.1 c = 3
        · rw [if_pos c3]
          cases hN : rdN B P.2.1 (c : Int) (P.1 + 1) with
          | inl f => exact ⟨fun g h => by have e := Sum.inl.inj h; have := rdN_fl (by omega) hN; omega, fun t x q h => by cases h⟩
          | inr z =>
            obtain ⟨x', q'⟩ := z
            refine ⟨fun g h => (by cases h), fun t x q h => ?_⟩
            have e := (Prod.mk.inj (Prod.mk.inj (Sum.inr.inj h)).2).2
            have := (rdN_ok hN).2.2.2
            omega
        · rw [if_neg c3]
          exact ⟨fun g h => (by cases h), fun t x q h => by have := Prod.mk.inj (Prod.mk.inj (Sum.inr.inj h)).2; omega⟩
    · rw [if_neg c2]
      exact ⟨fun g h => by have := Sum.inl.inj h; omega, fun t x q h => by cases h⟩
theorem rdP_fl {B : List Int} {P : Rs} {g : Nat} (hP : RInv B P) (h : rdP B P = .inl g) : g ≤ B.length + 4 := by
  unfold rdP at h
  obtain ⟨a1, a2⟩ := rdH_fl hP
  cases hH : rdH B P with
  | inl f =>
    rw [hH] at h
    have := a1 f hH
    have e := Sum.inl.inj h
    omega
  | inr z =>
    obtain ⟨t, x, q⟩ := z
    rw [hH] at h
    have hq := a2 t x q hH
    dsimp only at h
    unfold rdV at h
    split at h
    · next f hC =>
      have e := Sum.inl.inj h
      have := rdC_fl hq hC
      omega
    · cases h
theorem rdS_fl {B : List Int} {P : Rs} {c g : Nat} {r : List Nat} (hP : RInv B P) (hS : P.2.2 = c :: r) (h : rdS B P = .inl g) : g ≤ B.length + 4 := by
  unfold rdS at h
  rw [hS] at h
  dsimp only at h
  split at h
  · unfold rdX at h
    split at h
    · cases h
    · have e := Sum.inl.inj h
      obtain ⟨i1, i2, i3, i4, i5, i6, i7, i8⟩ := hP
      rw [hS] at i4
      have := by_lt ((i3 c i4.1).2.2.2.2.2 i4.2.1)
      omega
  · exact rdP_fl hP h
theorem rdO_fl {B : List Int} {g : Nat} : ∀ (f : Nat) (P : Rs), RInv B P → rdO B f P = .inl g → g ≤ B.length + 4
  | 0, P, hP, h => by cases h
  | f + 1, P, hP, h => by
    unfold rdO at h
    split at h
    · cases h
    · next c r hS =>
      split at h
      · next e hE =>
        have e' := Sum.inl.inj h
        have := rdS_fl hP hS hE
        omega
      · next P1 h1 => exact rdO_fl f P1 (rdS_inv hP hS h1).1 h
theorem rdE_fl {B : List Int} {P : Rs} {g : Nat} (hP : RInv B P) (h : rdE B (rdO B B.length P) = .inl g) : g ≤ B.length + 4 := by
  cases hO : rdO B B.length P with
  | inl f =>
    rw [hO] at h
    have e := Sum.inl.inj h
    have := rdO_fl _ _ hP hO
    omega
  | inr P' =>
    rw [hO] at h
    unfold rdE at h
    dsimp only at h
    split at h
    · have e := Sum.inl.inj h
      omega
    · cases h
theorem rdD_fl {B : List Int} {g : Nat} (h : rdD B = .inl g) : g ≤ B.length + 4 := by
  unfold rdD at h
  cases hV : rdV B (0, [], []) 3 0 0 0 with
  | inl f =>
    rw [hV] at h
    have e := Sum.inl.inj h
    unfold rdV at hV
    split at hV
    · next f' hC =>
      have e' := Sum.inl.inj hV
      have := rdC_fl (Nat.zero_le _) hC
      omega
    · cases hV
  | inr P =>
    rw [hV] at h
    have hI := (rdV_inv (rInv0 B) (t := 3) (x := 0) (s := 0) (q := 0) (by decide) (fun _ => by decide) (Nat.zero_le _) (Or.inr ⟨Or.inl rfl, Nat.le_refl _⟩) (Nat.le_refl _) (fun c r e => by cases e) (fun _ => rfl) hV).1
    exact rdE_fl hI h
theorem rdQ_fl {B : List Int} {g : Nat} (h : rdQ B = .inl g) : g ≤ B.length + 4 := by
  unfold rdQ at h
  cases hV : rdP B (0, [], []) with
  | inl f =>
    rw [hV] at h
    have e := Sum.inl.inj h
    have := rdP_fl (rInv0 B) hV
    omega
  | inr P =>
    rw [hV] at h
    have hI := (rdP_inv (rInv0 B) (fun _ => rfl) hV).1
    exact rdE_fl hI h
