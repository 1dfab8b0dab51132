/-! FOUND VALUES: as the class goes (one pass over the nodes), as the reference goes (from list to list) -/
def goOn (N : List Nd) (p : List Int) (k : Nat) (before : Int) : Int :=
  if before = -1 ∨ (p.length : Int) ≤ before then -1 else if rTy N (rPa N k).toNat = 3 then (if rNm N k = p.getD before.toNat 0 then before + 1 else -1) else (if rTy N k = 3 then before else -1)
def goL (N : List Nd) (p : List Int) : Nat → List Int
  | 0 => []
  | k + 1 => goL N p k ++ [if k = 0 then 0 else goOn N p k ((goL N p k).getD (rPa N k).toNat (-1))]
theorem goL_len (N : List Nd) (p : List Int) : ∀ n, (goL N p n).length = n
  | 0 => rfl
  | n + 1 => by simp [goL, goL_len N p n]
theorem goL_get (N : List Nd) (p : List Int) : ∀ (n k : Nat), k < n → (goL N p n).getD k (-1) = (goL N p (k + 1)).getD k (-1)
  | 0, k, h => by omega
  | n + 1, k, h => by
    by_cases e : k = n
    · subst e; rfl
    · have hk : k < n := by omega
      rw [← goL_get N p n k hk]
      simp only [goL, List.getD_eq_getElem?_getD]
      rw [List.getElem?_append_left (by rw [goL_len]; exact hk)]
def gone (N : List Nd) (p : List Int) (k : Nat) : Int := (goL N p (k + 1)).getD k (-1)
theorem gone_eq (N : List Nd) (p : List Int) (k : Nat) : gone N p k = if k = 0 then 0 else goOn N p k ((goL N p k).getD (rPa N k).toNat (-1)) := by
  unfold gone
  have e : k = (goL N p k).length := (goL_len N p k).symm
  simp only [goL, List.getD_eq_getElem?_getD]
  rw [List.getElem?_append_right (by rw [goL_len]; exact Nat.le_refl _), goL_len, Nat.sub_self]
  rfl
theorem gone_zero (N : List Nd) (p : List Int) : gone N p 0 = 0 := by rw [gone_eq, if_pos rfl]
theorem gone_step {B : List Int} {N : List Nd} {p : List Int} (hN : ∀ k, k < N.length → NdOk B N k) {k c : Nat} (hk : k < N.length) (h0 : 0 < k) (hc : rPa N k = (c : Int)) : gone N p k = goOn N p k (gone N p c) := by
  have hlt := hold_lt hN hk hc
  rw [gone_eq, if_neg (by omega)]
  congr 1
  rw [hc, Int.toNat_natCast]
  exact goL_get N p k c hlt
/-- the reference's way -/
def leadN (N : List Nd) (x : Int) (k : Nat) : List Nat := (kids N k).filter (fun j => decide (rNm N j = x))
def stepN (N : List Nd) (x : Int) (k : Nat) : List Nat := if rTy N k = 3 then leadN N x k else if rTy N k = 4 then (kids N k).flatMap (fun j => if rTy N j = 3 then leadN N x j else []) else []
def comeN (N : List Nd) (p : List Int) : List Nat := p.foldl (fun L x => L.flatMap (stepN N x)) [0]
def gathN (N : List Nd) (p : List Int) : List Nat := comeN N p ++ (comeN N p).flatMap (fun k => if rTy N k = 4 then kids N k else [])
/-- the class's way -/
def isFd (N : List Nd) (p : List Int) (k : Nat) : Option Bool := if k = 0 then none else if gone N p k = (p.length : Int) then some true else if gone N p (rPa N k).toNat = (p.length : Int) ∧ rTy N (rPa N k).toNat = 4 then some false else none
def follN (N : List Nd) (p : List Int) : List (Nat × Bool) := (List.range N.length).filterMap (fun k => (isFd N p k).map (fun b => (k, b)))
section FND
variable {B : List Int} {N : List Nd} {p : List Int}
theorem come_lt (hA : Acc B 3 0 N) : ∀ (p : List Int) (L : List Nat), (∀ k ∈ L, k < N.length) → ∀ k ∈ p.foldl (fun L x => L.flatMap (stepN N x)) L, k < N.length
  | [], L, h, k, hk => h k hk
  | x :: p, L, h, k, hk => by
    refine come_lt hA p _ (fun j hj => ?_) k hk
    obtain ⟨i, hi, hj⟩ := List.mem_flatMap.mp hj
    unfold stepN at hj
    split at hj
    · exact (kids_lt (List.mem_filter.mp hj).1).1
    · split at hj
      · obtain ⟨z, hz, hj⟩ := List.mem_flatMap.mp hj
        split at hj
        · exact (kids_lt (List.mem_filter.mp hj).1).1
        · cases hj
      · cases hj
theorem come_succ (q : List Int) (x : Int) : comeN N (q ++ [x]) = (comeN N q).flatMap (stepN N x) := by simp [comeN, List.foldl_append]
/-- one holder up: what 'gone' says of the holder -/
theorem gone_up (hA : Acc B 3 0 N) {k c : Nat} (hk : k < N.length) (h0 : 0 < k) (hc : rPa N k = (c : Int)) {i : Nat} (hg : gone N p k = (i : Int)) :
    (rTy N c = 3 ∧ ∃ j : Nat, i = j + 1 ∧ j < p.length ∧ gone N p c = (j : Int) ∧ rNm N k = p.getD j 0) ∨ (rTy N c = 4 ∧ rTy N k = 3 ∧ i < p.length ∧ gone N p c = (i : Int)) := by
  obtain ⟨-, -, hN, -, -⟩ := hA
  rw [gone_step hN hk h0 hc] at hg
  obtain ⟨hlt, hC, -⟩ := (hN k hk).2.2.2.1 c hc
  unfold goOn at hg
  rw [hc, Int.toNat_natCast] at hg
  split at hg
  · omega
  · next hb =>
    rcases hC with h3 | h4
    · rw [if_pos h3] at hg
      split at hg
      · next hn =>
        refine Or.inl ⟨h3, (gone N p c).toNat, by omega, by omega, by omega, hn⟩
      · omega
    · rw [if_neg (by rw [h4]; decide)] at hg
      split at hg
      · next h3 => exact Or.inr ⟨h4, h3, by omega, hg⟩
      · omega
theorem gone_down3 (hA : Acc B 3 0 N) {k c : Nat} (hk : k < N.length) (h0 : 0 < k) (hc : rPa N k = (c : Int)) {j : Nat} (h3 : rTy N c = 3) (hj : j < p.length) (hg : gone N p c = (j : Int)) (hn : rNm N k = p.getD j 0) : gone N p k = ((j + 1 : Nat) : Int) := by
  obtain ⟨-, -, hN, -, -⟩ := hA
  rw [gone_step hN hk h0 hc, hg]
  unfold goOn
  rw [hc, Int.toNat_natCast, if_neg (by omega), if_pos h3, Int.toNat_natCast, if_pos hn]
  omega
theorem gone_down4 (hA : Acc B 3 0 N) {k c : Nat} (hk : k < N.length) (h0 : 0 < k) (hc : rPa N k = (c : Int)) {j : Nat} (h4 : rTy N c = 4) (h3 : rTy N k = 3) (hj : j < p.length) (hg : gone N p c = (j : Int)) : gone N p k = (j : Int) := by
  obtain ⟨-, -, hN, -, -⟩ := hA
  rw [gone_step hN hk h0 hc, hg]
  unfold goOn
  rw [hc, Int.toNat_natCast, if_neg (by omega), if_neg (by rw [h4]; decide), if_pos h3]
theorem hold_ex (hA : Acc B 3 0 N) {k : Nat} (hk : k < N.length) (h0 : 0 < k) : ∃ c : Nat, rPa N k = (c : Int) := by
  obtain ⟨⟨-, -, h⟩, -⟩ := hA
  exact ⟨(rPa N k).toNat, by have := h k h0 hk; omega⟩
theorem root_ty {t0 : Int} {p0 : Nat} (hA : Acc B t0 p0 N) : rTy N 0 = t0 ∧ rPl N 0 = p0 ∧ rPa N 0 = -1 := by
  obtain ⟨⟨-, h, -⟩, -⟩ := hA
  unfold rTy rPl rPa
  rw [h]
  exact ⟨rfl, rfl, rfl⟩
theorem kid_pos (hA : Acc B 3 0 N) {k c : Nat} (h : k ∈ kids N c) : 0 < k := by
  have h1 := (kids_lt h).2
  have h2 := (root_ty hA).2.2
  rcases Nat.eq_zero_or_pos k with rfl | h3
  · omega
  · exact h3
theorem mem_come (hA : Acc B 3 0 N) : ∀ (i : Nat), i ≤ p.length → ∀ k, k ∈ comeN N (p.take i) ↔ (k < N.length ∧ gone N p k = (i : Int) ∧ (i = 0 → k = 0) ∧ (0 < i → 0 < k ∧ ∃ c : Nat, rPa N k = (c : Int) ∧ rTy N c = 3)) := by
  intro i
  induction i with
  | zero =>
    intro _ k
    show k ∈ [0] ↔ _
    rw [List.mem_singleton]
    constructor
    · rintro rfl
      exact ⟨hA.1.1, gone_zero N p, fun _ => rfl, fun h => by omega⟩
    · exact fun h => h.2.2.1 rfl
  | succ i ih =>
    intro hi k
    have hi' : i < p.length := by omega
    have e : p.take (i + 1) = p.take i ++ [p.getD i 0] := by
      rw [List.take_succ, List.getD_eq_getElem?_getD, List.getElem?_eq_getElem hi']
      rfl
    rw [e, come_succ, List.mem_flatMap]
    constructor
    · rintro ⟨h, hh, hk⟩
      obtain ⟨h1, h2, -, -⟩ := (ih (by omega) h).mp hh
      unfold stepN at hk
      split at hk
      · next h3 =>
        obtain ⟨k1, k2⟩ := List.mem_filter.mp hk
        have kp := kid_pos hA k1
        obtain ⟨k3, k4⟩ := kids_lt k1
        exact ⟨k3, gone_down3 hA k3 kp k4 h3 hi' h2 (of_decide_eq_true k2), fun h => by omega, fun _ => ⟨kp, h, k4, h3⟩⟩
      · split at hk
        · next h4 =>
          obtain ⟨z, hz, hk⟩ := List.mem_flatMap.mp hk
          split at hk
          · next z3 =>
            have zp := kid_pos hA hz
            obtain ⟨z1, z2⟩ := kids_lt hz
            have hgz := gone_down4 (p := p) hA z1 zp z2 h4 z3 hi' h2
            obtain ⟨k1, k2⟩ := List.mem_filter.mp hk
            have kp := kid_pos hA k1
            obtain ⟨k3, k4⟩ := kids_lt k1
            exact ⟨k3, gone_down3 hA k3 kp k4 z3 hi' hgz (of_decide_eq_true k2), fun h => by omega, fun _ => ⟨kp, z, k4, z3⟩⟩
          · cases hk
        · cases hk
    · rintro ⟨k1, k2, -, k3⟩
      obtain ⟨kp, c, kc, kt⟩ := k3 (by omega)
      have hcN : c < N.length := by
        have := hold_lt hA.2.2.1 k1 kc
        omega
      rcases gone_up hA k1 kp kc k2 with ⟨-, j, hj, -, hgc, hnm⟩ | ⟨h4, -⟩
      · have hj : j = i := by omega
        subst hj
        have hlead : k ∈ leadN N (p.getD j 0) c := List.mem_filter.mpr ⟨mem_kids k1 kc, decide_eq_true hnm⟩
        rcases Nat.eq_zero_or_pos c with c0 | cp
        · subst c0
          have hj0 : j = 0 := by rw [gone_zero] at hgc; omega
          subst hj0
          refine ⟨0, (ih (by omega) 0).mpr ⟨hcN, hgc, fun _ => rfl, fun h => by omega⟩, ?_⟩
          unfold stepN
          rw [if_pos kt]
          exact hlead
        · obtain ⟨c2, hc2⟩ := hold_ex hA hcN cp
          rcases gone_up hA hcN cp hc2 hgc with ⟨t3, j2, hj2, -⟩ | ⟨t4, -, hj2, hg2⟩
          · refine ⟨c, (ih (by omega) c).mpr ⟨hcN, hgc, fun h => by omega, fun _ => ⟨cp, c2, hc2, t3⟩⟩, ?_⟩
            unfold stepN
            rw [if_pos kt]
            exact hlead
          · have hc2N : c2 < N.length := by
              have := hold_lt hA.2.2.1 hcN hc2
              omega
            have c2p : 0 < c2 := by
              rcases Nat.eq_zero_or_pos c2 with rfl | h
              · have := (root_ty hA).1
                omega
              · exact h
            obtain ⟨c3, hc3⟩ := hold_ex hA hc2N c2p
            rcases gone_up hA hc2N c2p hc3 hg2 with ⟨u3, j3, hj3, -⟩ | ⟨-, u3, -⟩
            · refine ⟨c2, (ih (by omega) c2).mpr ⟨hc2N, hg2, fun h => by omega, fun _ => ⟨c2p, c3, hc3, u3⟩⟩, ?_⟩
              unfold stepN
              rw [if_neg (by rw [t4]; decide), if_pos t4]
              refine List.mem_flatMap.mpr ⟨c, mem_kids hcN hc2, ?_⟩
              rw [if_pos kt]
              exact hlead
            · rw [t4] at u3
              cases u3
      · rw [kt] at h4
        cases h4
/-- the same nodes come out -/
theorem mem_comeN (hA : Acc B 3 0 N) (hp : 0 < p.length) (k : Nat) : k ∈ comeN N p ↔ k < N.length ∧ 0 < k ∧ gone N p k = (p.length : Int) := by
  have := mem_come (p := p) hA p.length (Nat.le_refl _) k
  rw [List.take_length] at this
  rw [this]
  constructor
  · rintro ⟨h1, h2, -, h4⟩
    exact ⟨h1, (h4 hp).1, h2⟩
  · rintro ⟨h1, h2, h3⟩
    obtain ⟨c, hc⟩ := hold_ex hA h1 h2
    refine ⟨h1, h3, fun h => by omega, fun _ => ⟨h2, c, hc, ?_⟩⟩
    rcases gone_up hA h1 h2 hc h3 with ⟨h, -⟩ | ⟨-, -, h, -⟩
    · exact h
    · omega
theorem mem_foll {k : Nat} {f : Bool} : (k, f) ∈ follN N p ↔ k < N.length ∧ isFd N p k = some f := by
  unfold follN
  rw [List.mem_filterMap]
  constructor
  · rintro ⟨j, hj, h⟩
    obtain ⟨b, hb, e⟩ := Option.map_eq_some_iff.mp h
    cases e
    exact ⟨List.mem_range.mp hj, hb⟩
  · rintro ⟨h1, h2⟩
    exact ⟨k, List.mem_range.mpr h1, by rw [h2]; rfl⟩
theorem foll_true (hA : Acc B 3 0 N) (hp : 0 < p.length) (k : Nat) : (k, true) ∈ follN N p ↔ k ∈ comeN N p := by
  rw [mem_foll, mem_comeN hA hp]
  unfold isFd
  constructor
  · rintro ⟨h1, h2⟩
    split at h2
    · cases h2
    · split at h2
      · next h3 h4 => exact ⟨h1, by omega, h4⟩
      · split at h2 <;> cases h2
  · rintro ⟨h1, h2, h3⟩
    exact ⟨h1, by rw [if_neg (by omega), if_pos h3]⟩
theorem foll_any (hA : Acc B 3 0 N) (hp : 0 < p.length) (k : Nat) : (∃ f, (k, f) ∈ follN N p) ↔ k ∈ gathN N p := by
  unfold gathN
  rw [List.mem_append, ← foll_true hA hp k]
  constructor
  · rintro ⟨f, hf⟩
    cases f with
    | true => exact Or.inl hf
    | false =>
      obtain ⟨h1, h2⟩ := mem_foll.mp hf
      unfold isFd at h2
      split at h2
      · cases h2
      · next h0 =>
        split at h2
        · cases h2
        · split at h2
          · next h3 h4 =>
            have kp : 0 < k := by omega
            obtain ⟨c, hc⟩ := hold_ex hA h1 kp
            rw [hc, Int.toNat_natCast] at h4
            have hcl := hold_lt hA.2.2.1 h1 hc
            have cp : 0 < c := by
              rcases Nat.eq_zero_or_pos c with rfl | h
              · rw [gone_zero] at h4; omega
              · exact h
            refine Or.inr (List.mem_flatMap.mpr ⟨c, (mem_comeN hA hp c).mpr ⟨by omega, cp, h4.1⟩, ?_⟩)
            rw [if_pos h4.2]
            exact mem_kids h1 hc
          · cases h2
  · rintro (h | h)
    · exact ⟨true, h⟩
    · obtain ⟨c, hc, hk⟩ := List.mem_flatMap.mp h
      split at hk
      · next h4 =>
        obtain ⟨c1, c2, c3⟩ := (mem_comeN hA hp c).mp hc
        obtain ⟨k1, k2⟩ := kids_lt hk
        have kp := kid_pos hA hk
        by_cases hg : gone N p k = (p.length : Int)
        · exact ⟨true, mem_foll.mpr ⟨k1, by unfold isFd; rw [if_neg (by omega), if_pos hg]⟩⟩
        · exact ⟨false, mem_foll.mpr ⟨k1, by unfold isFd; rw [if_neg (by omega), if_neg hg, k2, Int.toNat_natCast, if_pos ⟨c3, h4⟩]⟩⟩
      · cases hk
end FND
/-! counting different keys -/
def nub {α : Type} (dec : α → α → Bool) (l : List α) : List α := l.foldl (fun acc a => if acc.any (dec a) then acc else acc ++ [a]) []
