/-! ENTRIES: how many different values -/
section NEWV
/-- the values that are new, in their order: S has been seen -/
def nw {α : Type} [DecidableEq α] (v : Nat → α) (pl : Nat → Bool) : List Nat → List Nat → List α
  | _, [] => []
  | S, k :: r => if pl k = true ∧ v k ∉ S.map v then v k :: nw v pl (S ++ [k]) r else nw v pl (S ++ [k]) r
theorem mem_nw {α : Type} [DecidableEq α] {v : Nat → α} {pl : Nat → Bool} (hv : ∀ i j, v i = v j → pl i = pl j) {x : α} : ∀ (L S : List Nat), x ∈ nw v pl S L ↔ (∃ k ∈ L, pl k = true ∧ v k = x) ∧ x ∉ S.map v
  | [], S => by
    constructor
    · intro h; cases h
    · rintro ⟨⟨k, hk, _⟩, _⟩; cases hk
  | k :: r, S => by
    have ih := mem_nw hv (x := x) r (S ++ [k])
    rw [List.map_append, List.mem_append] at ih
    have e1 : x ∈ List.map v [k] ↔ x = v k := by simp
    rw [e1] at ih
    unfold nw
    by_cases c : pl k = true ∧ v k ∉ S.map v
    · rw [if_pos c, List.mem_cons, ih]
      constructor
      · rintro (h | ⟨⟨j, h1, h2⟩, h3⟩)
        · exact ⟨⟨k, List.mem_cons_self, c.1, h.symm⟩, by rw [h]; exact c.2⟩
        · exact ⟨⟨j, List.mem_cons_of_mem _ h1, h2⟩, fun q => h3 (Or.inl q)⟩
      · rintro ⟨⟨j, h1, h2, h3⟩, h4⟩
        by_cases e : x = v k
        · exact Or.inl e
        · rcases List.mem_cons.mp h1 with h1 | h1
          · subst h1
            exact absurd h3.symm e
          · refine Or.inr ⟨⟨j, h1, h2, h3⟩, fun q => ?_⟩
            rcases q with q | q
            · exact h4 q
            · exact e q
    · rw [if_neg c, ih]
      constructor
      · rintro ⟨⟨j, h1, h2⟩, h3⟩
        exact ⟨⟨j, List.mem_cons_of_mem _ h1, h2⟩, fun q => h3 (Or.inl q)⟩
      · rintro ⟨⟨j, h1, h2, h3⟩, h4⟩
        have nk : ¬ x = v k := fun e => by
          have pk' : pl k = true := by rw [← hv j k (h3.trans e)]; exact h2
          exact c ⟨pk', by rw [← e]; exact h4⟩
        rcases List.mem_cons.mp h1 with h1 | h1
        · subst h1
          exact absurd h3.symm nk
        · refine ⟨⟨j, h1, h2, h3⟩, fun q => ?_⟩
          rcases q with q | q
          · exact h4 q
          · exact nk q
theorem nodup_nw {α : Type} [DecidableEq α] {v : Nat → α} {pl : Nat → Bool} (hv : ∀ i j, v i = v j → pl i = pl j) : ∀ (L S : List Nat), (nw v pl S L).Nodup
  | [], S => List.Pairwise.nil
  | k :: r, S => by
    have ih := nodup_nw hv r (S ++ [k])
    unfold nw
    by_cases c : pl k = true ∧ v k ∉ S.map v
    · rw [if_pos c]
      refine List.nodup_cons.mpr ⟨fun q => ?_, ih⟩
      have := ((mem_nw hv r (S ++ [k])).mp q).2
      exact this (by simp)
    · rw [if_neg c]
      exact ih
theorem sub_len {α : Type} [DecidableEq α] : ∀ (L L' : List α), L.Nodup → (∀ x ∈ L, x ∈ L') → L.length ≤ L'.length
  | [], L', _, _ => Nat.zero_le _
  | x :: t, L', hn, hs => by
    obtain ⟨n1, n2⟩ := List.nodup_cons.mp hn
    have hx := hs x List.mem_cons_self
    have ih := sub_len t (L'.erase x) n2 (fun y hy => (List.mem_erase_of_ne (fun e => n1 (by rw [← e]; exact hy))).mpr (hs y (List.mem_cons_of_mem _ hy)))
    rw [List.length_erase_of_mem hx] at ih
    have : 0 < L'.length := List.length_pos_of_mem hx
    rw [List.length_cons]
    omega
theorem nw_len {α : Type} [DecidableEq α] {v : Nat → α} {pl : Nat → Bool} (hv : ∀ i j, v i = v j → pl i = pl j) {L L' : List Nat} (h : ∀ k, k ∈ L ↔ k ∈ L') : (nw v pl [] L).length = (nw v pl [] L').length := by
  have m : ∀ x, x ∈ nw v pl [] L ↔ x ∈ nw v pl [] L' := fun x => by
    rw [mem_nw hv, mem_nw hv]
    constructor
    · rintro ⟨⟨k, h1, h2⟩, h3⟩
      exact ⟨⟨k, (h k).mp h1, h2⟩, h3⟩
    · rintro ⟨⟨k, h1, h2⟩, h3⟩
      exact ⟨⟨k, (h k).mpr h1, h2⟩, h3⟩
  exact Nat.le_antisymm (sub_len _ _ (nodup_nw hv _ _) (fun x hx => (m x).mp hx)) (sub_len _ _ (nodup_nw hv _ _) (fun x hx => (m x).mpr hx))
theorem nw_le {α : Type} [DecidableEq α] {v : Nat → α} {pl : Nat → Bool} : ∀ (L S : List Nat), (nw v pl S L).length ≤ L.length
  | [], S => Nat.zero_le _
  | k :: r, S => by
    have ih := nw_le (v := v) (pl := pl) r (S ++ [k])
    unfold nw
    split
    · rw [List.length_cons, List.length_cons]; omega
    · rw [List.length_cons]; omega
end NEWV
def vl (B : List Int) (N : List Nd) (k : Nat) : Int × List Int := val B (rTy N k) (rPl N k)
def pln (N : List Nd) (k : Nat) : Bool := decide (¬ rTy N k = 3 ∧ ¬ rTy N k = 4)
theorem vl_pln {B : List Int} {N : List Nd} {i j : Nat} (h : vl B N i = vl B N j) : pln N i = pln N j := by
  have e := congrArg Prod.fst h
  have e : rTy N i = rTy N j := e
  unfold pln
  rw [e]
/-- the entries of a document -/
def entN (B : List Int) (N : List Nd) (p : List Int) : Nat := (nw (vl B N) (pln N) [] (gathN N p)).length
section ENT
variable {G : Nat × (Nat → Int32)} {d : Nat} {M : Mm_} {q cap : Nat} {B : List Int} {N : List Nd}
/-- isNew's loop -/
theorem isNew_l {L : List (Nat × Bool)} {k : Nat} (h : dT M q cap B N) (hL : trl M L) (hl : L.length ≤ 80) (hLN : ∀ z ∈ L, z.1 < N.length) (hk : k < L.length) : ∀ (m j : Nat), j + m = k → ∃ x, EvC G (d + 2) m_L_isNew 2 [some (.ref 51), some (.ref 42), some (.int (zI (k : Int))), some (.int (zI (j : Int)))] [] M (some (.int x), M) ∧ b01 (∀ i, j ≤ i → i < k → ¬ vl B N (L.getD i (0, false)).1 = vl B N (L.getD k (0, false)).1) x
  | 0, j, hj => by
    refine ⟨zI 1, ev_L_isNew_2 ?_, b01_t (fun i h1 h2 => by omega)⟩
    rw [if_neg (fun q => by rw [zI_lt ⟨by omega, by omega⟩ ⟨by omega, by omega⟩] at q; omega)]
  | m + 1, j, hj => by
    have hW := h.1.1
    have hjN := hLN _ (getD_mem (L := L) (i := j) (by omega))
    have hkN := hLN _ (getD_mem (L := L) (i := k) (by omega))
    have ee := e_T_areEqual (G := G) (d := d) h hjN hkN
    obtain ⟨x, e, w⟩ := isNew_l h hL hl hLN hk m (j + 1) (by omega)
    have pre : ∀ y, EvC G (d + 2) m_L_isNew 23 [some (.ref 51), some (.ref 42), some (.int (zI (k : Int))), some (.int (zI (j : Int)))] [.int (zI (if vl B N (L.getD j (0, false)).1 = vl B N (L.getD k (0, false)).1 then 1 else 0))] M (some (.int y), M) → EvC G (d + 2) m_L_isNew 2 [some (.ref 51), some (.ref 42), some (.int (zI (k : Int))), some (.int (zI (j : Int)))] [] M (some (.int y), M) := fun y hy => by
      refine ev_L_isNew_2 ?_
      rw [if_pos ((zI_lt ⟨by omega, by omega⟩ ⟨by omega, by omega⟩).mpr (by omega)), zI_nat (show j < 2147483648 by omega), zI_nat (show k < 2147483648 by omega), trl_at hL (show j < L.length by omega), trl_at hL (show k < L.length by omega)]
      exact ⟨okF_W hW rfl, okA_z hW (show sg0[51 + 2]? = some (.inr (0, 80)) from rfl) (by omega) (by omega), okF_W hW rfl, okA_z hW (show sg0[51 + 2]? = some (.inr (0, 80)) from rfl) (by omega) (by omega), okO_W hW rfl, _, _, ee, hy⟩
    by_cases c : vl B N (L.getD j (0, false)).1 = vl B N (L.getD k (0, false)).1
    · refine ⟨zI 0, pre _ (ev_L_isNew_23 ?_), b01_f (fun hh => hh j (Nat.le_refl _) (by omega) c)⟩
      rw [if_pos c, zI_0, if_neg z10]
    · refine ⟨x, pre _ (ev_L_isNew_23 ?_), b01_iff w ⟨fun hh i h1 h2 => ?_, fun hh i h1 h2 => hh i (by omega) h2⟩⟩
      · rw [if_neg c, zI_0, if_pos rfl, zI_add, show (j : Int) + 1 = ((j + 1 : Nat) : Int) by omega]
        exact e
      · rcases Nat.lt_or_ge j i with h4 | h4
        · exact hh i (by omega) h2
        · have : i = j := by omega
          subst this
          exact c
theorem map_getD {done rest : List (Nat × Bool)} {k : Nat} {x : Int × List Int} : x ∈ (done.map Prod.fst).map (vl B N) ↔ ∃ i, i < done.length ∧ vl B N ((done ++ rest).getD i (0, false)).1 = x := by
  rw [List.map_map, List.mem_map]
  constructor
  · rintro ⟨z, hz, e⟩
    obtain ⟨i, hi, e2⟩ := List.getElem_of_mem hz
    refine ⟨i, hi, ?_⟩
    rw [List.getD_eq_getElem?_getD, List.getElem?_append_left hi, List.getElem?_eq_getElem hi, Option.getD_some, e2]
    exact e
  · rintro ⟨i, hi, e⟩
    rw [List.getD_eq_getElem?_getD, List.getElem?_append_left hi, List.getElem?_eq_getElem hi, Option.getD_some] at e
    exact ⟨_, List.getElem_mem hi, e⟩
theorem getD_mid2 {done rest : List (Nat × Bool)} {z : Nat × Bool} : (done ++ z :: rest).getD done.length (0, false) = z := by
  rw [List.getD_eq_getElem?_getD, List.getElem?_append_right (Nat.le_refl _), Nat.sub_self]
  rfl
theorem ent_l {L : List (Nat × Bool)} (h : dT M q cap B N) (hL : trl M L) (hl : L.length ≤ 80) (hLN : ∀ z ∈ L, z.1 < N.length) : ∀ (rest done : List (Nat × Bool)) (s : Nat) (u4 : Option Value), L = done ++ rest → s ≤ done.length → EvC G (d + 3) m_L_entryTotal 4 [some (.ref 51), some (.ref 42), some (.int (zI (s : Int))), some (.int (zI (done.length : Int))), u4] [] M (some (.int (zI ((s + (nw (vl B N) (pln N) (done.map Prod.fst) (rest.map Prod.fst)).length : Nat) : Int))), M)
  | [], done, s, u4, e, hs => by
    have hlen : L.length = done.length := by rw [e, List.append_nil]
    refine ev_L_entryTotal_4 ?_
    rw [hL.1, if_neg (fun q => by rw [zI_lt ⟨by omega, by omega⟩ ⟨by omega, by omega⟩] at q; omega)]
    exact ⟨okF_W h.1.1 rfl, rfl⟩
  | z :: rest, done, s, u4, e, hs => by
    have hW := h.1.1
    have hlen : L.length = done.length + (rest.length + 1) := by rw [e, List.length_append, List.length_cons]
    have ez : L.getD done.length (0, false) = z := by rw [e]; exact getD_mid2
    have hzN : z.1 < N.length := hLN z (by rw [e]; simp)
    obtain ⟨i1, -, -, -, -, -, -, -, i9, i10, i11, i12⟩ := h.at hzN
    have ta : M.2.1 (51 + 2) done.length = zI ((z.1 : Nat) : Int) := by rw [trl_at hL (by omega), ez]
    have ek : zI (done.length : Int) + zI 1 = zI (((done ++ [z]).length : Nat) : Int) := by rw [zI_add, List.length_append, List.length_singleton, show (done.length : Int) + 1 = ((done.length + 1 : Nat) : Int) by omega]
    have e' : L = (done ++ [z]) ++ rest := by rw [e, List.append_assoc]; rfl
    have em : (done ++ [z]).map Prod.fst = done.map Prod.fst ++ [z.1] := by rw [List.map_append]; rfl
    have n0 := fun u4 => ent_l h hL hl hLN rest (done ++ [z]) s u4 e' (by rw [List.length_append]; omega)
    have n1 := fun u4 => ent_l h hL hl hLN rest (done ++ [z]) (s + 1) u4 e' (by rw [List.length_append, List.length_singleton]; omega)
    rw [em, ← ek] at n0 n1
    have a2 : am_okA M (51 + 2) 0 (zI (done.length : Int)) = true := okA_z hW (show sg0[51 + 2]? = some (.inr (0, 80)) from rfl) (by omega) (by omega)
    have a1 : am_okA M (42 + 1) 0 (zI ((z.1 : Nat) : Int)) = true := okA_z hW (show sg0[42 + 1]? = some (.inr (0, 80)) from rfl) (by omega) (by omega)
    rw [List.map_cons]
    unfold nw
    by_cases c3 : rTy N z.1 = 3
    · rw [if_neg (show ¬ (pln N z.1 = true ∧ vl B N z.1 ∉ (done.map Prod.fst).map (vl B N)) from fun q => (of_decide_eq_true q.1).1 c3)]
      refine ev_L_entryTotal_4 ?_
      rw [hL.1, if_pos ((zI_lt ⟨by omega, by omega⟩ ⟨by omega, by omega⟩).mpr (by omega)), zI_nat (show done.length < 2147483648 by omega), ta, zI_nat (show z.1 < 2147483648 by omega), i1, if_pos (by rw [c3])]
      exact ⟨okF_W hW rfl, okF_W hW rfl, okF_W hW rfl, a2, a1, n0 _⟩
    · by_cases c4 : rTy N z.1 = 4
      · rw [if_neg (show ¬ (pln N z.1 = true ∧ vl B N z.1 ∉ (done.map Prod.fst).map (vl B N)) from fun q => (of_decide_eq_true q.1).2 c4)]
        refine ev_L_entryTotal_4 ?_
        rw [hL.1, if_pos ((zI_lt ⟨by omega, by omega⟩ ⟨by omega, by omega⟩).mpr (by omega)), zI_nat (show done.length < 2147483648 by omega), ta, zI_nat (show z.1 < 2147483648 by omega), i1, if_neg (zI_ne ⟨by omega, by omega⟩ ⟨by omega, by omega⟩ c3), if_pos (by rw [c4])]
        exact ⟨okF_W hW rfl, okF_W hW rfl, okF_W hW rfl, a2, a1, n0 _⟩
      · obtain ⟨x, ex, w⟩ := isNew_l (G := G) (d := d) h hL hl hLN (show done.length < L.length by omega) done.length 0 (Nat.zero_add _)
        have pre : ∀ r, EvC G (d + 3) m_L_entryTotal 43 [some (.ref 51), some (.ref 42), some (.int (zI (s : Int))), some (.int (zI (done.length : Int))), some (.int (zI (rTy N z.1)))] [.int x] M r → EvC G (d + 3) m_L_entryTotal 4 [some (.ref 51), some (.ref 42), some (.int (zI (s : Int))), some (.int (zI (done.length : Int))), u4] [] M r := fun r hr => by
          refine ev_L_entryTotal_4 ?_
          rw [hL.1, if_pos ((zI_lt ⟨by omega, by omega⟩ ⟨by omega, by omega⟩).mpr (by omega)), zI_nat (show done.length < 2147483648 by omega), ta, zI_nat (show z.1 < 2147483648 by omega), i1, if_neg (zI_ne ⟨by omega, by omega⟩ ⟨by omega, by omega⟩ c3), if_neg (zI_ne ⟨by omega, by omega⟩ ⟨by omega, by omega⟩ c4)]
          exact ⟨okF_W hW rfl, okF_W hW rfl, okF_W hW rfl, a2, a1, okO_W hW rfl, _, _, ev_of (q := mt_L_isNew) rfl (ev_L_isNew_0 ex), hr⟩
        rw [ez, e] at w
        rcases w with ⟨w1, w2⟩ | ⟨w1, w2⟩
        · rw [if_pos (show pln N z.1 = true ∧ vl B N z.1 ∉ (done.map Prod.fst).map (vl B N) from ⟨decide_eq_true ⟨c3, c4⟩, fun q => by obtain ⟨i, hi, e2⟩ := (map_getD (k := 0) (rest := z :: rest)).mp q; exact w1 i (Nat.zero_le _) hi e2⟩), List.length_cons]
          refine pre _ (ev_L_entryTotal_43 ?_)
          have e5 : zI (s : Int) + zI 1 = zI ((s + 1 : Nat) : Int) := by rw [zI_add, show (s : Int) + 1 = ((s + 1 : Nat) : Int) by omega]
          rw [w2, zI_0, if_neg z10, e5, show s + ((nw (vl B N) (pln N) (done.map Prod.fst ++ [z.1]) (rest.map Prod.fst)).length + 1) = s + 1 + (nw (vl B N) (pln N) (done.map Prod.fst ++ [z.1]) (rest.map Prod.fst)).length by omega]
          exact n1 _
        · rw [if_neg (show ¬ (pln N z.1 = true ∧ vl B N z.1 ∉ (done.map Prod.fst).map (vl B N)) from fun q => w1 (fun i _ hi e2 => q.2 ((map_getD (k := 0) (rest := z :: rest)).mpr ⟨i, hi, e2⟩)))]
          refine pre _ (ev_L_entryTotal_43 ?_)
          rw [w2, zI_0, if_pos rfl]
          exact n0 _
theorem e_L_entryTotal {P : List (List Int)} (h : dT M q cap B N) (hP : 0 < P.length) (hL : trl M (follN N (pks P))) : Ev G (d + 3) 47 [.ref 51, .ref 42] M (some (.int (zI (entN B N (pks P) : Int))), M) := by
  have hA := h.2.2
  have hl := hA.2.1
  have hB := h.1.2.2.2.2.2
  have fl := foll_len (N := N) (p := pks P)
  have e := ent_l (G := G) (d := d) h hL (by omega) (fun z hz => foll_lt hz) (follN N (pks P)) [] 0 none rfl (Nat.le_refl _)
  have hp : 0 < (pks P).length := by rw [pks_len]; exact hP
  have en : (nw (vl B N) (pln N) [] ((follN N (pks P)).map Prod.fst)).length = entN B N (pks P) := nw_len (fun _ _ => vl_pln) (fun k => by
    rw [List.mem_map]
    constructor
    · rintro ⟨z, hz, e⟩
      exact (foll_any hA hp k).mp ⟨z.2, by rw [← e]; exact hz⟩
    · intro hk
      obtain ⟨b, hb⟩ := (foll_any hA hp k).mpr hk
      exact ⟨(k, b), hb, rfl⟩)
  rw [Nat.zero_add, show List.map Prod.fst ([] : List (Nat × Bool)) = [] from rfl, en] at e
  exact ev_of (q := mt_L_entryTotal) rfl (ev_L_entryTotal_0 e)
end ENT
