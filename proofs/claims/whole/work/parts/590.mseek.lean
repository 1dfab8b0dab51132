/-! THE REFERENCE: isName, seek, lead -/
theorem ls_same {ls ls' : List Int} (h : isN ls) (h' : isN ls') : (∀ k, k < 4 → ls.getD k 0 = ls'.getD k 0) ↔ pk ls' = pk ls := by
  obtain ⟨a1, a2, a3⟩ := h
  obtain ⟨b1, b2, b3⟩ := h'
  have get : ∀ (l : List Int), (∀ y ∈ l, 97 ≤ y ∧ y ≤ 122) → ∀ k, k < l.length → 97 ≤ l.getD k 0 := fun l hl k hk => by
    rw [List.getD_eq_getElem?_getD, List.getElem?_eq_getElem hk]
    exact (hl _ (List.getElem_mem hk)).1
  have out : ∀ (l : List Int) k, l.length ≤ k → l.getD k 0 = 0 := fun l k hk => by
    rw [List.getD_eq_getElem?_getD, List.getElem?_eq_none hk]
    rfl
  constructor
  · intro hh
    have l1 : ¬ ls.length < ls'.length := fun c => by
      have e1 := hh ls.length (by omega)
      have e2 := get ls' b3 ls.length c
      have e3 := out ls ls.length (Nat.le_refl _)
      omega
    have l2 : ¬ ls'.length < ls.length := fun c => by
      have e1 := hh ls'.length (by omega)
      have e2 := get ls a3 ls'.length c
      have e3 := out ls' ls'.length (Nat.le_refl _)
      omega
    have e : ls' = ls := by
      apply List.ext_getElem (by omega)
      intro i h1 h2
      have e1 := hh i (by omega)
      rw [List.getD_eq_getElem?_getD, List.getElem?_eq_getElem h2, List.getD_eq_getElem?_getD, List.getElem?_eq_getElem h1] at e1
      exact e1.symm
    rw [e]
  · intro e
    have e := pk_inj b3 a3 e
    subst e
    exact fun k _ => rfl
def skF (o : Nat) (N : List Nd) (x : Int) (ks : List Nat) (f : Int) : Int := ks.foldl (fun f k => if rNm N k = x then (o : Int) + ((rSt N k : Nat) : Int) else f) f
theorem skF_last {o : Nat} {N : List Nd} {x : Int} : ∀ (ks : List Nat) (f : Int), skF o N x ks f = match (ks.filter (fun k => decide (rNm N k = x))).getLast? with
    | none => f
    | some k => (o : Int) + ((rSt N k : Nat) : Int)
  | [], f => rfl
  | k :: r, f => by
    have ih := skF_last (o := o) (N := N) (x := x) r (if rNm N k = x then (o : Int) + ((rSt N k : Nat) : Int) else f)
    have e : skF o N x (k :: r) f = skF o N x r (if rNm N k = x then (o : Int) + ((rSt N k : Nat) : Int) else f) := rfl
    rw [e, ih]
    by_cases c : rNm N k = x
    · rw [if_pos c, List.filter_cons_of_pos (by simp [c]), List.getLast?_cons]
      cases (r.filter (fun k => decide (rNm N k = x))).getLast? <;> rfl
    · rw [if_neg c, List.filter_cons_of_neg (by simp [c])]
theorem kids_nodup {N : List Nd} {c : Nat} : (kids N c).Nodup := List.Pairwise.filter _ List.nodup_range
theorem lead_one {N : List Nd} {c : Nat} {x : Int} (hD : Dif N) (t3 : rTy N c = 3) : leadN N x c = [] ∨ ∃ k, leadN N x c = [k] := by
  have nd : (leadN N x c).Nodup := List.Pairwise.filter _ kids_nodup
  have all : ∀ k ∈ leadN N x c, k < N.length ∧ rPa N k = (c : Int) ∧ rNm N k = x := fun k hk => by
    obtain ⟨h1, h2⟩ := List.mem_filter.mp hk
    obtain ⟨h3, h4⟩ := kids_lt h1
    exact ⟨h3, h4, of_decide_eq_true h2⟩
  generalize leadN N x c = l at nd all
  match l, nd, all with
  | [], _, _ => exact Or.inl rfl
  | [k], _, _ => exact Or.inr ⟨k, rfl⟩
  | a :: b :: r, nd, all =>
    obtain ⟨a1, a2, a3⟩ := all a List.mem_cons_self
    obtain ⟨b1, b2, b3⟩ := all b (List.mem_cons_of_mem _ List.mem_cons_self)
    have ne : a ≠ b := fun e => by
      subst e
      exact (List.nodup_cons.mp nd).1 List.mem_cons_self
    rcases Nat.lt_or_gt_of_ne ne with hlt | hlt
    · exact absurd (a3.trans b3.symm) (hD a b hlt b1 (a2.trans b2.symm) c a2 t3)
    · exact absurd (b3.trans a3.symm) (hD b a hlt a1 (b2.trans a2.symm) c b2 t3)
/-- the next list -/
def nxt (M : Mm_) (o : Nat) (N : List Nd) (L : List Nat) : Prop := M.2.1 91 13 = zI L.length ∧ ∀ i, i < L.length → M.2.1 102 i = zI (rTy N (L.getD i 0)) ∧ M.2.1 103 i = zI ((o : Int) + ((rPl N (L.getD i 0) : Nat) : Int))
def pNx (a j : Nat) : Prop := (a = 91 ∧ j = 13) ∨ a = 102 ∨ a = 103
theorem mIn.keptp {p : Nat → Nat → Prop} {M M' : Mm_} {o : Nat} {B : List Int} (h : mIn M o B) (f : Fp p M M') (hp : ∀ i, i < B.length → ¬ p 92 (o + i)) : mIn M' o B := ⟨f.WM h.1, h.2.1, fun i hi => by rw [f.2.2 _ _ (hp i hi)]; exact h.2.2.1 i hi, h.2.2.2⟩
theorem mPth.keptp {p : Nat → Nat → Prop} {M M' : Mm_} {j : Nat} {P : List (List Int)} (h : mPth M j P) (f : Fp p M M') (h1 : ¬ p 95 j) (h2 : ∀ i, 12 * j ≤ i → i < 12 * j + 12 → ¬ p 96 i) : mPth M' j P := by
  obtain ⟨p1, p2, p3, p4⟩ := h
  exact ⟨p1, by rw [f.2.2 _ _ h1]; exact p2, fun i hi k hk => by rw [f.2.2 _ _ (h2 _ (by omega) (by omega))]; exact p3 i hi k hk, p4⟩
theorem nxt_add {M : Mm_} {o k : Nat} {N : List Nd} {L : List Nat} {y : Int32} (h : nxt M o N L) (hy : y = zI ((L.length + 1 : Nat) : Int)) : nxt (am_setI (am_setI (am_setI M 102 L.length (zI (rTy N k))) 103 L.length (zI ((o : Int) + ((rPl N k : Nat) : Int)))) 91 13 y) o N (L ++ [k]) := by
  refine ⟨by rw [setI_self, hy, List.length_append, List.length_singleton], fun i hi => ?_⟩
  rw [List.length_append, List.length_singleton] at hi
  rw [setI_cell (by decide), setI_cell (show (102 : Nat) ≠ 103 by decide), setI_cell (show (103 : Nat) ≠ 91 by decide)]
  by_cases c : i = L.length
  · subst c
    have e3 : (L ++ [k]).getD L.length 0 = k := by
      rw [List.getD_eq_getElem?_getD, List.getElem?_append_right (Nat.le_refl _), Nat.sub_self]
      rfl
    rw [e3]
    exact ⟨setI_self, setI_self⟩
  · have e3 : (L ++ [k]).getD i 0 = L.getD i 0 := by
      rw [List.getD_eq_getElem?_getD, List.getElem?_append_left (by omega), List.getD_eq_getElem?_getD]
    rw [e3, setI_idx c, setI_idx c, setI_cell (show (103 : Nat) ≠ 102 by decide)]
    exact h.2 i (by omega)
section MSEEK
variable {G : Nat × (Nat → Int32)} {d o : Nat} {B : List Int} {N : List Nd}
theorem isN_f {M : Mm_} {x1 x2 x3 x5 : Int32} : ∀ (m k : Nat), k + m = 4 → EvC G d m_M_isName 17 [some (.ref 91), some (.int x1), some (.int x2), some (.int x3), some (.int (zI 0)), some (.int x5), some (.int (zI (k : Int)))] [] M (some (.int (zI 0)), M)
  | 0, k, hk => by
    refine ev_M_isName_17 ?_
    rw [if_neg (fun q => by rw [zI_lt ⟨by omega, by omega⟩ ⟨by omega, by omega⟩] at q; omega)]
    exact ⟨by decide +kernel, rfl⟩
  | m + 1, k, hk => by
    refine ev_M_isName_17 ?_
    rw [if_pos ((zI_lt ⟨by omega, by omega⟩ ⟨by omega, by omega⟩).mpr (by omega)), zI_0, if_pos rfl, zI_add, show (k : Int) + 1 = ((k + 1 : Nat) : Int) by omega]
    exact isN_f m (k + 1) (by omega)
theorem isN_l {M : Mm_} {b n j i : Nat} {ls ls' : List Int} (h : mIn M o B) (hj : j < 6) (hi : i < 3) (hls : isN ls) (hls' : isN ls') (hL : ∀ k, k < 4 → M.2.1 96 (12 * j + 4 * i + k) = zI (ls.getD k 0)) (hn : ls'.length = n) (hb : ∀ i, i < n → by_ B (b + i) = ls'.getD i 0) (hbl : b + n < B.length) :
    ∀ (m k : Nat), k + m = 4 → (∀ i, i < k → ls.getD i 0 = ls'.getD i 0) → EvC G d m_M_isName 17 [some (.ref 91), some (.int (zI ((o : Int) + (b : Int)))), some (.int (zI (j : Int))), some (.int (zI (i : Int))), some (.int (zI 1)), some (.int (zI (n : Int))), some (.int (zI (k : Int)))] [] M (some (.int (zI (if pk ls' = pk ls then 1 else 0))), M)
  | 0, k, hk, he => by
    refine ev_M_isName_17 ?_
    rw [if_neg (fun q => by rw [zI_lt ⟨by omega, by omega⟩ ⟨by omega, by omega⟩] at q; omega), if_pos ((ls_same hls hls').mp (fun k hk => he k (by omega)))]
    exact ⟨by decide +kernel, rfl⟩
  | m + 1, k, hk, he => by
    have hq := h.2.2.2
    have hl' := hls'.2.1
    have gl : ∀ (l : List Int), isN l → 0 ≤ l.getD k 0 ∧ l.getD k 0 ≤ 122 := fun l hl => by
      rw [List.getD_eq_getElem?_getD]
      by_cases c : k < l.length
      · rw [List.getElem?_eq_getElem c]
        have := hl.2.2 _ (List.getElem_mem c)
        simp only [Option.getD_some]
        omega
      · rw [List.getElem?_eq_none (by omega)]
        exact ⟨by decide, by decide⟩
    have g1 := gl ls hls
    have g2 := gl ls' hls'
    have ei : (zI ((12 : Int) * (j : Int) + 4 * (i : Int) + (k : Int))).toNatClampNeg = 12 * j + 4 * i + k := by
      rw [zI_clamp ⟨by omega, by omega⟩]
      omega
    -- behind the letter
    have s64 : ∀ y1, y1 = zI (ls'.getD k 0) → EvC G d m_M_isName 64 [some (.ref 91), some (.int (zI ((o : Int) + (b : Int)))), some (.int (zI (j : Int))), some (.int (zI (i : Int))), some (.int (zI 1)), some (.int (zI (n : Int))), some (.int (zI (k : Int)))] [.int y1, .int (zI (ls.getD k 0))] M (some (.int (zI (if pk ls' = pk ls then 1 else 0))), M) := fun y1 hy => by
      refine ev_M_isName_64 ?_
      rw [hy, zI_add, show (k : Int) + 1 = ((k + 1 : Nat) : Int) by omega]
      by_cases c : ls.getD k 0 = ls'.getD k 0
      · rw [if_pos (by rw [c])]
        exact isN_l h hj hi hls hls' hL hn hb hbl m (k + 1) (by omega) (fun i hi => by
          by_cases e : i = k
          · rw [e]; exact c
          · exact he i (by omega))
      · rw [if_neg (zI_ne ⟨by omega, by omega⟩ ⟨by omega, by omega⟩ c), if_neg (fun q => c ((ls_same hls hls').mpr q k (by omega)))]
        exact isN_f m (k + 1) (by omega)
    refine ev_M_isName_17 ?_
    rw [if_pos ((zI_lt ⟨by omega, by omega⟩ ⟨by omega, by omega⟩).mpr (by omega)), zI_0, if_neg z10, zI_mul, zI_mul, zI_add, zI_add, ei, show M.2.1 (91 + 5) (12 * j + 4 * i + k) = zI (ls.getD k 0) from hL k (by omega)]
    refine ⟨okF_W h.1 rfl, okA_W h.1 (show sg0[91 + 5]? = some (.inr (0, 72)) from rfl) (zI_in (by omega) (by omega) (by omega)), ?_⟩
    by_cases c : k < n
    · rw [if_pos ((zI_lt ⟨by omega, by omega⟩ ⟨by omega, by omega⟩).mpr (by omega)), zI_add, show (o : Int) + (b : Int) + (k : Int) = (o : Int) + ((b + k : Nat) : Int) by omega, mI h (i := b + k) (by omega)]
      exact ⟨okF_W h.1 rfl, mOk h (by omega), s64 _ (by rw [hb k c])⟩
    · rw [if_neg (fun q => by rw [zI_lt ⟨by omega, by omega⟩ ⟨by omega, by omega⟩] at q; omega)]
      exact s64 _ (by rw [List.getD_eq_getElem?_getD, List.getElem?_eq_none (by omega)]; rfl)
theorem e_M_isName {M : Mm_} {b v j i : Nat} {x' : Int} {P : List (List Int)} (h : mIn M o B) (hP : mPth M j P) (hj : j < 6) (hi : i < P.length) (hn : NmAt B b x' v) : Ev G (d + 1) 118 [.ref 91, .int (zI ((o : Int) + (b : Int))), .int (zI (j : Int)), .int (zI (i : Int))] M (some (.int (zI (if x' = (pks P).getD i 0 then 1 else 0))), M) := by
  have hq := h.2.2.2
  have hnm := e_M_nameEnd_at (G := G) (d := d) h hn
  obtain ⟨p1, p2, p3, p4⟩ := hP
  obtain ⟨ls', a1, a2, a3, a4, a5, a6, a7⟩ := hn
  have hbl : b + ls'.length < B.length := by_lt (by omega)
  have hls : isN (P.getD i []) := by
    rw [List.getD_eq_getElem?_getD, List.getElem?_eq_getElem hi]
    exact p4 _ (List.getElem_mem hi)
  refine ev_of (q := mt_M_isName) rfl (ev_M_isName_0 ⟨okO_W h.1 rfl, _, _, hnm, ev_M_isName_8 ?_⟩)
  rw [zI_sub, zI_sub, show (o : Int) + (v : Int) - 1 - ((o : Int) + (b : Int)) = (ls'.length : Int) by omega, pks_get, a7]
  exact isN_l h hj (by omega) hls ⟨a1, a2, a3⟩ (p3 i hi) rfl a4 hbl 4 0 rfl (fun i hi => absurd hi (by omega))
theorem seek_l {M : Mm_} {c j i z : Nat} {P : List (List Int)} {x1 : Int32} (h : mIn M o B) (hP : mPth M j P) (hj : j < 6) (hi : i < P.length) (ht : rTy N c = 3) (hz : z < B.length) : ∀ (ks : List Nat) (a : Nat) (f : Int) (u7 : Option Value), (∀ k ∈ ks, NdOk B N k ∧ rPa N k = (c : Int)) → Chn B N ks a z →
    EvC G (d + 2) m_M_seek 20 [some (.ref 91), some (.int x1), some (.int (zI (j : Int))), some (.int (zI (i : Int))), some (.int (zI ((o : Int) + (z : Int)))), some (.int (zI ((o : Int) + (a : Int)))), some (.int (zI f)), u7] [] M (some (.int (zI (skF o N ((pks P).getD i 0) ks f))), M)
  | [], a, f, u7, hk, hc => by
    have hq := h.2.2.2
    have hc : a = z := hc
    refine ev_M_seek_20 ?_
    rw [if_neg (fun q => by rw [zI_lt ⟨by omega, by omega⟩ ⟨by omega, by omega⟩] at q; omega)]
    rfl
  | k :: r, a, f, u7, hk, hc => by
    have hq := h.2.2.2
    obtain ⟨hc1, hc2⟩ := hc
    obtain ⟨g1, g2⟩ := hk k List.mem_cons_self
    have hr := fun k' hk' => hk k' (List.mem_cons_of_mem _ hk')
    obtain ⟨e1, e2, e3, e4, e5⟩ := rSt_rEn g1 g2 ht
    have hle := Chn_le ht r _ z hr hc2
    have hty : 1 ≤ rTy N k ∧ rTy N k ≤ 6 := ⟨g1.1, g1.2.1⟩
    subst hc1
    have hl : rSt N k < B.length := by omega
    have e1' : zI ((o : Int) + ((rSt N k : Nat) : Int)) + zI 1 = zI ((o : Int) + ((rSt N k + 1 : Nat) : Int)) := by rw [zI_add, show (o : Int) + ((rSt N k : Nat) : Int) + 1 = (o : Int) + ((rSt N k + 1 : Nat) : Int) by omega]
    have en := e_M_isName (G := G) (d := d) h hP hj hi e4
    have s47 : ∀ f', EvC G (d + 2) m_M_seek 47 [some (.ref 91), some (.int x1), some (.int (zI (j : Int))), some (.int (zI (i : Int))), some (.int (zI ((o : Int) + (z : Int)))), some (.int (zI ((o : Int) + ((rSt N k : Nat) : Int)))), some (.int (zI f)), u7] [.int (zI f')] M (some (.int (zI (skF o N ((pks P).getD i 0) r f'))), M) := fun f' => by
      refine ev_M_seek_47 ?_
      rw [e1']
      refine ⟨okO_W h.1 rfl, _, _, e_M_nameEnd_at h e4, ev_M_seek_57 ?_⟩
      rw [mI h hl, e3]
      exact ⟨okF_W h.1 rfl, mOk h hl, okO_W h.1 rfl, _, _, e_M_behind h hty e5, ev_M_seek_72 (seek_l h hP hj hi ht hz r _ f' _ hr hc2)⟩
    have e : skF o N ((pks P).getD i 0) (k :: r) f = skF o N ((pks P).getD i 0) r (if rNm N k = (pks P).getD i 0 then (o : Int) + ((rSt N k : Nat) : Int) else f) := rfl
    rw [e]
    refine ev_M_seek_20 ?_
    rw [if_pos ((zI_lt ⟨by omega, by omega⟩ ⟨by omega, by omega⟩).mpr (by omega)), e1']
    refine ⟨okO_W h.1 rfl, _, _, en, ev_M_seek_37 ?_⟩
    by_cases c : rNm N k = (pks P).getD i 0
    · rw [if_pos c, if_pos c, zI_0, if_neg z10]
      exact s47 _
    · rw [if_neg c, if_neg c, zI_0, if_pos rfl]
      exact s47 _
theorem e_M_seek {M : Mm_} {c j i : Nat} {P : List (List Int)} (h : mIn M o B) (hA : Acc B 3 0 N) (hP : mPth M j P) (hj : j < 6) (hi : i < P.length) (hc : c < N.length) (ht : rTy N c = 3) :
    Ev G (d + 2) 117 [.ref 91, .int (zI ((o : Int) + ((rPl N c : Nat) : Int))), .int (zI (j : Int)), .int (zI (i : Int))] M (some (.int (zI (skF o N ((pks P).getD i 0) (kids N c) (-1)))), M) := by
  have hq := h.2.2.2
  obtain ⟨w1, w2⟩ := hA.2.2.2.1 c hc (by simp)
  obtain ⟨w3, w4, w5⟩ := w2 (Or.inl ht)
  have hpl : rPl N c < B.length := by omega
  have hb := h.2.1 _ hpl
  have hen : rEn B N c = rPl N c + (by_ B (rPl N c)).toNat := by
    unfold rEn bh
    rw [ht, if_neg (by decide), if_neg (by decide), if_neg (by decide), if_neg (by decide)]
  refine ev_of (q := mt_M_seek) rfl (ev_M_seek_0 ?_)
  rw [mI h hpl, zI_add, zI_sub, zI_add, show (o : Int) + ((rPl N c : Nat) : Int) + by_ B (rPl N c) - 1 = (o : Int) + ((rEn B N c - 1 : Nat) : Int) by omega, show (o : Int) + ((rPl N c : Nat) : Int) + 1 = (o : Int) + ((rPl N c + 1 : Nat) : Int) by omega]
  exact ⟨okF_W h.1 rfl, mOk h hpl, seek_l h hP hj hi ht (by omega) (kids N c) _ (-1) none (fun k hk => ⟨hA.2.2.1 k (kids_lt hk).1, (kids_lt hk).2⟩) w3⟩
theorem e_M_lead {M : Mm_} {c j i : Nat} {P : List (List Int)} {L : List Nat} (h : mIn M o B) (hA : Acc B 3 0 N) (hP : mPth M j P) (hj : j < 6) (hi : i < P.length) (hc : c < N.length) (ht : rTy N c = 3) (hL : nxt M o N L) (hl : L.length + (leadN N ((pks P).getD i 0) c).length ≤ 128) :
    ∃ M', Ev G (d + 3) 116 [.ref 91, .int (zI ((o : Int) + ((rPl N c : Nat) : Int))), .int (zI (j : Int)), .int (zI (i : Int)), .int (zI (L.length : Int))] M (none, M') ∧ nxt M' o N (L ++ leadN N ((pks P).getD i 0) c) ∧ Fp pNx M M' := by
  have hq := h.2.2.2
  have es := e_M_seek (G := G) (d := d) h hA hP hj hi hc ht
  have lo := lead_one (x := (pks P).getD i 0) hA.2.2.2.2 ht
  have eL : (kids N c).filter (fun k => decide (rNm N k = (pks P).getD i 0)) = leadN N ((pks P).getD i 0) c := rfl
  rcases lo with lo | ⟨k, lo⟩
  · have sv : skF o N ((pks P).getD i 0) (kids N c) (-1) = -1 := by rw [skF_last, eL, lo]; rfl
    rw [sv] at es
    rw [lo]
    refine ⟨M, ev_of (q := mt_M_lead) rfl (ev_M_lead_0 ⟨okO_W h.1 rfl, _, _, es, ev_M_lead_7 ?_⟩), by rw [List.append_nil]; exact hL, Fp.rf⟩
    rw [zI_0, if_pos ((zI_lt ⟨by omega, by omega⟩ ⟨by omega, by omega⟩).mpr (by omega))]
  · have hk : k ∈ kids N c := (List.mem_filter.mp (by rw [← eL] at lo; rw [lo]; exact List.mem_cons_self : k ∈ (kids N c).filter (fun k => decide (rNm N k = (pks P).getD i 0)))).1
    obtain ⟨k1, k2⟩ := kids_lt hk
    obtain ⟨e1, e2, e3, e4, e5⟩ := rSt_rEn (hA.2.2.1 k k1) k2 ht
    have hty := (hA.2.2.1 k k1).1
    have hsl : rSt N k < B.length := by_lt (by omega)
    have sv : skF o N ((pks P).getD i 0) (kids N c) (-1) = (o : Int) + ((rSt N k : Nat) : Int) := by rw [skF_last, eL, lo]; rfl
    rw [sv] at es
    rw [lo] at hl ⊢
    simp only [List.length_singleton] at hl
    have f1 : Fp pNx M (am_setI (am_setI (am_setI M 102 L.length (zI (rTy N k))) 103 L.length (zI ((o : Int) + ((rPl N k : Nat) : Int)))) 91 13 (zI ((L.length + 1 : Nat) : Int))) := Fp.tr (Fp.tr (Fp.set (Or.inr (Or.inl rfl))) (Fp.set (Or.inr (Or.inr rfl)))) (Fp.set (Or.inl ⟨rfl, rfl⟩))
    refine ⟨_, ev_of (q := mt_M_lead) rfl (ev_M_lead_0 ⟨okO_W h.1 rfl, _, _, es, ev_M_lead_7 ?_⟩), nxt_add hL rfl, f1⟩
    have h1 : mIn (am_setI M (91 + 11) L.length (zI (rTy N k))) o B := ⟨WM_setI h.1, h.2.1, fun i hi => by rw [setI_cell (by decide)]; exact h.2.2.1 i hi, hq⟩
    rw [zI_0, if_neg (fun q => by rw [zI_lt ⟨by omega, by omega⟩ ⟨by omega, by omega⟩] at q; omega), mI h hsl, e3, zI_nat (by omega), zI_add, show (o : Int) + ((rSt N k : Nat) : Int) + 1 = (o : Int) + ((rSt N k + 1 : Nat) : Int) by omega]
    refine ⟨okF_W h.1 rfl, okF_W h.1 rfl, mOk h hsl, okA_z h.1 (show sg0[91 + 11]? = some (.inr (0, 128)) from rfl) (by omega) (by omega), okF_W h1.1 rfl, okO_W h1.1 rfl, _, _, e_M_nameEnd_at h1 e4, ev_M_lead_43 ?_⟩
    rw [zI_nat (by omega), zI_add, show (L.length : Int) + 1 = ((L.length + 1 : Nat) : Int) by omega]
    exact ⟨okA_z h1.1 (show sg0[91 + 12]? = some (.inr (0, 128)) from rfl) (by omega) (by omega), okP_W (WM_setI h1.1) rfl rfl, rfl⟩
end MSEEK
