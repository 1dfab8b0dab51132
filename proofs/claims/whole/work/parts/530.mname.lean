/-! THE REFERENCE's reader: readPlain, readName -/
def pkr : List Int → Int
  | [] => 0
  | y :: r => pkr r * 256 + y
theorem pkr_nn : ∀ l : List Int, (∀ y ∈ l, 97 ≤ y ∧ y ≤ 122) → 0 ≤ pkr l
  | [], _ => Int.le_refl _
  | y :: r, h => by
    have h1 := pkr_nn r (fun z hz => h z (List.mem_cons_of_mem _ hz))
    have h2 := h y List.mem_cons_self
    show 0 ≤ pkr r * 256 + y
    omega
theorem pkr_inj : ∀ l l' : List Int, (∀ y ∈ l, 97 ≤ y ∧ y ≤ 122) → (∀ y ∈ l', 97 ≤ y ∧ y ≤ 122) → pkr l = pkr l' → l = l'
  | [], [], _, _, _ => rfl
  | [], y :: r, _, h, e => by
    have h1 := pkr_nn r (fun z hz => h z (List.mem_cons_of_mem _ hz))
    have h2 := h y List.mem_cons_self
    have e : (0 : Int) = pkr r * 256 + y := e
    omega
  | y :: r, [], h, _, e => by
    have h1 := pkr_nn r (fun z hz => h z (List.mem_cons_of_mem _ hz))
    have h2 := h y List.mem_cons_self
    have e : pkr r * 256 + y = (0 : Int) := e
    omega
  | y :: r, y' :: r', h, h', e => by
    have h2 := h y List.mem_cons_self
    have h3 := h' y' List.mem_cons_self
    have e : pkr r * 256 + y = pkr r' * 256 + y' := e
    have e1 : y = y' := by omega
    have e2 : pkr r = pkr r' := by omega
    rw [e1, pkr_inj r r' (fun z hz => h z (List.mem_cons_of_mem _ hz)) (fun z hz => h' z (List.mem_cons_of_mem _ hz)) e2]
theorem pkr_app : ∀ (l : List Int) (y : Int), pk (l ++ [y]) = pk l * 256 + y := fun l y => by
  unfold pk
  rw [List.foldl_append]
  rfl
theorem pk_rev : ∀ l : List Int, pk l.reverse = pkr l
  | [] => rfl
  | y :: r => by rw [List.reverse_cons, pkr_app, pk_rev r]; rfl
theorem pk_inj {l l' : List Int} (h : ∀ y ∈ l, 97 ≤ y ∧ y ≤ 122) (h' : ∀ y ∈ l', 97 ≤ y ∧ y ≤ 122) (e : pk l = pk l') : l = l' := by
  have e' : pkr l.reverse = pkr l'.reverse := by rw [← pk_rev, ← pk_rev, List.reverse_reverse, List.reverse_reverse]; exact e
  have := pkr_inj _ _ (fun y hy => h y (List.mem_reverse.mp hy)) (fun y hy => h' y (List.mem_reverse.mp hy)) e'
  exact List.reverse_inj.mp this
/-- two names are one where their bytes are -/
theorem nm_same {B : List Int} {a p q q' n : Nat} {x x' : Int} (h' : NmAt B a x' q') (h : NmAt B p x q) (hq : q = p + n + 1) : (∀ j, j < n + 1 → by_ B (a + j) = by_ B (p + j)) ↔ x' = x := by
  obtain ⟨ls', a1, a2, a3, a4, a5, a6, a7⟩ := h'
  obtain ⟨ls, b1, b2, b3, b4, b5, b6, b7⟩ := h
  have hn : n = ls.length := by omega
  subst hn
  constructor
  · intro hh
    have l1 : ¬ ls.length < ls'.length := fun c => by
      have e1 := hh ls.length (by omega)
      rw [a4 _ c, b5, List.getD_eq_getElem?_getD, List.getElem?_eq_getElem c] at e1
      have := a3 _ (List.getElem_mem c)
      simp only [Option.getD_some] at e1
      omega
    have l2 : ¬ ls'.length < ls.length := fun c => by
      have e1 := hh ls'.length (by omega)
      rw [b4 _ c, a5, List.getD_eq_getElem?_getD, List.getElem?_eq_getElem c] at e1
      have := b3 _ (List.getElem_mem c)
      simp only [Option.getD_some] at e1
      omega
    have e : ls' = ls := by
      apply List.ext_getElem (by omega)
      intro i h1 h2
      have e1 := hh i (by omega)
      rw [a4 i h1, b4 i h2, List.getD_eq_getElem?_getD, List.getElem?_eq_getElem h1, List.getD_eq_getElem?_getD, List.getElem?_eq_getElem h2] at e1
      exact e1
    rw [a7, b7, e]
  · intro e
    have e : ls' = ls := pk_inj a3 b3 (by rw [← a7, ← b7]; exact e)
    subst e
    intro j hj
    by_cases c : j = ls'.length
    · subst c
      rw [a5, b5]
    · rw [a4 j (by omega), b4 j (by omega)]
theorem rb255 {B : List Int} (h : okB B) : ∀ (k p : Nat), p ≤ B.length → rb B 0 255 k p = if p + k ≤ B.length then .inr (p + k) else .inl B.length
  | 0, p, hp => by rw [if_pos (by omega)]; rfl
  | k + 1, p, hp => by
    have e : rb B 0 255 (k + 1) p = if 0 ≤ by_ B p ∧ by_ B p ≤ 255 then rb B 0 255 k (p + 1) else .inl p := rfl
    rw [e]
    rcases bO h p with ⟨c, hc⟩ | ⟨c, hc⟩
    · rw [if_pos hc, rb255 h k (p + 1) (by omega), show p + 1 + k = p + (k + 1) by omega]
    · rw [if_neg (by omega), if_neg (by omega), show p = B.length by omega]
section MNAME
variable {G : Nat × (Nat → Int32)} {d o : Nat} {B : List Int}
/-! plain values -/
theorem pl_ok {M : Mm_} {x1 : Int32} {p n : Nat} {r : Out_} (h : mIn M o B) (hn : p + n ≤ B.length) (kk : EvC G (d + 1) m_M_readPlain 36 [some (.ref 91), some (.int x1), some (.int (zI ((o : Int) + (p : Int)))), some (.int (zI ((o : Int) + (B.length : Int)))), some (.int (zI n)), some (.int (zI n))] [] M r) :
    ∀ m k, k + m = n → EvC G (d + 1) m_M_readPlain 36 [some (.ref 91), some (.int x1), some (.int (zI ((o : Int) + (p : Int)))), some (.int (zI ((o : Int) + (B.length : Int)))), some (.int (zI n)), some (.int (zI k))] [] M r
  | 0, k, hk => by rw [show k = n by omega]; exact kk
  | m + 1, k, hk => by
    have hq := h.2.2.2
    refine ev_M_readPlain_36 ?_
    rw [if_pos ((zI_lt ⟨by omega, by omega⟩ ⟨by omega, by omega⟩).mpr (by omega)), zI_add, if_pos ((zI_lt ⟨by omega, by omega⟩ ⟨by omega, by omega⟩).mpr (by omega)), zI_add, show (k : Int) + 1 = ((k + 1 : Nat) : Int) by omega]
    exact pl_ok h hn kk m (k + 1) (by omega)
theorem pl_f {M : Mm_} {x1 x2 x3 : Int32} {n : Nat} {g : Int} (hn : n ≤ 1000) (hW : WM M) (hf : M.2.1 91 20 = zI g) (hg : 0 ≤ g ∧ g < 5000) :
    ∀ m k, k + m = n → EvC G (d + 1) m_M_readPlain 36 [some (.ref 91), some (.int x1), some (.int x2), some (.int x3), some (.int (zI n)), some (.int (zI k))] [] M (some (.int (x2 + zI n)), M)
  | 0, k, hk => by
    refine ev_M_readPlain_36 ?_
    rw [if_neg (fun q => by rw [zI_lt ⟨by omega, by omega⟩ ⟨by omega, by omega⟩] at q; omega)]
    split
    · rw [if_neg (fPos hf hg)]
      exact ⟨okF_W hW rfl, rfl⟩
    · rfl
  | m + 1, k, hk => by
    have ih := pl_f (x1 := x1) (x2 := x2) (x3 := x3) hn hW hf hg m (k + 1) (by omega)
    refine ev_M_readPlain_36 ?_
    rw [if_pos ((zI_lt ⟨by omega, by omega⟩ ⟨by omega, by omega⟩).mpr (by omega))]
    have e : zI (k : Int) + zI 1 = zI ((k + 1 : Nat) : Int) := by rw [zI_add, show (k : Int) + 1 = ((k + 1 : Nat) : Int) by omega]
    split
    · rw [e]
      exact ih
    · refine ⟨okO_W hW rfl, _, _, e_M_wrong_old hW hf hg, ev_M_readPlain_59 ?_⟩
      rw [e]
      exact ih
/-- too few bytes -/
theorem pl_bad {M : Mm_} {x1 : Int32} {p n : Nat} (hn : n ≤ 1000) (h : mIn M o B) (hf : M.2.1 91 20 = zI (-1)) (hp : p ≤ B.length) (hl : B.length < p + n) : ∀ m k, p + k + m = B.length → EvC G (d + 1) m_M_readPlain 36 [some (.ref 91), some (.int x1), some (.int (zI ((o : Int) + (p : Int)))), some (.int (zI ((o : Int) + (B.length : Int)))), some (.int (zI n)), some (.int (zI k))] [] M (some (.int (zI ((o : Int) + (p : Int)) + zI n)), am_setI M 91 20 (zI ((o : Int) + (B.length : Int))))
  | 0, k, hk => by
    have hq := h.2.2.2
    refine ev_M_readPlain_36 ?_
    rw [if_pos ((zI_lt ⟨by omega, by omega⟩ ⟨by omega, by omega⟩).mpr (by omega)), zI_add (o + p : Int), if_neg (fun q => by rw [zI_lt ⟨by omega, by omega⟩ ⟨by omega, by omega⟩] at q; omega), show (o : Int) + (p : Int) + (k : Int) = (o : Int) + (B.length : Int) by omega]
    refine ⟨okO_W h.1 rfl, _, _, e_M_wrong h.1 hf, ev_M_readPlain_59 ?_⟩
    rw [zI_add (k : Int) 1, show (k : Int) + 1 = ((k + 1 : Nat) : Int) by omega]
    exact pl_f (g := (o : Int) + (B.length : Int)) hn (WM_setI h.1) setI_self ⟨by omega, by omega⟩ (n - (k + 1)) (k + 1) (by omega)
  | m + 1, k, hk => by
    have hq := h.2.2.2
    refine ev_M_readPlain_36 ?_
    rw [if_pos ((zI_lt ⟨by omega, by omega⟩ ⟨by omega, by omega⟩).mpr (by omega)), zI_add (o + p : Int) (k : Int), if_pos ((zI_lt ⟨by omega, by omega⟩ ⟨by omega, by omega⟩).mpr (by omega)), zI_add (k : Int) 1, show (k : Int) + 1 = ((k + 1 : Nat) : Int) by omega]
    exact pl_bad hn h hf hp hl m (k + 1) (by omega)
theorem e_M_readPlain {M : Mm_} {p : Nat} {t : Int} (h : mIn M o B) (hf : M.2.1 91 20 = zI (-1)) (hp : p ≤ B.length) (ht : t = 1 ∨ t = 2 ∨ t = 5 ∨ t = 6) : ∃ M' x, Ev G (d + 2) 99 [.ref 91, .int (zI t), .int (zI ((o : Int) + (p : Int))), .int (zI ((o : Int) + (B.length : Int)))] M (some (.int x), M') ∧ pOut M o M' x (rdC B t p) := by
  have hq := h.2.2.2
  have fin : ∀ n : Nat, ¬ t = 5 → p + n ≤ B.length → n ≤ 2 → EvC G (d + 2) m_M_readPlain 36 [some (.ref 91), some (.int (zI t)), some (.int (zI ((o : Int) + (p : Int)))), some (.int (zI ((o : Int) + (B.length : Int)))), some (.int (zI n)), some (.int (zI 0))] [] M (some (.int (zI ((o : Int) + ((p + n : Nat) : Int)))), M) := fun n t5 hn hn2 => by
    refine pl_ok h hn (ev_M_readPlain_36 ?_) n 0 (by omega)
    rw [if_neg (fun q => by rw [zI_lt ⟨by omega, by omega⟩ ⟨by omega, by omega⟩] at q; omega), if_neg (zI_ne ⟨by omega, by omega⟩ ⟨by omega, by omega⟩ t5), zI_add, show (o : Int) + (p : Int) + (n : Int) = (o : Int) + ((p + n : Nat) : Int) by omega]
  rcases ht with rfl | rfl | rfl | rfl
  · have e : rdC B 1 p = if p + 2 ≤ B.length then .inr (p + 2) else .inl B.length := rb255 h.2.1 2 p hp
    rw [e]
    by_cases c : p + 2 ≤ B.length
    · rw [if_pos c]
      refine ⟨M, _, ev_of (q := mt_M_readPlain) rfl (ev_M_readPlain_0 ?_), (show pOut _ _ _ _ (.inr _) from ⟨rfl, rfl⟩)⟩
      rw [if_neg (by decide +kernel), if_pos rfl]
      exact fin 2 (by decide) c (by omega)
    · rw [if_neg c]
      refine ⟨am_setI M 91 20 (zI ((o : Int) + (B.length : Int))), zI ((o : Int) + (p : Int)) + zI (2 : Nat), ev_of (q := mt_M_readPlain) rfl (ev_M_readPlain_0 ?_), rfl⟩
      rw [if_neg (by decide +kernel), if_pos rfl]
      exact pl_bad (n := 2) (by omega) h hf hp (by omega) (B.length - p) 0 (by omega)
  · obtain ⟨M', x, e, w⟩ := e_M_readText (G := G) (d := d) h hf hp
    refine ⟨M', x, ev_of (q := mt_M_readPlain) rfl (ev_M_readPlain_0 ?_), w⟩
    rw [if_pos rfl]
    exact ⟨okO_W h.1 rfl, _, _, e, ev_M_readPlain_11 rfl⟩
  · have e : rdC B 5 p = if 0 ≤ by_ B p ∧ by_ B p ≤ 1 then .inr (p + 1) else .inl p := rfl
    rw [e]
    by_cases cp : p < B.length
    · have hb := h.2.1 p cp
      by_cases c : by_ B p ≤ 1
      · rw [if_pos ⟨hb.1, c⟩]
        refine ⟨M, _, ev_of (q := mt_M_readPlain) rfl (ev_M_readPlain_0 ?_), (show pOut _ _ _ _ (.inr _) from ⟨rfl, rfl⟩)⟩
        rw [if_neg (by decide +kernel), if_neg (by decide +kernel), if_pos rfl]
        refine pl_ok (n := 1) h (by omega) (ev_M_readPlain_36 ?_) 1 0 (by omega)
        rw [if_neg (fun q => by rw [zI_lt ⟨by omega, by omega⟩ ⟨by omega, by omega⟩] at q; omega), if_pos rfl, if_pos (fNeg hf), mI h cp, if_neg (fun q => by rw [zI_lt ⟨by omega, by omega⟩ ⟨by omega, by omega⟩] at q; omega), zI_add, show (o : Int) + (p : Int) + ((1 : Nat) : Int) = (o : Int) + ((p + 1 : Nat) : Int) by omega]
        exact ⟨okF_W h.1 rfl, okF_W h.1 rfl, mOk h cp, rfl⟩
      · rw [if_neg (fun q => c q.2)]
        refine ⟨am_setI M 91 20 (zI ((o : Int) + (p : Int))), zI ((o : Int) + (p : Int)) + zI (1 : Nat), ev_of (q := mt_M_readPlain) rfl (ev_M_readPlain_0 ?_), rfl⟩
        rw [if_neg (by decide +kernel), if_neg (by decide +kernel), if_pos rfl]
        refine pl_ok (n := 1) h (by omega) (ev_M_readPlain_36 ?_) 1 0 (by omega)
        rw [if_neg (fun q => by rw [zI_lt ⟨by omega, by omega⟩ ⟨by omega, by omega⟩] at q; omega), if_pos rfl, if_pos (fNeg hf), mI h cp, if_pos ((zI_lt ⟨by omega, by omega⟩ ⟨by omega, by omega⟩).mpr (by omega))]
        exact ⟨okF_W h.1 rfl, okF_W h.1 rfl, mOk h cp, okO_W h.1 rfl, _, _, e_M_wrong h.1 hf, ev_M_readPlain_93 rfl⟩
    · have hb := by_out (B := B) (p := p) (by omega)
      have hpe : p = B.length := by omega
      rw [if_neg (by omega)]
      refine ⟨am_setI M 91 20 (zI ((o : Int) + (p : Int))), zI ((o : Int) + (p : Int)) + zI (1 : Nat), ev_of (q := mt_M_readPlain) rfl (ev_M_readPlain_0 ?_), rfl⟩
      rw [if_neg (by decide +kernel), if_neg (by decide +kernel), if_pos rfl]
      have := pl_bad (G := G) (d := d + 1) (x1 := zI 5) (n := 1) (by omega) h hf hp (by omega) 0 0 (by omega)
      rw [← hpe] at this
      rw [← hpe]
      exact this
  · have e : rdC B 6 p = .inr p := rfl
    rw [e]
    refine ⟨M, _, ev_of (q := mt_M_readPlain) rfl (ev_M_readPlain_0 ?_), (show pOut _ _ _ _ (.inr p) from ⟨rfl, rfl⟩)⟩
    rw [if_neg (by decide +kernel), if_neg (by decide +kernel), if_neg (by decide +kernel)]
    exact fin 0 (by decide) (by omega) (by omega)
end MNAME
