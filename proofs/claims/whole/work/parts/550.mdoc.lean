/-! THE REFERENCE's reader: read -/
def stk (M : Mm_) (o : Nat) (N : List Nd) : List Nat → Prop
  | [] => True
  | c :: r => M.2.1 104 (r.length + 1) = zI ((o : Int) + ((rPl N c : Nat) : Int)) ∧ M.2.1 105 (r.length + 1) = zI (rTy N c) ∧ stk M o N r
/-- the places that the reader writes -/
def pRd (a j : Nat) : Prop := (a = 91 ∧ j = 20) ∨ a = 104 ∨ a = 105
def fo (o : Nat) : Nat ⊕ List Nd → Int
  | .inl f => (o : Int) + (f : Int)
  | .inr _ => -1
theorem stk_up {M M1 : Mm_} {o : Nat} {N N1 : List Nd} : ∀ (S : List Nat), (∀ j, j ≤ S.length → M1.2.1 104 j = M.2.1 104 j ∧ M1.2.1 105 j = M.2.1 105 j) → (∀ c ∈ S, rPl N1 c = rPl N c ∧ rTy N1 c = rTy N c) → stk M o N S → stk M1 o N1 S
  | [], _, _, _ => trivial
  | c :: r, hj, hc, h => by
    obtain ⟨h1, h2, h3⟩ := h
    have j1 := hj (r.length + 1) (by simp)
    have c1 := hc c List.mem_cons_self
    exact ⟨by rw [j1.1, c1.1]; exact h1, by rw [j1.2, c1.2]; exact h2, stk_up r (fun j hj' => hj j (by simp only [List.length_cons]; omega)) (fun c' hc' => hc c' (List.mem_cons_of_mem _ hc')) h3⟩
theorem rdC_c {B : List Int} {t : Int} {q : Nat} (h : isC t) : rdC B t q = if 0 ≤ by_ B q ∧ by_ B q ≤ 255 then .inr (q + 1) else .inl q := by
  rcases h with rfl | rfl <;> rfl
theorem rb_fl {B : List Int} {lo hi : Int} (h0 : 0 ≤ lo) : ∀ (k p g : Nat), p ≤ B.length → rb B lo hi k p = .inl g → g ≤ B.length
  | 0, p, g, hp, h => by cases h
  | k + 1, p, g, hp, h => by
    have e : rb B lo hi (k + 1) p = if lo ≤ by_ B p ∧ by_ B p ≤ hi then rb B lo hi k (p + 1) else .inl p := rfl
    rw [e] at h
    by_cases c : lo ≤ by_ B p ∧ by_ B p ≤ hi
    · rw [if_pos c] at h
      have := by_lt (B := B) (p := p) (by omega)
      exact rb_fl h0 k (p + 1) g (by omega) h
    · rw [if_neg c] at h
      have := Sum.inl.inj h
      omega
theorem rdC_fl {B : List Int} {t : Int} {p g : Nat} (hp : p ≤ B.length) (h : rdC B t p = .inl g) : g ≤ B.length := by
  by_cases c2 : t = 2
  · subst c2
    rw [rdC_2] at h
    by_cases c : 0 ≤ by_ B p ∧ by_ B p ≤ 8
    · rw [if_pos c] at h
      have := by_lt c.1
      exact rb_fl (by decide) _ (p + 1) g (by omega) h
    · rw [if_neg c] at h
      have := Sum.inl.inj h
      omega
  · unfold rdC at h
    rw [if_neg c2] at h
    split at h
    · exact rb_fl (by decide) _ p g hp h
    · split at h
      · exact rb_fl (by decide) _ p g hp h
      · split at h
        · cases h
        · exact rb_fl (by decide) _ p g hp h
section MDOC
variable {G : Nat × (Nat → Int32)} {d o : Nat} {B : List Int}
section FAULT
variable {M : Mm_} {x1 x2 x3 x4 x5 x6 x7 x8 : Int32} {u8 : Option Value} {g : Int}
theorem rd_f367 (hW : WM M) (hf : M.2.1 91 20 = zI g) (hg : 0 ≤ g ∧ g < 5000) : EvC G (d + 1) m_M_read 367 [some (.ref 91), some (.int x1), some (.int x2), some (.int x3), some (.int x4), some (.int x5), some (.int x6), some (.int x7), u8] [] M (some (.int (zI g)), M) := by
  refine ev_M_read_367 ?_
  rw [if_neg (fPos hf hg), hf]
  exact ⟨okF_W hW rfl, okF_W hW rfl, rfl⟩
theorem rd_f71 (hW : WM M) (hf : M.2.1 91 20 = zI g) (hg : 0 ≤ g ∧ g < 5000) : EvC G (d + 1) m_M_read 71 [some (.ref 91), some (.int x1), some (.int x2), some (.int x3), some (.int x4), some (.int x5), some (.int x6), some (.int x7), u8] [] M (some (.int (zI g)), M) := by
  refine ev_M_read_71 ?_
  rw [if_neg (fPos hf hg)]
  split
  · exact rd_f367 hW hf hg
  · exact ⟨okF_W hW rfl, rd_f367 hW hf hg⟩
theorem rd_f167 {y0 : Int32} (hW : WM M) (hf : M.2.1 91 20 = zI g) (hg : 0 ≤ g ∧ g < 5000) : EvC G (d + 1) m_M_read 167 [some (.ref 91), some (.int x1), some (.int x2), some (.int x3), some (.int x4), some (.int x5), some (.int x6), some (.int x7), u8] [.int y0] M (some (.int (zI g)), M) := by
  refine ev_M_read_167 ?_
  rw [if_neg (fPos hf hg)]
  split
  · exact rd_f71 hW hf hg
  · exact ⟨okF_W hW rfl, rd_f71 hW hf hg⟩
theorem rd_f157 (hW : WM M) (hf : M.2.1 91 20 = zI g) (hg : 0 ≤ g ∧ g < 5000) : EvC G (d + 1) m_M_read 157 [some (.ref 91), some (.int x1), some (.int x2), some (.int x3), some (.int x4), some (.int x5), some (.int x6), some (.int x7), u8] [] M (some (.int (zI g)), M) := by
  refine ev_M_read_157 ?_
  split
  · exact rd_f167 hW hf hg
  · exact rd_f167 hW hf hg
theorem rd_f278 (hW : WM M) (hf : M.2.1 91 20 = zI g) (hg : 0 ≤ g ∧ g < 5000) : EvC G (d + 1) m_M_read 278 [some (.ref 91), some (.int x1), some (.int x2), some (.int x3), some (.int x4), some (.int x5), some (.int x6), some (.int x7), some (.int (zI 0))] [] M (some (.int (zI g)), M) := by
  refine ev_M_read_278 ?_
  rw [if_neg (fPos hf hg), zI_0, if_pos rfl]
  exact ⟨okF_W hW rfl, rd_f71 hW hf hg⟩
theorem rd_f209 (hW : WM M) (hf : M.2.1 91 20 = zI g) (hg : 0 ≤ g ∧ g < 5000) : EvC G (d + 1) m_M_read 209 [some (.ref 91), some (.int x1), some (.int x2), some (.int x3), some (.int x4), some (.int x5), some (.int x6), some (.int x7), u8] [] M (some (.int (zI g)), M) := by
  refine ev_M_read_209 ?_
  rw [if_neg (fPos hf hg)]
  refine ⟨okF_W hW rfl, ev_M_read_230 (ev_M_read_231 ?_)⟩
  rw [if_neg (fPos hf hg)]
  refine ⟨okF_W hW rfl, ev_M_read_251 ?_⟩
  rw [if_neg (show ¬ zI 0 = zI 3 by decide +kernel), if_neg (show ¬ zI 0 = zI 4 by decide +kernel)]
  split
  · exact rd_f278 hW hf hg
  · exact rd_f278 hW hf hg
end FAULT
theorem pRd_ft {M : Mm_} {x : Int32} : Fp pRd M (am_setI M 91 20 x) := Fp.set (Or.inl ⟨rfl, rfl⟩)
/-- a value's content -/
theorem ct_step {M : Mm_} {z : Nat} {N : List Nd} {S : List Nat} {t x : Int} {s q : Nat} {x1 x2 : Int32} {u8 : Option Value} {T : Int} (h : mIn M o B) (hf : M.2.1 91 20 = zI (-1)) (hq : q ≤ B.length) (ht : 1 ≤ t ∧ t ≤ 6) (hd : isC t → S.length < 4) (hl : S.length ≤ 4) (hs : stk M o N S) (hlt : ∀ c ∈ S, c < N.length)
    (kf : ∀ g, rdV B (z, N, S) t x s q = .inl g → T = (o : Int) + (g : Int))
    (kk : ∀ (P' : Rs) (M1 : Mm_) (x6 x7 : Int32) (u8 : Option Value), rdV B (z, N, S) t x s q = .inr P' → mIn M1 o B → M1.2.1 91 20 = zI (-1) → stk M1 o P'.2.1 P'.2.2 → ∃ M', EvC G (d + 3) m_M_read 157 [some (.ref 91), some (.int x1), some (.int x2), some (.int (zI ((o : Int) + (B.length : Int)))), some (.int (zI (P'.2.2.length : Int))), some (.int (zI ((o : Int) + (P'.1 : Int)))), some (.int x6), some (.int x7), u8] [] M1 (some (.int (zI T)), M') ∧ Fp pRd M1 M') :
    ∃ M', EvC G (d + 3) m_M_read 71 [some (.ref 91), some (.int x1), some (.int x2), some (.int (zI ((o : Int) + (B.length : Int)))), some (.int (zI (S.length : Int))), some (.int (zI ((o : Int) + (q : Int)))), some (.int (zI t)), some (.int (zI 1)), u8] [] M (some (.int (zI T)), M') ∧ Fp pRd M M' := by
  have hm := h.2.2.2
  have rt : rg t := ⟨by omega, by omega⟩
  by_cases hc : isC t
  · have hd := hd hc
    -- the new one
    have n1 : ∀ M0 : Mm_, WM M0 → ∀ R, EvC G (d + 3) m_M_read 157 [some (.ref 91), some (.int x1), some (.int x2), some (.int (zI ((o : Int) + (B.length : Int)))), some (.int (zI ((S.length + 1 : Nat) : Int))), some (.int (zI ((o : Int) + ((q + 1 : Nat) : Int)))), some (.int (zI t)), some (.int (zI 1)), u8] [] (am_setI (am_setI M0 (91 + 13) (S.length + 1) (zI ((o : Int) + (q : Int)))) (91 + 14) (S.length + 1) (zI t)) R →
        EvC G (d + 3) m_M_read 108 [some (.ref 91), some (.int x1), some (.int x2), some (.int (zI ((o : Int) + (B.length : Int)))), some (.int (zI (S.length : Int))), some (.int (zI ((o : Int) + (q : Int)))), some (.int (zI t)), some (.int (zI 1)), u8] [] M0 R := fun M0 hW R k => by
      refine ev_M_read_108 ?_
      rw [zI_add, zI_add, show (S.length : Int) + 1 = ((S.length + 1 : Nat) : Int) by omega, zI_nat (by omega), show (o : Int) + (q : Int) + 1 = (o : Int) + ((q + 1 : Nat) : Int) by omega]
      exact ⟨okF_W hW rfl, okA_z hW (show sg0[91 + 13]? = some (.inr (0, 6)) from rfl) (by omega) (by omega), okF_W (WM_setI hW) rfl, okA_z (WM_setI hW) (show sg0[91 + 14]? = some (.inr (0, 6)) from rfl) (by omega) (by omega), k⟩
    have to95 : ∀ R, EvC G (d + 3) m_M_read 95 [some (.ref 91), some (.int x1), some (.int x2), some (.int (zI ((o : Int) + (B.length : Int)))), some (.int (zI (S.length : Int))), some (.int (zI ((o : Int) + (q : Int)))), some (.int (zI t)), some (.int (zI 1)), u8] [] M R →
        EvC G (d + 3) m_M_read 71 [some (.ref 91), some (.int x1), some (.int x2), some (.int (zI ((o : Int) + (B.length : Int)))), some (.int (zI (S.length : Int))), some (.int (zI ((o : Int) + (q : Int)))), some (.int (zI t)), some (.int (zI 1)), u8] [] M R := fun R k => by
      refine ev_M_read_71 ?_
      rw [if_pos (fNeg hf), zI_0, if_neg z10]
      refine ⟨okF_W h.1 rfl, ?_⟩
      rcases hc with rfl | rfl
      · rw [if_pos rfl]
        exact k
      · rw [if_neg (by decide +kernel), if_pos rfl]
        exact k
    have hV : rdV B (z, N, S) t x s q = match rdC B t q with
      | .inl f => .inl f
      | .inr q' => .inr (q', N ++ [(t, x, s, q, opn S)], if t = 3 ∨ t = 4 then N.length :: S else S) := rfl
    rw [rdC_c hc] at hV
    rcases bO h.2.1 q with ⟨c, hb⟩ | ⟨c, hb⟩
    · rw [if_pos hb, if_pos (show t = 3 ∨ t = 4 from hc)] at hV
      have h1 : mIn (am_setI (am_setI M (91 + 13) (S.length + 1) (zI ((o : Int) + (q : Int)))) (91 + 14) (S.length + 1) (zI t)) o B := ⟨WM_setI (WM_setI h.1), h.2.1, fun i hi => by rw [setI_cell (by decide), setI_cell (by decide)]; exact h.2.2.1 i hi, hm⟩
      have f1 : Fp pRd M (am_setI (am_setI M (91 + 13) (S.length + 1) (zI ((o : Int) + (q : Int)))) (91 + 14) (S.length + 1) (zI t)) := Fp.tr (Fp.set (Or.inr (Or.inl rfl))) (Fp.set (Or.inr (Or.inr rfl)))
      have s1 : stk (am_setI (am_setI M (91 + 13) (S.length + 1) (zI ((o : Int) + (q : Int)))) (91 + 14) (S.length + 1) (zI t)) o (N ++ [(t, x, s, q, opn S)]) (N.length :: S) := by
        refine ⟨?_, ?_, stk_up S (fun j hj => ⟨?_, ?_⟩) (fun c hc => ⟨rPl_app (hlt c hc), rTy_app (hlt c hc)⟩) hs⟩
        · rw [setI_cell (by decide)]
          show (am_setI M 104 (S.length + 1) _).2.1 104 (S.length + 1) = _
          rw [setI_self]
          unfold rPl
          rw [nd_app_eq]
        · show (am_setI _ 105 (S.length + 1) _).2.1 105 (S.length + 1) = _
          rw [setI_self]
          unfold rTy
          rw [nd_app_eq]
        · rw [setI_cell (by decide)]
          show (am_setI M 104 (S.length + 1) _).2.1 104 j = _
          rw [setI_idx (by omega)]
        · show (am_setI _ 105 (S.length + 1) _).2.1 105 j = _
          rw [setI_idx (by omega), setI_cell (by decide)]
      obtain ⟨M', e, f2⟩ := kk _ _ (zI t) (zI 1) u8 hV h1 (by rw [setI_cell (by decide), setI_cell (by decide)]; exact hf) s1
      refine ⟨M', to95 _ (ev_M_read_95 ?_), f1.tr f2⟩
      rw [if_pos ((zI_lt ⟨by omega, by omega⟩ ⟨by omega, by omega⟩).mpr (by omega))]
      exact n1 M h.1 _ e
    · rw [if_neg (by omega)] at hV
      have hT := kf _ hV
      let M0 := am_setI M 91 20 (zI ((o : Int) + (q : Int)))
      let M1 := am_setI (am_setI M0 (91 + 13) (S.length + 1) (zI ((o : Int) + (q : Int)))) (91 + 14) (S.length + 1) (zI t)
      have f1 : Fp pRd M M1 := Fp.tr pRd_ft (Fp.tr (Fp.set (Or.inr (Or.inl rfl))) (Fp.set (Or.inr (Or.inr rfl))))
      have hf1 : M1.2.1 91 20 = zI T := by
        show (am_setI (am_setI M0 (91 + 13) _ _) (91 + 14) _ _).2.1 91 20 = _
        rw [setI_cell (by decide), setI_cell (by decide), setI_self, hT]
      refine ⟨M1, to95 _ (ev_M_read_95 ?_), f1⟩
      rw [if_neg (fun q => by rw [zI_lt ⟨by omega, by omega⟩ ⟨by omega, by omega⟩] at q; omega)]
      exact ⟨okO_W h.1 rfl, _, _, e_M_wrong h.1 hf, ev_M_read_107 (n1 M0 (WM_setI h.1) _ (rd_f157 (WM_setI (WM_setI (WM_setI h.1))) hf1 ⟨by omega, by omega⟩))⟩
  · have ht' : t = 1 ∨ t = 2 ∨ t = 5 ∨ t = 6 := by unfold isC at hc; omega
    obtain ⟨M1, y, e, w⟩ := e_M_readPlain (G := G) (d := d) h hf hq ht'
    have to155 : ∀ R, EvC G (d + 3) m_M_read 155 [some (.ref 91), some (.int x1), some (.int x2), some (.int (zI ((o : Int) + (B.length : Int)))), some (.int (zI (S.length : Int))), some (.int (zI ((o : Int) + (q : Int)))), some (.int (zI t)), some (.int (zI 1)), u8] [.int y] M1 R →
        EvC G (d + 3) m_M_read 71 [some (.ref 91), some (.int x1), some (.int x2), some (.int (zI ((o : Int) + (B.length : Int)))), some (.int (zI (S.length : Int))), some (.int (zI ((o : Int) + (q : Int)))), some (.int (zI t)), some (.int (zI 1)), u8] [] M R := fun R k => by
      unfold isC at hc
      refine ev_M_read_71 ?_
      rw [if_pos (fNeg hf), zI_0, if_neg z10, if_neg (zI_ne rt ⟨by omega, by omega⟩ (by omega)), if_neg (zI_ne rt ⟨by omega, by omega⟩ (by omega)), if_pos ((zI_lt ⟨by omega, by omega⟩ rt).mpr (by omega))]
      exact ⟨okF_W h.1 rfl, okO_W h.1 rfl, _, _, e, k⟩
    have hV : rdV B (z, N, S) t x s q = match rdC B t q with
      | .inl f => .inl f
      | .inr q' => .inr (q', N ++ [(t, x, s, q, opn S)], if t = 3 ∨ t = 4 then N.length :: S else S) := rfl
    cases hC : rdC B t q with
    | inl g =>
      rw [hC] at hV w
      have hT := kf _ hV
      have w : M1 = am_setI M 91 20 (zI ((o : Int) + (g : Int))) := w
      have hgB := rdC_fl hq hC
      subst w
      exact ⟨_, to155 _ (ev_M_read_155 (rd_f157 (WM_setI h.1) (by rw [setI_self, hT]) ⟨by omega, by omega⟩)), pRd_ft⟩
    | inr q' =>
      rw [hC] at hV w
      obtain ⟨w1, w2⟩ := w
      subst w1 w2
      rw [if_neg (show ¬ (t = 3 ∨ t = 4) from hc)] at hV
      obtain ⟨M', e2, f2⟩ := kk _ _ (zI t) (zI 1) u8 hV h hf (stk_up S (fun j hj => ⟨rfl, rfl⟩) (fun c hc => ⟨rPl_app (hlt c hc), rTy_app (hlt c hc)⟩) hs)
      exact ⟨M', to155 _ (ev_M_read_155 e2), f2⟩
end MDOC
