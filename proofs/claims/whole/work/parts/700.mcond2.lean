/-! THE REFERENCE's conditions: isCompared -/
def fits (N : List Nd) (Q : List Int) (k : Nat) : Prop := rTy N k = by_ Q 0 ∧ (by_ Q 0 = 1 ∨ by_ Q 0 = 2)
section MCOND2
variable {G : Nat × (Nat → Int32)} {d o : Nat} {M : Mm_} {B : List Int} {N : List Nd} {P : List (List Int)} {f : Int} {Q : List Int} {c : Nat}
theorem mic_r {L : List Nat} {x1 x5 : Int32} {k : Nat} {u7 u8 : Option Value} {r : Out_} (h : mIn M o B) (hA : Acc B 3 0 N) (hC : mcn M c P f Q) (hL : cur M o N L) (hl : L.length ≤ 128) (hLN : ∀ z ∈ L, z < N.length) (hk : k < L.length)
    (H : ∀ a v : Int, ((a = 1 ∧ fits N Q (L.getD k 0) ∧ v = difV B N Q (L.getD k 0)) ∨ (a = 0 ∧ ¬ fits N Q (L.getD k 0) ∧ v = 0)) → EvC G (d + 2) m_M_isCompared 103 [some (.ref 91), some (.int x1), some (.int (zI (c : Int))), some (.int (zI ((1120 + 96 * c : Nat) : Int))), some (.int (zI (L.length : Int))), some (.int x5), some (.int (zI (k : Int))), some (.int (zI a)), u8] [.int (zI v)] M r) :
    EvC G (d + 2) m_M_isCompared 28 [some (.ref 91), some (.int x1), some (.int (zI (c : Int))), some (.int (zI ((1120 + 96 * c : Nat) : Int))), some (.int (zI (L.length : Int))), some (.int x5), some (.int (zI (k : Int))), u7, u8] [] M r := by
  obtain ⟨c1, c2, c3, c4, c5, c6, c7, c8⟩ := hC
  have hkN := hLN _ (getD_memN (L := L) (i := k) (by omega))
  have hq0 : 0 < Q.length := by_lt (by have := c5.2.1; omega)
  have i0 := mI c2 hq0
  have o0 := mOk c2 hq0
  rw [← zI_o0] at i0 o0
  obtain ⟨l1, l2⟩ := hL k (by omega)
  obtain ⟨⟨w1, w2⟩, w3, w4⟩ := nd_w hA hkN
  have q1 := c5.2.1
  have q2 := c5.2.2.1
  have l1' : M.2.1 (91 + 9) k = zI (rTy N (L.getD k 0)) := l1
  have l2' : M.2.1 (91 + 10) k = zI ((o : Int) + ((rPl N (L.getD k 0) : Nat) : Int)) := l2
  have a9 : am_okA M (91 + 9) 0 (zI (k : Int)) = true := okA_z h.1 (show sg0[91 + 9]? = some (.inr (0, 128)) from rfl) (by omega) (by omega)
  have a10 : am_okA M (91 + 10) 0 (zI (k : Int)) = true := okA_z h.1 (show sg0[91 + 10]? = some (.inr (0, 128)) from rfl) (by omega) (by omega)
  have no : ¬ fits N Q (L.getD k 0) → EvC G (d + 2) m_M_isCompared 70 [some (.ref 91), some (.int x1), some (.int (zI (c : Int))), some (.int (zI ((1120 + 96 * c : Nat) : Int))), some (.int (zI (L.length : Int))), some (.int x5), some (.int (zI (k : Int))), u7, u8] [] M r := fun hf => by
    refine ev_M_isCompared_70 (ev_M_isCompared_71 ?_)
    rw [zI_0, if_pos rfl]
    exact H 0 0 (Or.inr ⟨rfl, hf, rfl⟩)
  refine ev_M_isCompared_28 ?_
  rw [if_pos ((zI_lt ⟨by omega, by omega⟩ ⟨by omega, by omega⟩).mpr (by omega)), zI_nat (show k < 2147483648 by omega), l1', i0]
  refine ⟨okF_W h.1 rfl, a9, okF_W h.1 rfl, o0, ?_⟩
  by_cases e : rTy N (L.getD k 0) = by_ Q 0
  · rw [if_pos (by rw [e])]
    by_cases g : by_ Q 0 = 1 ∨ by_ Q 0 = 2
    · refine ⟨okF_W h.1 rfl, a9, _, _, e_M_in_t ⟨by omega, by omega⟩ ⟨by omega, by omega⟩ ⟨by omega, by omega⟩ ⟨by omega, by omega⟩, ev_M_isCompared_63 ?_⟩
      rw [zI_0, if_neg z10]
      refine ev_M_isCompared_71 ?_
      have e1 : zI ((1120 + 96 * c : Nat) : Int) + zI 1 = zI (((1120 + 96 * c : Nat) : Int) + ((1 : Nat) : Int)) := by rw [zI_add]; rfl
      rw [zI_0, if_neg z10, zI_nat (show k < 2147483648 by omega), l1', l2', e1]
      refine ⟨okF_W h.1 rfl, a9, okF_W h.1 rfl, a10, okO_W h.1 rfl, zI (difV B N Q (L.getD k 0)), M, ?_, ev_M_isCompared_99 (H 1 _ (Or.inl ⟨rfl, ⟨e, g⟩, rfl⟩))⟩
      unfold difV
      by_cases g1 : by_ Q 0 = 1
      · have n1 := nd_1 hA hkN (by omega)
        have m1 := okQ_1 c5 g1
        rw [if_pos g1, e, g1]
        exact e_M_compare_i h c2 (by omega) (by omega)
      · have n2 := nd_2 hA hkN (by omega)
        have m2 := okQ_2 c5 (by omega)
        rw [if_neg g1, e, show by_ Q 0 = 2 by omega]
        exact e_M_compare_t (m := Q.length - 2) h c2 (by omega) (by omega) (by omega) (by omega)
    · refine ⟨okF_W h.1 rfl, a9, _, _, e_M_in_f ⟨by omega, by omega⟩ ⟨by omega, by omega⟩ ⟨by omega, by omega⟩ (by omega), ev_M_isCompared_63 ?_⟩
      rw [zI_0, if_pos rfl]
      exact no (fun hf => g hf.2)
  · rw [if_neg (zI_ne ⟨by omega, by omega⟩ ⟨by omega, by omega⟩ e)]
    exact no (fun hf => e hf.1)
theorem mic_s {x1 x3 x4 : Int32} {a v : Int} {k : Nat} {s : Int} {u8 : Option Value} {r : Out_} {A : Prop} (hW : WM M) (hc : c < 3) (h3 : M.2.1 97 c = zI f) (hf : 0 ≤ f ∧ f ≤ 7) (hs : s = 0 ∨ s = 1) (hv : (a = 1 ∧ A) ∨ (a = 0 ∧ ¬ A ∧ v = 0)) (hr : rg v)
    (H : ∀ s' : Int, (s' = 0 ∨ s' = 1) → (s' = 1 ↔ (s = 1 ∨ (A ∧ isSo f v))) → EvC G d m_M_isCompared 28 [some (.ref 91), some (.int x1), some (.int (zI (c : Int))), some (.int x3), some (.int x4), some (.int (zI s')), some (.int (zI (k : Int) + zI 1)), some (.int (zI a)), some (.int (zI v))] [] M r) :
    EvC G d m_M_isCompared 103 [some (.ref 91), some (.int x1), some (.int (zI (c : Int))), some (.int x3), some (.int x4), some (.int (zI s)), some (.int (zI (k : Int))), some (.int (zI a)), u8] [.int (zI v)] M r := by
  refine ev_M_isCompared_103 ?_
  have z0 : rg 0 := ⟨by omega, by omega⟩
  have rf : rg f := ⟨by omega, by omega⟩
  rcases hs with rfl | rfl
  · rw [zI_0, if_pos rfl]
    have f' : M.2.1 (91 + 6) c = zI f := h3
    have a6 : am_okA M (91 + 6) 0 (zI (c : Int)) = true := okA_z hW (show sg0[91 + 6]? = some (.inr (0, 3)) from rfl) (by omega) (by omega)
    rcases hv with ⟨rfl, hA⟩ | ⟨rfl, hA, rfl⟩
    · rw [if_neg z10, zI_nat (show c < 2147483648 by omega), f']
      refine ⟨okF_W hW rfl, a6, ?_⟩
      have yes : isSo f v → _ := fun q => H 1 (Or.inr rfl) ⟨fun _ => Or.inr ⟨hA, q⟩, fun _ => rfl⟩
      have not : ¬ isSo f v → _ := fun q => H 0 (Or.inl rfl) ⟨fun z => absurd z (by decide), fun z => z.elim (fun z => absurd z (by decide)) (fun z => absurd z.2 q)⟩
      unfold isSo at yes not
      by_cases f2 : f = 2
      · rw [if_pos f2] at yes not
        rw [if_pos (by rw [f2])]
        by_cases q : v < 0
        · rw [if_pos ((zI_lt hr z0).mpr q)]; exact yes q
        · rw [if_neg (fun w => q ((zI_lt hr z0).mp w))]; exact not q
      · rw [if_neg f2] at yes not
        rw [if_neg (zI_ne rf ⟨by omega, by omega⟩ f2)]
        refine ⟨okF_W hW rfl, a6, ?_⟩
        by_cases f3 : f = 3
        · rw [if_pos f3] at yes not
          rw [if_pos (by rw [f3])]
          by_cases q : 0 < v
          · rw [if_pos ((zI_lt z0 hr).mpr q)]; exact not (by omega)
          · rw [if_neg (fun w => q ((zI_lt z0 hr).mp w))]; exact yes (by omega)
        · rw [if_neg f3] at yes not
          rw [if_neg (zI_ne rf ⟨by omega, by omega⟩ f3)]
          refine ⟨okF_W hW rfl, a6, ?_⟩
          by_cases f4 : f = 4
          · rw [if_pos f4] at yes not
            rw [if_pos (by rw [f4])]
            by_cases q : 0 < v
            · rw [if_pos ((zI_lt z0 hr).mpr q)]; exact yes q
            · rw [if_neg (fun w => q ((zI_lt z0 hr).mp w))]; exact not q
          · rw [if_neg f4] at yes not
            rw [if_neg (zI_ne rf ⟨by omega, by omega⟩ f4)]
            by_cases q : v < 0
            · rw [if_pos ((zI_lt hr z0).mpr q)]; exact not (by omega)
            · rw [if_neg (fun w => q ((zI_lt hr z0).mp w))]; exact yes (by omega)
    · rw [if_pos rfl]
      exact H 0 (Or.inl rfl) ⟨fun z => absurd z (by decide), fun z => z.elim (fun z => absurd z (by decide)) (fun z => absurd z.1 hA)⟩
  · rw [zI_0, if_neg z10]
    exact H 1 (Or.inr rfl) ⟨fun _ => Or.inl rfl, fun _ => rfl⟩
theorem mic_l {L : List Nat} {x1 : Int32} (h : mIn M o B) (hA : Acc B 3 0 N) (hB : B.length ≤ 64) (hC : mcn M c P f Q) (hL : cur M o N L) (hl : L.length ≤ 128) (hLN : ∀ z ∈ L, z < N.length) : ∀ (m k : Nat) (s : Int) (u7 u8 : Option Value), k + m = L.length → (s = 0 ∨ s = 1) → ∃ x, EvC G (d + 2) m_M_isCompared 28 [some (.ref 91), some (.int x1), some (.int (zI (c : Int))), some (.int (zI ((1120 + 96 * c : Nat) : Int))), some (.int (zI (L.length : Int))), some (.int (zI s)), some (.int (zI (k : Int))), u7, u8] [] M (some (.int x), M) ∧ b01 (s = 1 ∨ ∃ i, k ≤ i ∧ i < L.length ∧ fits N Q (L.getD i 0) ∧ isSo f (difV B N Q (L.getD i 0))) x
  | 0, k, s, u7, u8, hk, hs => by
    refine ⟨zI s, ev_M_isCompared_28 ?_, ?_⟩
    · rw [if_neg (fun q => by rw [zI_lt ⟨by omega, by omega⟩ ⟨by omega, by omega⟩] at q; omega)]
      exact ⟨bit_z hs, rfl⟩
    · rcases hs with rfl | rfl
      · refine b01_f (fun z => ?_)
        rcases z with z | ⟨i, h1, h2, _⟩
        · exact absurd z (by decide)
        · omega
      · exact b01_t (Or.inl rfl)
  | m + 1, k, s, u7, u8, hk, hs => by
    have hkN := hLN _ (getD_memN (L := L) (i := k) (by omega))
    have key : ∀ a v : Int, ((a = 1 ∧ fits N Q (L.getD k 0) ∧ v = difV B N Q (L.getD k 0)) ∨ (a = 0 ∧ ¬ fits N Q (L.getD k 0) ∧ v = 0)) → rg v := fun a v hh => by
      rcases hh with ⟨-, h2, h3⟩ | ⟨-, -, h3⟩
      · have := dif_rg hA h.2.1 hC.2.1.2.1 hC.2.2.2.2.1 hkN (by omega) h2.1 h2.2
        exact ⟨by omega, by omega⟩
      · exact ⟨by omega, by omega⟩
    have ek : zI (k : Int) + zI 1 = zI ((k + 1 : Nat) : Int) := by rw [zI_add, show (k : Int) + 1 = ((k + 1 : Nat) : Int) by omega]
    have stp : ∀ P' : Prop, (P' ↔ (fits N Q (L.getD k 0) ∧ isSo f (difV B N Q (L.getD k 0)))) → ((∃ i, k ≤ i ∧ i < L.length ∧ fits N Q (L.getD i 0) ∧ isSo f (difV B N Q (L.getD i 0))) ↔ (P' ∨ ∃ i, k + 1 ≤ i ∧ i < L.length ∧ fits N Q (L.getD i 0) ∧ isSo f (difV B N Q (L.getD i 0)))) := fun P' hP => by
      constructor
      · rintro ⟨i, h1, h2, h3⟩
        rcases Nat.lt_or_ge k i with h4 | h4
        · exact Or.inr ⟨i, by omega, h2, h3⟩
        · have : i = k := by omega
          subst this
          exact Or.inl (hP.mpr h3)
      · rintro (h1 | ⟨i, h1, h2, h3⟩)
        · exact ⟨k, Nat.le_refl _, by omega, hP.mp h1⟩
        · exact ⟨i, by omega, h2, h3⟩
    by_cases cc : fits N Q (L.getD k 0) ∧ isSo f (difV B N Q (L.getD k 0))
    · have nx : ∀ u7 u8 : Option Value, _ := fun u7 u8 => mic_l h hA hB hC hL hl hLN (x1 := x1) m (k + 1) 1 u7 u8 (by omega) (Or.inr rfl)
      refine ⟨zI 1, mic_r h hA hC hL hl hLN (by omega) (fun a v hav => ?_), b01_t (Or.inr ⟨k, Nat.le_refl _, by omega, cc⟩)⟩
      have hr := key a v hav
      have hav' : (a = 1 ∧ fits N Q (L.getD k 0)) ∨ (a = 0 ∧ ¬ fits N Q (L.getD k 0) ∧ v = 0) := by
        rcases hav with w | w
        · exact Or.inl ⟨w.1, w.2.1⟩
        · exact Or.inr w
      refine mic_s h.1 hC.2.2.2.2.2.2.1 hC.2.2.1 hC.2.2.2.1 hs hav' hr (fun s' hs' hi => ?_)
      have hv : v = difV B N Q (L.getD k 0) := by
        rcases hav with w | w
        · exact w.2.2
        · exact absurd cc.1 w.2.1
      have e1 : s' = 1 := hi.mpr (Or.inr ⟨cc.1, by rw [hv]; exact cc.2⟩)
      subst e1
      rw [ek]
      obtain ⟨x, e, w⟩ := nx (some (.int (zI a))) (some (.int (zI v)))
      rcases w with ⟨_, w⟩ | ⟨w, _⟩
      · rw [w] at e; exact e
      · exact absurd (Or.inl rfl) w
    · have e0 : ∀ u7 u8 : Option Value, ∃ x, EvC G (d + 2) m_M_isCompared 28 [some (.ref 91), some (.int x1), some (.int (zI (c : Int))), some (.int (zI ((1120 + 96 * c : Nat) : Int))), some (.int (zI (L.length : Int))), some (.int (zI s)), some (.int (zI ((k + 1 : Nat) : Int))), u7, u8] [] M (some (.int x), M) ∧ b01 (s = 1 ∨ ∃ i, k + 1 ≤ i ∧ i < L.length ∧ fits N Q (L.getD i 0) ∧ isSo f (difV B N Q (L.getD i 0))) x := fun u7 u8 => mic_l h hA hB hC hL hl hLN m (k + 1) s u7 u8 (by omega) hs
      by_cases ca : s = 1 ∨ ∃ i, k + 1 ≤ i ∧ i < L.length ∧ fits N Q (L.getD i 0) ∧ isSo f (difV B N Q (L.getD i 0))
      · refine ⟨zI 1, mic_r h hA hC hL hl hLN (by omega) (fun a v hav => ?_), b01_t ?_⟩
        · have hr := key a v hav
          have hav' : (a = 1 ∧ fits N Q (L.getD k 0)) ∨ (a = 0 ∧ ¬ fits N Q (L.getD k 0) ∧ v = 0) := by
            rcases hav with w | w
            · exact Or.inl ⟨w.1, w.2.1⟩
            · exact Or.inr w
          refine mic_s h.1 hC.2.2.2.2.2.2.1 hC.2.2.1 hC.2.2.2.1 hs hav' hr (fun s' hs' hi => ?_)
          have es : s' = s := by
            rcases hav with w | w
            · have : ¬ (fits N Q (L.getD k 0) ∧ isSo f v) := by rw [w.2.2]; exact cc
              rcases hs with hs | hs <;> rcases hs' with hs' | hs'
              · omega
              · rcases hi.mp hs' with q | q
                · omega
                · exact absurd q this
              · have := hi.mpr (Or.inl hs); omega
              · omega
            · have : ¬ (fits N Q (L.getD k 0) ∧ isSo f v) := fun q => w.2.1 q.1
              rcases hs with hs | hs <;> rcases hs' with hs' | hs'
              · omega
              · rcases hi.mp hs' with q | q
                · omega
                · exact absurd q this
              · have := hi.mpr (Or.inl hs); omega
              · omega
          subst es
          rw [ek]
          obtain ⟨x, e, w⟩ := e0 (some (.int (zI a))) (some (.int (zI v)))
          rcases w with ⟨_, w⟩ | ⟨w, _⟩
          · rw [w] at e; exact e
          · exact absurd ca w
        · rcases ca with q | ⟨i, h1, h2⟩
          · exact Or.inl q
          · exact Or.inr ⟨i, by omega, h2⟩
      · refine ⟨zI 0, mic_r h hA hC hL hl hLN (by omega) (fun a v hav => ?_), b01_f (fun z => ca ?_)⟩
        · have hr := key a v hav
          have hav' : (a = 1 ∧ fits N Q (L.getD k 0)) ∨ (a = 0 ∧ ¬ fits N Q (L.getD k 0) ∧ v = 0) := by
            rcases hav with w | w
            · exact Or.inl ⟨w.1, w.2.1⟩
            · exact Or.inr w
          refine mic_s h.1 hC.2.2.2.2.2.2.1 hC.2.2.1 hC.2.2.2.1 hs hav' hr (fun s' hs' hi => ?_)
          have es : s' = s := by
            have s0 : s = 0 := by
              rcases hs with hs | hs
              · exact hs
              · exact absurd (Or.inl hs) ca
            rcases hs' with hs' | hs'
            · omega
            · rcases hi.mp hs' with q | q
              · omega
              · rcases hav with w | w
                · rw [w.2.2] at q; exact absurd q cc
                · exact absurd q.1 w.2.1
          subst es
          rw [ek]
          obtain ⟨x, e, w⟩ := e0 (some (.int (zI a))) (some (.int (zI v)))
          rcases w with ⟨w, _⟩ | ⟨_, w⟩
          · exact absurd w ca
          · rw [w] at e; exact e
        · rcases z with q | q
          · exact Or.inl q
          · rcases (stp False ⟨fun w => w.elim, fun w => cc w⟩).mp q with w | w
            · exact w.elim
            · exact Or.inr w
theorem e_M_isCompared {di : Nat} (h : mIn M (64 * di) B) (hA : Acc B 3 0 N) (hB : B.length ≤ 64) (hC : mcn M c P f Q) : ∃ M' x, Ev G (d + 7) 130 [.ref 91, .int (zI (di : Int)), .int (zI (c : Int))] M (some (.int x), M') ∧ b01 (hCmp B N P f Q) x ∧ Fp pCm M M' := by
  obtain ⟨M1, e1, c1, f1⟩ := e_M_gather (G := G) (d := d) h hA hB hC.1 (by have := hC.2.2.2.2.2.2.1; omega)
  have gl := gath_len hA hB (p := pks P)
  obtain ⟨x, e, w⟩ := mic_l (G := G) (d := d + 5) (x1 := zI (di : Int)) (h.cm f1) hA hB (hC.cm f1) c1 gl (fun z hz => gath_lt hA hz) _ 0 0 none none (Nat.zero_add _) (Or.inl rfl)
  refine ⟨M1, x, ev_of (q := mt_M_isCompared) rfl (ev_M_isCompared_0 ?_), b01_iff w ?_, f1⟩
  · rw [zI_mul, zI_mul, zI_add, zI_add, show (64 : Int) * (di : Int) = ((64 * di : Nat) : Int) by omega, show (3 : Int) + (c : Int) = ((3 + c : Nat) : Int) by omega, show (1120 : Int) + 96 * (c : Int) = ((1120 + 96 * c : Nat) : Int) by omega]
    exact ⟨okO_W h.1 rfl, _, _, e1, ev_M_isCompared_20 e⟩
  · rw [ex_idxN (L := gathN N (pks P)) (p := fun z => fits N Q z ∧ isSo f (difV B N Q z))]
    constructor
    · rintro (q | ⟨z, h1, h2, h3⟩)
      · exact absurd q (by decide)
      · exact ⟨h2.2, z, h1, h2.1, h3⟩
    · rintro ⟨h1, z, h2, h3, h4⟩
      exact Or.inr ⟨z, h2, ⟨h3, h1⟩, h4⟩
end MCOND2
