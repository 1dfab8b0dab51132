/-! THE CLASS's TREE: bytes, nodes -/
def pT (t a _j : Nat) : Prop := t ≤ a ∧ a ≤ t + 6
def treeSh (t : Nat) : Prop := sg0[t]? = some (.inl 7) ∧ ∀ i, 1 ≤ i → i ≤ 6 → sg0[t + i]? = some (.inr (0, 80))
/-- a tree at t that reads the row at q, whose bytes are B -/
def tEn (M : Mm_) (t q cap : Nat) (B : List Int) : Prop := WM M ∧ treeSh t ∧ M.2.2 t 7 = some q ∧ rowIs M q cap B ∧ (q + 1 < t ∨ t + 6 < q) ∧ B.length ≤ 80
theorem tEn.kept {M M' : Mm_} {t q cap : Nat} {B : List Int} (h : tEn M t q cap B) (hF : Fp (pT t) M M') : tEn M' t q cap B := by
  obtain ⟨h1, h2, h3, h4, h5, h6⟩ := h
  exact ⟨hF.WM h1, h2, by rw [hF.2.1]; exact h3, h4.keptp hF (fun j c => by unfold pT at c; omega) (fun j c => by unfold pT at c; omega), h5, h6⟩
theorem by_rg {M : Mm_} {q cap : Nat} {B : List Int} (h : rowIs M q cap B) (p : Nat) : -1 ≤ by_ B p ∧ by_ B p ≤ 255 := by
  by_cases c : p < B.length
  · have := h.2.2.2.2.2 p c; omega
  · rw [by_out (by omega)]; omega
def okI {α β : Type} : α ⊕ β → Int
  | .inl _ => 0
  | .inr _ => 1
theorem okI_rg {α β : Type} (R : α ⊕ β) : okI R = 0 ∨ okI R = 1 := by cases R <;> simp [okI]
/-- place and fault -/
def pPF (t a j : Nat) : Prop := a = t ∧ (j = 8 ∨ j = 9)
theorem pPF_T {t a j : Nat} (h : pPF t a j) : pT t a j := ⟨by have := h.1; omega, by have := h.1; omega⟩
def rbOut (M M' : Mm_) (t : Nat) : Nat ⊕ Nat → Prop
  | .inl f => M'.2.1 t 9 = zI f
  | .inr q => M'.2.1 t 8 = zI q ∧ M'.2.1 t 9 = M.2.1 t 9
section TREE
variable {G : Nat × (Nat → Int32)} {d : Nat} {t q cap : Nat} {B : List Int}
theorem rBytes_loop {lo hi : Int} {k : Nat} (hlo : rg lo) (hhi : rg hi) (hk : k < 1000) : ∀ (r i p : Nat) (u : Option Value) (M : Mm_), i + r = k → p + r < 2000 → tEn M t q cap B → M.2.1 t 8 = zI p →
    ∃ M', EvC G d m_T_readBytes 3 [some (.ref t), some (.int (zI k)), some (.int (zI lo)), some (.int (zI hi)), some (.int (zI i)), u] [] M (some (.int (zI (okI (rb B lo hi r p)))), M') ∧ Fp (pPF t) M M' ∧ rbOut M M' t (rb B lo hi r p)
  | 0, i, p, u, M, hi', hp, hE, h8 => by
    refine ⟨M, ev_T_readBytes_3 ?_, Fp.rf, h8, rfl⟩
    rw [if_neg (fun c => by rw [zI_lt ⟨by omega, by omega⟩ ⟨by omega, by omega⟩] at c; omega)]
    rfl
  | r + 1, i, p, u, M, hi', hp, hE, h8 => by
    obtain ⟨hW, hT, hq, hR, hO, hB⟩ := hE
    have hby := by_rg hR p
    have hc := cap_le hR.2.1
    have key : ∃ M', EvC G d m_T_readBytes 39 [some (.ref t), some (.int (zI k)), some (.int (zI lo)), some (.int (zI hi)), some (.int (zI i)), u] [.int (zI (by_ B p))] M (some (.int (zI (okI (rb B lo hi (r + 1) p)))), M') ∧ Fp (pPF t) M M' ∧ rbOut M M' t (rb B lo hi (r + 1) p) := by
      unfold rb
      by_cases c : lo ≤ by_ B p ∧ by_ B p ≤ hi
      · rw [if_pos c]
        have f1 : Fp (pPF t) M (am_setI M t 8 (zI ((p + 1 : Nat) : Int))) := Fp.set ⟨rfl, Or.inl rfl⟩
        obtain ⟨M', e, f, o⟩ := rBytes_loop hlo hhi hk r (i + 1) (p + 1) (some (.int (zI (by_ B p)))) (am_setI M t 8 (zI ((p + 1 : Nat) : Int))) (by omega) (by omega) (tEn.kept ⟨hW, hT, hq, hR, hO, hB⟩ (f1.up fun _ _ => pPF_T)) setI_self
        refine ⟨M', ev_T_readBytes_39 ?_, f1.tr f, ?_⟩
        · rw [if_neg (fun c' => by rw [zI_lt ⟨by omega, by omega⟩ hlo] at c'; omega), if_neg (fun c' => by rw [zI_lt hhi ⟨by omega, by omega⟩] at c'; omega), h8, zI_add, zI_add, show (p : Int) + 1 = ((p + 1 : Nat) : Int) by omega, show (i : Int) + 1 = ((i + 1 : Nat) : Int) by omega]
          exact ⟨okF_W hW hT.1, okP_W hW hT.1 rfl, e⟩
        · cases hr : rb B lo hi r (p + 1) with
          | inl f => rw [hr] at o; exact o
          | inr z => rw [hr] at o; exact ⟨o.1, o.2.trans (setI_idx (by decide))⟩
      · rw [if_neg c]
        have fin : EvC G d m_T_readBytes 53 [some (.ref t), some (.int (zI k)), some (.int (zI lo)), some (.int (zI hi)), some (.int (zI i)), some (.int (zI (by_ B p)))] [] M (some (.int (zI 0)), am_setI M t 9 (zI p)) := by
          refine ev_T_readBytes_53 ?_
          rw [h8]
          exact ⟨okF_W hW hT.1, okP_W hW hT.1 rfl, rfl⟩
        refine ⟨am_setI M t 9 (zI p), ev_T_readBytes_39 ?_, Fp.set ⟨rfl, Or.inr rfl⟩, setI_self⟩
        by_cases c1 : by_ B p < lo
        · rw [if_pos ((zI_lt ⟨by omega, by omega⟩ hlo).mpr c1)]
          exact fin
        · rw [if_neg (fun c' => by rw [zI_lt ⟨by omega, by omega⟩ hlo] at c'; omega), if_pos ((zI_lt hhi ⟨by omega, by omega⟩).mpr (by omega))]
          exact fin
    obtain ⟨M', e, f, o⟩ := key
    refine ⟨M', ev_T_readBytes_3 ?_, f, o⟩
    rw [if_pos ((zI_lt ⟨by omega, by omega⟩ ⟨by omega, by omega⟩).mpr (by omega)), hq, Option.getD_some, h8, hR.2.2.2.1]
    refine ⟨okF_W hW hT.1, okF_W hW hT.1, rfl, okF_W hW hR.1, ?_⟩
    by_cases c : p < B.length
    · rw [if_pos ((zI_lt ⟨by omega, by omega⟩ ⟨by omega, by omega⟩).mpr (by omega)), zI_nat (by omega), hR.2.2.2.2.1 p c]
      exact ⟨okF_W hW hT.1, rfl, okF_W hW hR.1, okF_W hW hT.1, okA_z hW hR.2.1 (by have := hR.2.2.1; omega) (by omega), e⟩
    · rw [if_neg (fun c' => by rw [zI_lt ⟨by omega, by omega⟩ ⟨by omega, by omega⟩] at c'; omega)]
      rw [by_out (show B.length ≤ p by omega)] at e
      exact e
theorem e_T_readBytes {M : Mm_} {lo hi : Int} {k p : Nat} (hlo : rg lo) (hhi : rg hi) (hk : k < 1000) (hp : p + k < 2000) (hE : tEn M t q cap B) (h8 : M.2.1 t 8 = zI p) :
    ∃ M', Ev G d 25 [.ref t, .int (zI k), .int (zI lo), .int (zI hi)] M (some (.int (zI (okI (rb B lo hi k p)))), M') ∧ Fp (pPF t) M M' ∧ rbOut M M' t (rb B lo hi k p) := by
  obtain ⟨M', e, f, o⟩ := rBytes_loop (G := G) (d := d) hlo hhi hk k 0 p none M (by omega) hp hE h8
  exact ⟨M', ev_of (q := mt_T_readBytes) rfl (ev_T_readBytes_0 e), f, o⟩
theorem e_T_faultAt {M : Mm_} {x : Int32} (hW : WM M) (hT : treeSh t) : Ev G d 24 [.ref t, .int x] M (some (.int (zI 0)), am_setI M t 9 x) :=
  ev_of (q := mt_T_faultAt) rfl (ev_T_faultAt_0 ⟨okP_W hW hT.1 rfl, rfl⟩)
/-- a function changed at one place -/
def up1 (f : Nat → Int32) (n : Nat) (x : Int32) : Nat → Int32 := fun j => if j = n then x else f j
theorem setI_up {M : Mm_} {a n : Nat} {x : Int32} : (am_setI M a n x).2.1 a = up1 (M.2.1 a) n x := by
  funext j
  by_cases e : j = n
  · subst e
    rw [setI_self]
    simp [up1]
  · rw [setI_idx e]
    simp [up1, e]
theorem e_T_addNode {M : Mm_} {n : Nat} {x1 x2 x3 : Int32} (hW : WM M) (hT : treeSh t) (h6 : M.2.1 t 6 = zI n) (hn : n < 80) :
    ∃ M', Ev G d 22 [.ref t, .int x1, .int x2, .int x3] M (some (.int (zI n)), M') ∧ Fp (pT t) M M' ∧ M'.2.1 (t + 1) = up1 (M.2.1 (t + 1)) n x1 ∧ M'.2.1 (t + 2) = up1 (M.2.1 (t + 2)) n x2 ∧ M'.2.1 (t + 3) = up1 (M.2.1 (t + 3)) n x3 ∧ M'.2.1 (t + 4) = up1 (M.2.1 (t + 4)) n (M.2.1 t 8) ∧ M'.2.1 (t + 5) = M.2.1 (t + 5) ∧ M'.2.1 (t + 6) = up1 (M.2.1 (t + 6)) n (M.2.1 t 10) ∧ M'.2.1 t = up1 (M.2.1 t) 6 (zI ((n : Int) + 1)) := by
  have hz : (zI (n : Int)).toNatClampNeg = n := zI_nat (by omega)
  have hA : ∀ {N : Mm_} (i : Nat), 1 ≤ i → i ≤ 6 → WM N → am_okA N (t + i) 0 (zI n) = true := fun i h1 h2 hN => okA_z hN (hT.2 i h1 h2) hn (by omega)
  let M1 := am_setI M (t + 1) n x1
  let M2 := am_setI M1 (t + 2) n x2
  let M3 := am_setI M2 (t + 3) n x3
  let M4 := am_setI M3 (t + 4) n (M.2.1 t 8)
  let M5 := am_setI M4 (t + 6) n (M.2.1 t 10)
  let M6 := am_setI M5 t 6 (zI ((n : Int) + 1))
  have hW3 : WM M3 := hW
  have hW5 : WM M5 := hW
  have g1 : M1.2.1 t = M.2.1 t := setI_cell (by omega)
  have g2 : M2.2.1 t = M.2.1 t := (setI_cell (by omega)).trans g1
  have g3 : M3.2.1 t = M.2.1 t := (setI_cell (by omega)).trans g2
  have g4 : M4.2.1 t = M.2.1 t := (setI_cell (by omega)).trans g3
  have g5 : M5.2.1 t = M.2.1 t := (setI_cell (by omega)).trans g4
  refine ⟨M6, ?_, ?_, ?_, ?_, ?_, ?_, ?_, ?_, ?_⟩
  · refine ev_of (q := mt_T_addNode) rfl (ev_T_addNode_0 ⟨okF_W hW hT.1, ?_⟩)
    rw [h6, if_pos ((zI_lt ⟨by omega, by omega⟩ ⟨by omega, by omega⟩).mpr (by omega)), hz]
    refine ⟨okF_W hW hT.1, okF_W hW hT.1, hA 1 (by omega) (by omega) hW, okF_W (WM_setI hW) hT.1, okF_W (WM_setI hW) hT.1, ?_⟩
    have e1 : (am_setI M (t + 1) n x1).2.1 t 6 = zI n := by rw [show (am_setI M (t + 1) n x1).2.1 t = _ from g1]; exact h6
    rw [e1, hz]
    refine ⟨hA 2 (by omega) (by omega) (WM_setI hW), okF_W (WM_setI (WM_setI hW)) hT.1, okF_W (WM_setI (WM_setI hW)) hT.1, ?_⟩
    have e2 : (am_setI (am_setI M (t + 1) n x1) (t + 2) n x2).2.1 t 6 = zI n := by rw [show (am_setI (am_setI M (t + 1) n x1) (t + 2) n x2).2.1 t = _ from g2]; exact h6
    rw [e2, hz]
    refine ⟨hA 3 (by omega) (by omega) (WM_setI (WM_setI hW)), ev_T_addNode_41 (M := M3) ?_⟩
    rw [g3, h6, hz]
    refine ⟨okF_W hW3 hT.1, okF_W hW3 hT.1, okF_W hW3 hT.1, hA 4 (by omega) (by omega) hW3, okF_W (WM_setI hW3) hT.1, okF_W (WM_setI hW3) hT.1, okF_W (WM_setI hW3) hT.1, ?_⟩
    have e4 : (am_setI M3 (t + 4) n (M.2.1 t 8)).2.1 t = M.2.1 t := g4
    rw [e4, h6, hz]
    refine ⟨hA 6 (by omega) (by omega) (WM_setI hW3), okF_W (WM_setI (WM_setI hW3)) hT.1, okP_W (WM_setI (WM_setI hW3)) hT.1 rfl, ?_⟩
    have e5 : (am_setI (am_setI M3 (t + 4) n (M.2.1 t 8)) (t + 6) n (M.2.1 t 10)).2.1 t = M.2.1 t := g5
    rw [e5, h6, zI_add]
    refine ev_T_addNode_77 (M := M6) ⟨okF_W (WM_setI hW5) hT.1, ?_⟩
    rw [show M6.2.1 t 6 = zI ((n : Int) + 1) from setI_self, zI_sub, show (n : Int) + 1 - 1 = n by omega]
  · have f : ∀ {N : Mm_} {i j : Nat} {x : Int32}, i ≤ 6 → Fp (pT t) N (am_setI N (t + i) j x) := fun h => Fp.set ⟨by omega, by omega⟩
    exact ((((((f (by omega : 1 ≤ 6)).tr (f (by omega : 2 ≤ 6))).tr (f (by omega : 3 ≤ 6))).tr (f (by omega : 4 ≤ 6))).tr (f (by omega : 6 ≤ 6))).tr (f (i := 0) (by omega)))
  · exact (setI_cell (by omega)).trans ((setI_cell (by omega)).trans ((setI_cell (by omega)).trans ((setI_cell (by omega)).trans ((setI_cell (by omega)).trans setI_up))))
  · refine (setI_cell (by omega)).trans ((setI_cell (by omega)).trans ((setI_cell (by omega)).trans ((setI_cell (by omega)).trans (setI_up.trans ?_))))
    rw [show M1.2.1 (t + 2) = M.2.1 (t + 2) from setI_cell (by omega)]
  · refine (setI_cell (by omega)).trans ((setI_cell (by omega)).trans ((setI_cell (by omega)).trans (setI_up.trans ?_)))
    rw [show M2.2.1 (t + 3) = M.2.1 (t + 3) from (setI_cell (by omega)).trans (setI_cell (by omega))]
  · refine (setI_cell (by omega)).trans ((setI_cell (by omega)).trans (setI_up.trans ?_))
    rw [show M3.2.1 (t + 4) = M.2.1 (t + 4) from (setI_cell (by omega)).trans ((setI_cell (by omega)).trans (setI_cell (by omega)))]
  · exact (setI_cell (by omega)).trans ((setI_cell (by omega)).trans ((setI_cell (by omega)).trans ((setI_cell (by omega)).trans ((setI_cell (by omega)).trans (setI_cell (by omega))))))
  · refine (setI_cell (by omega)).trans (setI_up.trans ?_)
    rw [show M4.2.1 (t + 6) = M.2.1 (t + 6) from (setI_cell (by omega)).trans ((setI_cell (by omega)).trans ((setI_cell (by omega)).trans (setI_cell (by omega))))]
  · refine setI_up.trans ?_
    rw [g5]
end TREE
