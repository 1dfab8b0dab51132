/-! THE LAW: the two side by side, call by call -/
section LAWS
variable {G : Nat × (Nat → Int32)} {d : Nat} {S S' : St_} {M : Mm_}
theorem RepC.ty {P : Nat → Nat → Prop} {M M' : Mm_} {T : List (List Int)} (h : RepC M S) (f : Fx P M M') (hp : ∀ a j, P a j → a = 3 ∨ a = 4) (hT : pthIs M' 3 T) : RepC M' (S.sT T) := by
  obtain ⟨h0, h1, h2, h3, h4, h5, h6, h7⟩ := h
  exact ⟨f.1, h1.kx f (fun j q => by have := hp _ _ q; omega) (fun j q => by have := hp _ _ q; omega), hT, h3.kx f (fun a j q => by have := hp _ _ q; omega), h4.kx f (fun a j q => by have := hp _ _ q; omega), h5.kx f (fun a j q => by have := hp _ _ q; omega), h6.kx f (fun a j q => by have := hp _ _ q; omega), by rw [f.2.2 _ _ (fun q => by have := hp _ _ q; omega)]; exact h7⟩
theorem RepM.ty {M M' : Mm_} {T : List (List Int)} (h : RepM M S) (hO : Ok S) (f : Fx (pPth 2) M M') (hT : mPth M' 2 T) : RepM M' (S.sT T) := by
  obtain ⟨h0, h1, h2, h3, h4, h5, h6, h7⟩ := h
  have hp : ∀ a j, pPth 2 a j → (a = 95 ∧ j = 2) ∨ (a = 96 ∧ 24 ≤ j ∧ j < 36) := fun a j q => by unfold pPth at q; omega
  exact ⟨f.1, h1.kx f (fun a j q => by have := hp _ _ q; omega), hT, h3.kx hO.1 f (fun a j q => by have := hp _ _ q; omega), h4.kx f (fun a j q => by have := hp _ _ q; omega), h5.kx f (fun a j q => by have := hp _ _ q; omega), h6.kx f (fun a j q => by have := hp _ _ q; omega), by rw [f.2.2 _ _ (fun q => by have := hp _ _ q; omega)]; exact h7⟩
theorem RepM.bf {M M' : Mm_} {B : List Int} (h : RepM M S) (hO : Ok S) (f : Fx pBuf M M') (hB : mBuf M' B) : RepM M' (S.sB B) := by
  obtain ⟨h0, h1, h2, h3, h4, h5, h6, h7⟩ := h
  have hp : ∀ a j, pBuf a j → (a = 91 ∧ j = 1) ∨ (a = 92 ∧ 1024 ≤ j ∧ j < 1104) := fun a j q => q
  exact ⟨f.1, hB, h2.kx f (fun q => by have := hp _ _ q; omega) (fun i _ _ q => by have := hp _ _ q; omega), h3.kx hO.1 f (fun a j q => by have := hp _ _ q; omega), h4.kx f (fun a j q => by have := hp _ _ q; omega), h5.kx f (fun a j q => by have := hp _ _ q; omega), h6.kx f (fun a j q => by have := hp _ _ q; omega), by rw [f.2.2 _ _ (fun q => by have := hp _ _ q; omega)]; exact h7⟩
theorem bufC {M' : Mm_} {B : List Int} (h : RepC M S) (f : Fr [1, 2] M M') (hB : rowIs M' 1 80 B) : RepC M' (S.sB B) ∧ Fx gC M M' :=
  ⟨h.buf (f.x h.1) (fun a j q => Or.inr (mem2 q)) hB, (f.x h.1).up (fun a j q => by have := mem2 q; unfold gC; omega)⟩
theorem typC {M' : Mm_} {T : List (List Int)} (h : RepC M S) (f : Fr [3, 4] M M') (hT : pthIs M' 3 T) : RepC M' (S.sT T) ∧ Fx gC M M' :=
  ⟨h.ty (f.x h.1) (fun a j q => mem2 q) hT, (f.x h.1).up (fun a j q => by have := mem2 q; unfold gC; omega)⟩
theorem bufM {M' : Mm_} {B : List Int} (h : RepM M S) (hO : Ok S) (f : Fp pBuf M M') (hB : mBuf M' B) : RepM M' (S.sB B) ∧ Fx gM M M' :=
  ⟨h.bf hO (f.x h.1) hB, (f.x h.1).up (fun a j q => by unfold pBuf at q; unfold gM; omega)⟩
theorem typM {M' : Mm_} {T : List (List Int)} (h : RepM M S) (hO : Ok S) (f : Fp (pPth 2) M M') (hT : mPth M' 2 T) : RepM M' (S.sT T) ∧ Fx gM M M' :=
  ⟨h.ty hO (f.x h.1) hT, (f.x h.1).up (fun a j q => by unfold pPth at q; unfold gM; omega)⟩
/-! what stays right -/
theorem ok_insert (hO : Ok S) (hb : okB S.buf) : Ok (sp_insert S).2 := by
  unfold sp_insert
  cases hrd : rdD S.buf with
  | inl f => exact hO
  | inr N =>
    have dr := dNum_rg (B := S.buf) (N := N)
    show Ok ((if 60 < S.buf.length ∨ dNum S.buf N = -1 then (-1000, S) else if ¬ plc S.docs (dNum S.buf N) = -1 then (-1001, S) else if 16 ≤ S.docs.length then (-1002, S) else (dNum S.buf N, ((S.sD (insD S.docs (insP S.docs (dNum S.buf N)) (dNum S.buf N, S.buf))).sB ([]))) : Int × St_)).2
    by_cases c1 : 60 < S.buf.length ∨ dNum S.buf N = -1
    · rw [if_pos c1]; exact hO
    · rw [if_neg c1]
      by_cases c2 : plc S.docs (dNum S.buf N) = -1
      · rw [if_neg (fun q => q c2)]
        by_cases c3 : 16 ≤ S.docs.length
        · rw [if_pos c3]; exact hO
        · rw [if_neg c3]
          have hu : ∀ i, i < S.docs.length → ¬ dN S.docs i = dNum S.buf N := by
            rcases plc_spec (D := S.docs) (n := dNum S.buf N) with ⟨p1, p2⟩ | ⟨i, p1, p2, p3, p4⟩
            · exact p2
            · omega
          exact ⟨ins_ok hO.1 (by omega) hu ⟨N, hrd⟩ (by omega) hb, hO.2⟩
      · rw [if_pos c2]; exact hO
theorem ok_fetch {n : Int} (hO : Ok S) : Ok (sp_fetch S n).2 := by
  unfold sp_fetch
  split <;> exact hO
theorem ok_remove {n : Int} (hO : Ok S) : Ok (sp_remove S n).2 := by
  unfold sp_remove
  by_cases c : plc S.docs n = -1
  · rw [if_pos c]; exact hO
  · rw [if_neg c]
    rcases plc_spec (D := S.docs) (n := n) with ⟨p1, p2⟩ | ⟨i, p1, p2, p3, p4⟩
    · exact absurd p1 c
    · exact ⟨era_ok hO.1 (by rw [p3]; exact p1), hO.2⟩
theorem ok_index {i : Int} (hO : Ok S) : Ok (sp_index S i).2 := by
  unfold sp_index
  split <;> exact hO
theorem ok_where {f : Int} (hO : Ok S) : Ok (sp_where S f).2 := by
  unfold sp_where
  cases rdQ S.buf with
  | inl g => exact hO
  | inr N =>
    show Ok ((if 0 ≤ f ∧ f ≤ 7 ∧ 0 < S.typ.length ∧ S.cnd.length < 3 then ((S.cnd.length : Int), ((S.sC (S.cnd ++ [(S.typ, f, S.buf)])).sB ([]))) else (-1000, S) : Int × St_)).2
    split <;> exact hO
theorem ok_find (hO : Ok S) (hl : S.docs.length ≤ 16) : Ok (sp_find S).2 := by
  refine ⟨hO.1, (hO.sk hl).2.1, fun k hk => ?_⟩
  have hk : k < ((mL S S.docs.length).map (dN S.docs)).length := hk
  show rg (((mL S S.docs.length).map (dN S.docs)).getD k 0)
  rw [List.getD_eq_getElem?_getD, List.getElem?_eq_getElem hk, Option.getD_some, List.getElem_map]
  have hm : (mL S S.docs.length)[k]'(by rw [List.length_map] at hk; exact hk) ∈ mL S S.docs.length := List.getElem_mem _
  have := hO.1.1 _ (mL_lt hm)
  exact ⟨by omega, by omega⟩
/-! the loop -/
def Inv (M : Mm_) (S : St_) : Prop := RepC M S ∧ RepM M S ∧ Ok S
def Kx (G : Nat × (Nat → Int32)) (x : Int32) : Prop := ∀ M S, Inv M S → ∃ r : Out_, EvC G 12 m_W_law 18 [some (.retAddr 0), some (.ref 0), some (.ref 91), some (.int x)] [] M r ∧ (r.1 = some (.int (zI 1)) ∧ WM r.2)
theorem pair_ {mc mm : Nat} {as : List Value} {a x : Int32} (hI : Inv M S) (hO : Ok S') (hC : ∃ M', Ev G 11 mc (.ref 0 :: as) M (some (.int a), M') ∧ RepC M' S' ∧ Fx gC M M') (hM : ∀ M1, RepM M1 S → ∃ M', Ev G 11 mm (.ref 91 :: as) M1 (some (.int a), M') ∧ RepM M' S' ∧ Fx gM M1 M') (hK : Kx G x) : ∃ r : Out_, (∃ M1 M2, WM M ∧ WM M1 ∧ Ev G 11 mc (.ref 0 :: as) M (some (.int a), M1) ∧ Ev G 11 mm (.ref 91 :: as) M1 (some (.int a), M2) ∧ EvC G 12 m_W_law 18 [some (.retAddr 0), some (.ref 0), some (.ref 91), some (.int x)] [] M2 r) ∧ (r.1 = some (.int (zI 1)) ∧ WM r.2) := by
  obtain ⟨M1, e1, r1, f1⟩ := hC
  obtain ⟨M2, e2, r2, f2⟩ := hM M1 (hI.2.1.k hI.2.2 f1 (fun a j q => Or.inr q))
  obtain ⟨r, e3, hr⟩ := hK M2 S' ⟨r1.k f2 (fun a j q => Or.inr q), r2, hO⟩
  exact ⟨r, ⟨M1, M2, hI.1.1, f1.1, e1, e2, e3⟩, hr⟩
theorem ex_if {α : Type} {c : Prop} {h : Decidable c} {A B P : α → Prop} (h1 : c → ∃ r, A r ∧ P r) (h2 : ¬ c → ∃ r, B r ∧ P r) : ∃ r, (@ite _ c h (A r) (B r)) ∧ P r := by
  by_cases q : c
  · obtain ⟨r, a, b⟩ := h1 q
    exact ⟨r, by rw [if_pos q]; exact a, b⟩
  · obtain ⟨r, a, b⟩ := h2 q
    exact ⟨r, by rw [if_neg q]; exact a, b⟩
theorem ex_and {α : Type} {c : Prop} {A P : α → Prop} (q : c) (h : ∃ r, A r ∧ P r) : ∃ r, (c ∧ A r) ∧ P r := by
  obtain ⟨r, a, b⟩ := h
  exact ⟨r, ⟨q, a⟩, b⟩
theorem fl_D (h : rowIs M 1 80 S.buf) : ∀ f, rdD S.buf = .inl f → f < 1000 := fun f hf => by
  have := rdD_fl hf
  have := h.2.2.1
  omega
theorem fl_Q (h : rowIs M 1 80 S.buf) : ∀ f, rdQ S.buf = .inl f → f < 1000 := fun f hf => by
  have := rdQ_fl hf
  have := h.2.2.1
  omega
theorem ok_change {op : Int} (hI : Inv M S) (hop : rg op) : Ok (sp_change S op).2 := by
  obtain ⟨M1, e, h1, h2, h3⟩ := e_P_change (G := (0, fun _ => 0)) (d := 5) (op := op) hI.1 hI.2.2 hop
  exact h3
theorem b_put (hI : Inv M S) {x : Int32} (hK : Kx G x) (w v : Int32) : ∃ r : Out_, (∃ a M1 M2, WM M ∧ WM M1 ∧ Ev G 11 8 (.ref 0 :: [.int w, .int v]) M (some (.int a), M1) ∧ Ev G 11 86 (.ref 91 :: [.int w, .int v]) M1 (some (.int a), M2) ∧ EvC G 12 m_W_law 18 [some (.retAddr 0), some (.ref 0), some (.ref 91), some (.int x)] [] M2 r) ∧ (r.1 = some (.int (zI 1)) ∧ WM r.2) := by
  have hC := e_P_put (G := G) (d := 10) (w := w) (n := v.toInt) hI.1.1 hI.1.2.1 (rg_toInt v)
  rw [zI_of] at hC
  obtain ⟨N, n1, n2, n3⟩ := hC
  obtain ⟨r, ⟨M1, M2, h⟩, hr⟩ := pair_ (a := zI (sp_put S.buf w v.toInt).1) (S' := S.sB (sp_put S.buf w v.toInt).2) (as := [.int w, .int v]) (mc := 8) (mm := 86) hI hI.2.2 ⟨N, n1, bufC hI.1 n3 n2⟩ (fun M1 h1 => by
    have hM := e_M_put (G := G) (d := 10) (w := w) (n := v.toInt) h1.1 h1.2.1 (rg_toInt v)
    rw [zI_of] at hM
    obtain ⟨N, n1, n2, n3⟩ := hM
    exact ⟨N, n1, bufM h1 hI.2.2 n3 n2⟩) hK
  exact ⟨r, ⟨_, M1, M2, h⟩, hr⟩
theorem b_set (hI : Inv M S) {x : Int32} (hK : Kx G x) (w v : Int32) : ∃ r : Out_, (∃ a M1 M2, WM M ∧ WM M1 ∧ Ev G 11 10 (.ref 0 :: [.int w, .int v]) M (some (.int a), M1) ∧ Ev G 11 88 (.ref 91 :: [.int w, .int v]) M1 (some (.int a), M2) ∧ EvC G 12 m_W_law 18 [some (.retAddr 0), some (.ref 0), some (.ref 91), some (.int x)] [] M2 r) ∧ (r.1 = some (.int (zI 1)) ∧ WM r.2) := by
  have hC := e_P_set (G := G) (d := 11) (p := w.toInt) (b := v.toInt) hI.1.1 hI.1.2.1 (rg_toInt w) (rg_toInt v)
  rw [zI_of, zI_of] at hC
  obtain ⟨N, n1, n2, n3⟩ := hC
  obtain ⟨r, ⟨M1, M2, h⟩, hr⟩ := pair_ (a := zI (sp_set S.buf w.toInt v.toInt).1) (S' := S.sB (sp_set S.buf w.toInt v.toInt).2) (as := [.int w, .int v]) (mc := 10) (mm := 88) hI hI.2.2 ⟨N, n1, bufC hI.1 n3 n2⟩ (fun M1 h1 => by
    have hM := e_M_set (G := G) (d := 10) (p := w.toInt) (b := v.toInt) h1.1 h1.2.1 (rg_toInt w) (rg_toInt v)
    rw [zI_of, zI_of] at hM
    obtain ⟨N, n1, n2, n3⟩ := hM
    exact ⟨N, n1, bufM h1 hI.2.2 n3 n2⟩) hK
  exact ⟨r, ⟨_, M1, M2, h⟩, hr⟩
theorem b_cut (hI : Inv M S) {x : Int32} (hK : Kx G x) (w : Int32) : ∃ r : Out_, (∃ a M1 M2, WM M ∧ WM M1 ∧ Ev G 11 11 (.ref 0 :: [.int w]) M (some (.int a), M1) ∧ Ev G 11 89 (.ref 91 :: [.int w]) M1 (some (.int a), M2) ∧ EvC G 12 m_W_law 18 [some (.retAddr 0), some (.ref 0), some (.ref 91), some (.int x)] [] M2 r) ∧ (r.1 = some (.int (zI 1)) ∧ WM r.2) := by
  have hC := e_P_cut (G := G) (d := 11) (n := w.toInt) hI.1.1 hI.1.2.1 (rg_toInt w)
  rw [zI_of] at hC
  obtain ⟨N, n1, n2, n3⟩ := hC
  obtain ⟨r, ⟨M1, M2, h⟩, hr⟩ := pair_ (a := zI (sp_cut S.buf w.toInt).1) (S' := S.sB (sp_cut S.buf w.toInt).2) (as := [.int w]) (mc := 11) (mm := 89) hI hI.2.2 ⟨N, n1, bufC hI.1 n3 n2⟩ (fun M1 h1 => by
    have hM := e_M_cut (G := G) (d := 10) (n := w.toInt) h1.1 h1.2.1 (rg_toInt w)
    rw [zI_of] at hM
    obtain ⟨N, n1, n2, n3⟩ := hM
    exact ⟨N, n1, bufM h1 hI.2.2 n3 n2⟩) hK
  exact ⟨r, ⟨_, M1, M2, h⟩, hr⟩
theorem b_size (hI : Inv M S) {x : Int32} (hK : Kx G x) : ∃ r : Out_, (∃ a M1 M2, WM M ∧ WM M1 ∧ Ev G 11 12 (.ref 0 :: []) M (some (.int a), M1) ∧ Ev G 11 90 (.ref 91 :: []) M1 (some (.int a), M2) ∧ EvC G 12 m_W_law 18 [some (.retAddr 0), some (.ref 0), some (.ref 91), some (.int x)] [] M2 r) ∧ (r.1 = some (.int (zI 1)) ∧ WM r.2) := by
  have hC : ∃ M', Ev G 11 12 (.ref 0 :: []) M (some (.int (zI (S.buf.length : Int))), M') ∧ RepC M' (S) ∧ Fx gC M M' := ⟨M, e_P_size hI.1.1 hI.1.2.1, hI.1, Fx.rf hI.1.1⟩
  have hM : ∀ M1, RepM M1 S → ∃ M', Ev G 11 90 (.ref 91 :: []) M1 (some (.int (zI (S.buf.length : Int))), M') ∧ RepM M' (S) ∧ Fx gM M1 M' := fun M1 h1 => ⟨M1, e_M_size h1.1 h1.2.1, h1, Fx.rf h1.1⟩
  obtain ⟨r, ⟨M1, M2, h⟩, hr⟩ := pair_ (S' := S) hI (hI.2.2) hC hM hK
  exact ⟨r, ⟨_, M1, M2, h⟩, hr⟩
theorem b_at (hI : Inv M S) {x : Int32} (hK : Kx G x) (w : Int32) : ∃ r : Out_, (∃ a M1 M2, WM M ∧ WM M1 ∧ Ev G 11 13 (.ref 0 :: [.int w]) M (some (.int a), M1) ∧ Ev G 11 91 (.ref 91 :: [.int w]) M1 (some (.int a), M2) ∧ EvC G 12 m_W_law 18 [some (.retAddr 0), some (.ref 0), some (.ref 91), some (.int x)] [] M2 r) ∧ (r.1 = some (.int (zI 1)) ∧ WM r.2) := by
  have hC : ∃ M', Ev G 11 13 (.ref 0 :: [.int w]) M (some (.int (zI (cB S.buf w.toInt))), M') ∧ RepC M' (S) ∧ Fx gC M M' := by
    have h := e_P_at (G := G) (d := 10) (p := w.toInt) hI.1.1 hI.1.2.1 (rg_toInt w)
    rw [zI_of] at h
    exact ⟨M, h, hI.1, Fx.rf hI.1.1⟩
  have hM : ∀ M1, RepM M1 S → ∃ M', Ev G 11 91 (.ref 91 :: [.int w]) M1 (some (.int (zI (cB S.buf w.toInt))), M') ∧ RepM M' (S) ∧ Fx gM M1 M' := fun M1 h1 => by
    have h := e_M_at (G := G) (d := 10) (p := w.toInt) h1.1 h1.2.1 (rg_toInt w)
    rw [zI_of] at h
    exact ⟨M1, h, h1, Fx.rf h1.1⟩
  obtain ⟨r, ⟨M1, M2, h⟩, hr⟩ := pair_ (S' := S) hI (hI.2.2) hC hM hK
  exact ⟨r, ⟨_, M1, M2, h⟩, hr⟩
theorem b_path (hI : Inv M S) {x : Int32} (hK : Kx G x) (w v : Int32) : ∃ r : Out_, (∃ a M1 M2, WM M ∧ WM M1 ∧ Ev G 11 15 (.ref 0 :: [.int w, .int v]) M (some (.int a), M1) ∧ Ev G 11 92 (.ref 91 :: [.int w, .int v]) M1 (some (.int a), M2) ∧ EvC G 12 m_W_law 18 [some (.retAddr 0), some (.ref 0), some (.ref 91), some (.int x)] [] M2 r) ∧ (r.1 = some (.int (zI 1)) ∧ WM r.2) := by
  have hC := e_P_path (G := G) (d := 10) (w := w) (n := v.toInt) hI.1.1 hI.1.2.2.1 (rg_toInt v)
  rw [zI_of] at hC
  obtain ⟨N, n1, n2, n3⟩ := hC
  obtain ⟨r, ⟨M1, M2, h⟩, hr⟩ := pair_ (a := zI (sp_path S.typ w v.toInt).1) (S' := S.sT (sp_path S.typ w v.toInt).2) (as := [.int w, .int v]) (mc := 15) (mm := 92) hI hI.2.2 ⟨N, n1, typC hI.1 n3 n2⟩ (fun M1 h1 => by
    have hM := e_M_path (G := G) (d := 9) (w := w) (n := v.toInt) h1.1 h1.2.2.1 (rg_toInt v)
    rw [zI_of] at hM
    obtain ⟨N, n1, n2, n3⟩ := hM
    exact ⟨N, n1, typM h1 hI.2.2 n3 n2⟩) hK
  exact ⟨r, ⟨_, M1, M2, h⟩, hr⟩
theorem b_step (hI : Inv M S) {x : Int32} (hK : Kx G x) (w v : Int32) : ∃ r : Out_, (∃ a M1 M2, WM M ∧ WM M1 ∧ Ev G 11 18 (.ref 0 :: [.int w, .int v]) M (some (.int a), M1) ∧ Ev G 11 95 (.ref 91 :: [.int w, .int v]) M1 (some (.int a), M2) ∧ EvC G 12 m_W_law 18 [some (.retAddr 0), some (.ref 0), some (.ref 91), some (.int x)] [] M2 r) ∧ (r.1 = some (.int (zI 1)) ∧ WM r.2) := by
  have hC := e_P_step (G := G) (d := 10) (w := w) (n := v.toInt) hI.1.1 hI.1.2.2.1 (rg_toInt v)
  rw [zI_of] at hC
  obtain ⟨N, n1, n2, n3⟩ := hC
  obtain ⟨r, ⟨M1, M2, h⟩, hr⟩ := pair_ (a := zI (sp_step S.typ w v.toInt).1) (S' := S.sT (sp_step S.typ w v.toInt).2) (as := [.int w, .int v]) (mc := 18) (mm := 95) hI hI.2.2 ⟨N, n1, typC hI.1 n3 n2⟩ (fun M1 h1 => by
    have hM := e_M_step (G := G) (d := 9) (w := w) (n := v.toInt) h1.1 h1.2.2.1 (rg_toInt v)
    rw [zI_of] at hM
    obtain ⟨N, n1, n2, n3⟩ := hM
    exact ⟨N, n1, typM h1 hI.2.2 n3 n2⟩) hK
  exact ⟨r, ⟨_, M1, M2, h⟩, hr⟩
theorem b_insert (hI : Inv M S) {x : Int32} (hK : Kx G x) : ∃ r : Out_, (∃ a M1 M2, WM M ∧ WM M1 ∧ Ev G 11 19 (.ref 0 :: []) M (some (.int a), M1) ∧ Ev G 11 96 (.ref 91 :: []) M1 (some (.int a), M2) ∧ EvC G 12 m_W_law 18 [some (.retAddr 0), some (.ref 0), some (.ref 91), some (.int x)] [] M2 r) ∧ (r.1 = some (.int (zI 1)) ∧ WM r.2) := by
  have hC : ∃ M', Ev G 11 19 (.ref 0 :: []) M (some (.int (zI (sp_insert S).1)), M') ∧ RepC M' ((sp_insert S).2) ∧ Fx gC M M' := e_P_insert (d := 6) hI.1 hI.2.2 (fl_D hI.1.2.1)
  have hM : ∀ M1, RepM M1 S → ∃ M', Ev G 11 96 (.ref 91 :: []) M1 (some (.int (zI (sp_insert S).1)), M') ∧ RepM M' ((sp_insert S).2) ∧ Fx gM M1 M' := fun M1 h1 => e_M_insert (d := 7) h1 hI.2.2 (fl_D hI.1.2.1)
  obtain ⟨r, ⟨M1, M2, h⟩, hr⟩ := pair_ (S' := (sp_insert S).2) hI (ok_insert hI.2.2 hI.1.2.1.2.2.2.2.2) hC hM hK
  exact ⟨r, ⟨_, M1, M2, h⟩, hr⟩
theorem b_fetch (hI : Inv M S) {x : Int32} (hK : Kx G x) (w : Int32) : ∃ r : Out_, (∃ a M1 M2, WM M ∧ WM M1 ∧ Ev G 11 37 (.ref 0 :: [.int w]) M (some (.int a), M1) ∧ Ev G 11 108 (.ref 91 :: [.int w]) M1 (some (.int a), M2) ∧ EvC G 12 m_W_law 18 [some (.retAddr 0), some (.ref 0), some (.ref 91), some (.int x)] [] M2 r) ∧ (r.1 = some (.int (zI 1)) ∧ WM r.2) := by
  have hC : ∃ M', Ev G 11 37 (.ref 0 :: [.int w]) M (some (.int (zI (sp_fetch S w.toInt).1)), M') ∧ RepC M' ((sp_fetch S w.toInt).2) ∧ Fx gC M M' := by
    have h := e_P_fetch (G := G) (d := 8) (n := w.toInt) hI.1 hI.2.2 (rg_toInt w)
    rw [zI_of] at h
    exact h
  have hM : ∀ M1, RepM M1 S → ∃ M', Ev G 11 108 (.ref 91 :: [.int w]) M1 (some (.int (zI (sp_fetch S w.toInt).1)), M') ∧ RepM M' ((sp_fetch S w.toInt).2) ∧ Fx gM M1 M' := fun M1 h1 => by
    have h := e_M_fetch (G := G) (d := 10) (n := w.toInt) h1 hI.2.2 (rg_toInt w)
    rw [zI_of] at h
    exact h
  obtain ⟨r, ⟨M1, M2, h⟩, hr⟩ := pair_ (S' := (sp_fetch S w.toInt).2) hI (ok_fetch hI.2.2) hC hM hK
  exact ⟨r, ⟨_, M1, M2, h⟩, hr⟩
theorem b_remove (hI : Inv M S) {x : Int32} (hK : Kx G x) (w : Int32) : ∃ r : Out_, (∃ a M1 M2, WM M ∧ WM M1 ∧ Ev G 11 38 (.ref 0 :: [.int w]) M (some (.int a), M1) ∧ Ev G 11 109 (.ref 91 :: [.int w]) M1 (some (.int a), M2) ∧ EvC G 12 m_W_law 18 [some (.retAddr 0), some (.ref 0), some (.ref 91), some (.int x)] [] M2 r) ∧ (r.1 = some (.int (zI 1)) ∧ WM r.2) := by
  have hC : ∃ M', Ev G 11 38 (.ref 0 :: [.int w]) M (some (.int (zI (sp_remove S w.toInt).1)), M') ∧ RepC M' ((sp_remove S w.toInt).2) ∧ Fx gC M M' := by
    have h := e_P_remove (G := G) (d := 10) (n := w.toInt) hI.1 hI.2.2 (rg_toInt w)
    rw [zI_of] at h
    exact h
  have hM : ∀ M1, RepM M1 S → ∃ M', Ev G 11 109 (.ref 91 :: [.int w]) M1 (some (.int (zI (sp_remove S w.toInt).1)), M') ∧ RepM M' ((sp_remove S w.toInt).2) ∧ Fx gM M1 M' := fun M1 h1 => by
    have h := e_M_remove (G := G) (d := 10) (n := w.toInt) h1 hI.2.2 (rg_toInt w)
    rw [zI_of] at h
    exact h
  obtain ⟨r, ⟨M1, M2, h⟩, hr⟩ := pair_ (S' := (sp_remove S w.toInt).2) hI (ok_remove hI.2.2) hC hM hK
  exact ⟨r, ⟨_, M1, M2, h⟩, hr⟩
theorem b_index (hI : Inv M S) {x : Int32} (hK : Kx G x) (w : Int32) : ∃ r : Out_, (∃ a M1 M2, WM M ∧ WM M1 ∧ Ev G 11 40 (.ref 0 :: [.int w]) M (some (.int a), M1) ∧ Ev G 11 111 (.ref 91 :: [.int w]) M1 (some (.int a), M2) ∧ EvC G 12 m_W_law 18 [some (.retAddr 0), some (.ref 0), some (.ref 91), some (.int x)] [] M2 r) ∧ (r.1 = some (.int (zI 1)) ∧ WM r.2) := by
  have hC : ∃ M', Ev G 11 40 (.ref 0 :: [.int w]) M (some (.int (zI (sp_index S w.toInt).1)), M') ∧ RepC M' ((sp_index S w.toInt).2) ∧ Fx gC M M' := by
    have h := e_P_index (G := G) (d := 9) (i := w.toInt) hI.1 (rg_toInt w)
    rw [zI_of] at h
    exact h
  have hM : ∀ M1, RepM M1 S → ∃ M', Ev G 11 111 (.ref 91 :: [.int w]) M1 (some (.int (zI (sp_index S w.toInt).1)), M') ∧ RepM M' ((sp_index S w.toInt).2) ∧ Fx gM M1 M' := fun M1 h1 => by
    have h := e_M_index (G := G) (d := 10) (i := w.toInt) h1 hI.2.2 (rg_toInt w)
    rw [zI_of] at h
    exact h
  obtain ⟨r, ⟨M1, M2, h⟩, hr⟩ := pair_ (S' := (sp_index S w.toInt).2) hI (ok_index hI.2.2) hC hM hK
  exact ⟨r, ⟨_, M1, M2, h⟩, hr⟩
theorem b_entries (hI : Inv M S) {x : Int32} (hK : Kx G x) (w : Int32) : ∃ r : Out_, (∃ a M1 M2, WM M ∧ WM M1 ∧ Ev G 11 42 (.ref 0 :: [.int w]) M (some (.int a), M1) ∧ Ev G 11 113 (.ref 91 :: [.int w]) M1 (some (.int a), M2) ∧ EvC G 12 m_W_law 18 [some (.retAddr 0), some (.ref 0), some (.ref 91), some (.int x)] [] M2 r) ∧ (r.1 = some (.int (zI 1)) ∧ WM r.2) := by
  have hC : ∃ M', Ev G 11 42 (.ref 0 :: [.int w]) M (some (.int (zI (sp_entries S w.toInt))), M') ∧ RepC M' (S) ∧ Fx gC M M' := by
    have h := e_P_entries (G := G) (d := 6) (i := w.toInt) hI.1 hI.2.2 (rg_toInt w)
    rw [zI_of] at h
    exact h
  have hM : ∀ M1, RepM M1 S → ∃ M', Ev G 11 113 (.ref 91 :: [.int w]) M1 (some (.int (zI (sp_entries S w.toInt))), M') ∧ RepM M' (S) ∧ Fx gM M1 M' := fun M1 h1 => by
    have h := e_M_entries (G := G) (d := 4) (i := w.toInt) h1 hI.2.2 (rg_toInt w)
    rw [zI_of] at h
    exact h
  obtain ⟨r, ⟨M1, M2, h⟩, hr⟩ := pair_ (S' := S) hI (hI.2.2) hC hM hK
  exact ⟨r, ⟨_, M1, M2, h⟩, hr⟩
theorem b_where (hI : Inv M S) {x : Int32} (hK : Kx G x) (w : Int32) : ∃ r : Out_, (∃ a M1 M2, WM M ∧ WM M1 ∧ Ev G 11 50 (.ref 0 :: [.int w]) M (some (.int a), M1) ∧ Ev G 11 122 (.ref 91 :: [.int w]) M1 (some (.int a), M2) ∧ EvC G 12 m_W_law 18 [some (.retAddr 0), some (.ref 0), some (.ref 91), some (.int x)] [] M2 r) ∧ (r.1 = some (.int (zI 1)) ∧ WM r.2) := by
  have hC : ∃ M', Ev G 11 50 (.ref 0 :: [.int w]) M (some (.int (zI (sp_where S w.toInt).1)), M') ∧ RepC M' ((sp_where S w.toInt).2) ∧ Fx gC M M' := by
    have h := e_P_where (G := G) (d := 6) (f := w.toInt) hI.1 (rg_toInt w) (fl_Q hI.1.2.1)
    rw [zI_of] at h
    exact h
  have hM : ∀ M1, RepM M1 S → ∃ M', Ev G 11 122 (.ref 91 :: [.int w]) M1 (some (.int (zI (sp_where S w.toInt).1)), M') ∧ RepM M' ((sp_where S w.toInt).2) ∧ Fx gM M1 M' := fun M1 h1 => by
    have h := e_M_where (G := G) (d := 7) (f := w.toInt) h1 hI.2.2 (rg_toInt w) (fl_Q hI.1.2.1)
    rw [zI_of] at h
    exact h
  obtain ⟨r, ⟨M1, M2, h⟩, hr⟩ := pair_ (S' := (sp_where S w.toInt).2) hI (ok_where hI.2.2) hC hM hK
  exact ⟨r, ⟨_, M1, M2, h⟩, hr⟩
theorem b_anywhere (hI : Inv M S) {x : Int32} (hK : Kx G x) : ∃ r : Out_, (∃ a M1 M2, WM M ∧ WM M1 ∧ Ev G 11 53 (.ref 0 :: []) M (some (.int a), M1) ∧ Ev G 11 123 (.ref 91 :: []) M1 (some (.int a), M2) ∧ EvC G 12 m_W_law 18 [some (.retAddr 0), some (.ref 0), some (.ref 91), some (.int x)] [] M2 r) ∧ (r.1 = some (.int (zI 1)) ∧ WM r.2) := by
  have hC : ∃ M', Ev G 11 53 (.ref 0 :: []) M (some (.int (zI (sp_anywhere S).1)), M') ∧ RepC M' ((sp_anywhere S).2) ∧ Fx gC M M' := e_P_anywhere hI.1
  have hM : ∀ M1, RepM M1 S → ∃ M', Ev G 11 123 (.ref 91 :: []) M1 (some (.int (zI (sp_anywhere S).1)), M') ∧ RepM M' ((sp_anywhere S).2) ∧ Fx gM M1 M' := fun M1 h1 => e_M_anywhere h1 hI.2.2
  obtain ⟨r, ⟨M1, M2, h⟩, hr⟩ := pair_ (S' := (sp_anywhere S).2) hI (hI.2.2) hC hM hK
  exact ⟨r, ⟨_, M1, M2, h⟩, hr⟩
theorem b_find (hI : Inv M S) {x : Int32} (hK : Kx G x) : ∃ r : Out_, (∃ a M1 M2, WM M ∧ WM M1 ∧ Ev G 11 54 (.ref 0 :: []) M (some (.int a), M1) ∧ Ev G 11 124 (.ref 91 :: []) M1 (some (.int a), M2) ∧ EvC G 12 m_W_law 18 [some (.retAddr 0), some (.ref 0), some (.ref 91), some (.int x)] [] M2 r) ∧ (r.1 = some (.int (zI 1)) ∧ WM r.2) := by
  have hC : ∃ M', Ev G 11 54 (.ref 0 :: []) M (some (.int (zI (sp_find S).1)), M') ∧ RepC M' ((sp_find S).2) ∧ Fx gC M M' := e_P_find (d := 5) hI.1 hI.2.2
  have hM : ∀ M1, RepM M1 S → ∃ M', Ev G 11 124 (.ref 91 :: []) M1 (some (.int (zI (sp_find S).1)), M') ∧ RepM M' ((sp_find S).2) ∧ Fx gM M1 M' := fun M1 h1 => e_M_find (d := 1) h1 hI.2.2
  obtain ⟨r, ⟨M1, M2, h⟩, hr⟩ := pair_ (S' := (sp_find S).2) hI (ok_find hI.2.2 hI.1.2.2.2.1.1) hC hM hK
  exact ⟨r, ⟨_, M1, M2, h⟩, hr⟩
theorem b_found (hI : Inv M S) {x : Int32} (hK : Kx G x) (w : Int32) : ∃ r : Out_, (∃ a M1 M2, WM M ∧ WM M1 ∧ Ev G 11 69 (.ref 0 :: [.int w]) M (some (.int a), M1) ∧ Ev G 11 133 (.ref 91 :: [.int w]) M1 (some (.int a), M2) ∧ EvC G 12 m_W_law 18 [some (.retAddr 0), some (.ref 0), some (.ref 91), some (.int x)] [] M2 r) ∧ (r.1 = some (.int (zI 1)) ∧ WM r.2) := by
  have hC : ∃ M', Ev G 11 69 (.ref 0 :: [.int w]) M (some (.int (zI (sp_found S w.toInt))), M') ∧ RepC M' (S) ∧ Fx gC M M' := by
    have h := e_P_found (G := G) (d := 11) (k := w.toInt) hI.1 (rg_toInt w)
    rw [zI_of] at h
    exact ⟨M, h, hI.1, Fx.rf hI.1.1⟩
  have hM : ∀ M1, RepM M1 S → ∃ M', Ev G 11 133 (.ref 91 :: [.int w]) M1 (some (.int (zI (sp_found S w.toInt))), M') ∧ RepM M' (S) ∧ Fx gM M1 M' := fun M1 h1 => by
    have h := e_M_found (G := G) (d := 10) (k := w.toInt) h1 (rg_toInt w)
    rw [zI_of] at h
    exact ⟨M1, h, h1, Fx.rf h1.1⟩
  obtain ⟨r, ⟨M1, M2, h⟩, hr⟩ := pair_ (S' := S) hI (hI.2.2) hC hM hK
  exact ⟨r, ⟨_, M1, M2, h⟩, hr⟩
theorem b_examined (hI : Inv M S) {x : Int32} (hK : Kx G x) : ∃ r : Out_, (∃ a M1 M2, WM M ∧ WM M1 ∧ Ev G 11 70 (.ref 0 :: []) M (some (.int a), M1) ∧ Ev G 11 134 (.ref 91 :: []) M1 (some (.int a), M2) ∧ EvC G 12 m_W_law 18 [some (.retAddr 0), some (.ref 0), some (.ref 91), some (.int x)] [] M2 r) ∧ (r.1 = some (.int (zI 1)) ∧ WM r.2) := by
  have hC : ∃ M', Ev G 11 70 (.ref 0 :: []) M (some (.int (zI (S.exm : Int))), M') ∧ RepC M' (S) ∧ Fx gC M M' := ⟨M, e_P_examined hI.1, hI.1, Fx.rf hI.1.1⟩
  have hM : ∀ M1, RepM M1 S → ∃ M', Ev G 11 134 (.ref 91 :: []) M1 (some (.int (zI (S.exm : Int))), M') ∧ RepM M' (S) ∧ Fx gM M1 M' := fun M1 h1 => ⟨M1, e_M_examined h1, h1, Fx.rf h1.1⟩
  obtain ⟨r, ⟨M1, M2, h⟩, hr⟩ := pair_ (S' := S) hI (hI.2.2) hC hM hK
  exact ⟨r, ⟨_, M1, M2, h⟩, hr⟩
theorem b_change (hI : Inv M S) {x : Int32} (hK : Kx G x) (w : Int32) : ∃ r : Out_, (∃ a M1 M2, WM M ∧ WM M1 ∧ Ev G 11 71 (.ref 0 :: [.int w]) M (some (.int a), M1) ∧ Ev G 11 135 (.ref 91 :: [.int w]) M1 (some (.int a), M2) ∧ EvC G 12 m_W_law 18 [some (.retAddr 0), some (.ref 0), some (.ref 91), some (.int x)] [] M2 r) ∧ (r.1 = some (.int (zI 1)) ∧ WM r.2) := by
  have hC : ∃ M', Ev G 11 71 (.ref 0 :: [.int w]) M (some (.int (zI (sp_change S w.toInt).1)), M') ∧ RepC M' ((sp_change S w.toInt).2) ∧ Fx gC M M' := by
    have h := e_P_change (G := G) (d := 5) (op := w.toInt) hI.1 hI.2.2 (rg_toInt w)
    rw [zI_of] at h
    obtain ⟨M1, e, h1, h2, -⟩ := h
    exact ⟨M1, e, h1, h2⟩
  have hM : ∀ M1, RepM M1 S → ∃ M', Ev G 11 135 (.ref 91 :: [.int w]) M1 (some (.int (zI (sp_change S w.toInt).1)), M') ∧ RepM M' ((sp_change S w.toInt).2) ∧ Fx gM M1 M' := fun M1 h1 => by
    have h := e_M_change (G := G) (d := 1) (op := w.toInt) h1 hI.2.2 (rg_toInt w)
    rw [zI_of] at h
    exact h
  obtain ⟨r, ⟨M1, M2, h⟩, hr⟩ := pair_ (S' := (sp_change S w.toInt).2) hI (ok_change hI (rg_toInt w)) hC hM hK
  exact ⟨r, ⟨_, M1, M2, h⟩, hr⟩
theorem b_count (hI : Inv M S) {x : Int32} (hK : Kx G x) : ∃ r : Out_, (∃ a M1 M2, WM M ∧ WM M1 ∧ Ev G 11 84 (.ref 0 :: []) M (some (.int a), M1) ∧ Ev G 11 110 (.ref 91 :: []) M1 (some (.int a), M2) ∧ EvC G 12 m_W_law 18 [some (.retAddr 0), some (.ref 0), some (.ref 91), some (.int x)] [] M2 r) ∧ (r.1 = some (.int (zI 1)) ∧ WM r.2) := by
  have hC : ∃ M', Ev G 11 84 (.ref 0 :: []) M (some (.int (zI (S.docs.length : Int))), M') ∧ RepC M' (S) ∧ Fx gC M M' := ⟨M, e_P_count hI.1, hI.1, Fx.rf hI.1.1⟩
  have hM : ∀ M1, RepM M1 S → ∃ M', Ev G 11 110 (.ref 91 :: []) M1 (some (.int (zI (S.docs.length : Int))), M') ∧ RepM M' (S) ∧ Fx gM M1 M' := fun M1 h1 => ⟨M1, e_M_count h1, h1, Fx.rf h1.1⟩
  obtain ⟨r, ⟨M1, M2, h⟩, hr⟩ := pair_ (S' := S) hI (hI.2.2) hC hM hK
  exact ⟨r, ⟨_, M1, M2, h⟩, hr⟩
theorem law_s {x : Int32} (hc : ¬ (zI G.1 - zI 3 < x)) (i0 : am_in x G.1 = true) (i1 : am_in (x + zI 1) G.1 = true) (i2 : am_in (x + zI 2) G.1 = true) (hK : Kx G (x + zI 3)) : Kx G x := by
  intro M S hI
  suffices hs : ∃ r : Out_, _ ∧ (r.1 = some (.int (zI 1)) ∧ WM r.2) from hs.elim fun r q => ⟨r, ev_W_law_18 q.1, q.2⟩
  refine ex_if (fun q => absurd q hc) (fun _ => ex_and i0 ?_)
  refine ex_if (fun _ => ?_) (fun _ => ?_)
  · obtain ⟨r, ⟨a, M1, M2, w0, w1, e1, e2, e3⟩, hr⟩ := b_put hI hK (G.2 ((x) + (zI 1)).toNatClampNeg) (G.2 ((x) + (zI 2)).toNatClampNeg)
    exact ⟨r, ⟨i1, i2, okO_W w0 rfl, _, _, e1, ev_W_law_138 ⟨i1, i2, okO_W w1 rfl, _, _, e2, ev_W_law_152 (by rw [if_pos rfl]; exact e3)⟩⟩, hr⟩
  refine ex_if (fun _ => ?_) (fun _ => ?_)
  · obtain ⟨r, ⟨a, M1, M2, w0, w1, e1, e2, e3⟩, hr⟩ := b_set hI hK (G.2 ((x) + (zI 1)).toNatClampNeg) (G.2 ((x) + (zI 2)).toNatClampNeg)
    exact ⟨r, ⟨i1, i2, okO_W w0 rfl, _, _, e1, ev_W_law_171 ⟨i1, i2, okO_W w1 rfl, _, _, e2, ev_W_law_185 (by rw [if_pos rfl]; exact e3)⟩⟩, hr⟩
  refine ex_if (fun _ => ?_) (fun _ => ?_)
  · obtain ⟨r, ⟨a, M1, M2, w0, w1, e1, e2, e3⟩, hr⟩ := b_cut hI hK (G.2 ((x) + (zI 1)).toNatClampNeg)
    exact ⟨r, ⟨i1, okO_W w0 rfl, _, _, e1, ev_W_law_199 ⟨i1, okO_W w1 rfl, _, _, e2, ev_W_law_208 (by rw [if_pos rfl]; exact e3)⟩⟩, hr⟩
  refine ex_if (fun _ => ?_) (fun _ => ?_)
  · obtain ⟨r, ⟨a, M1, M2, w0, w1, e1, e2, e3⟩, hr⟩ := b_size hI hK
    exact ⟨r, ⟨okO_W w0 rfl, _, _, e1, ev_W_law_217 ⟨okO_W w1 rfl, _, _, e2, ev_W_law_221 (by rw [if_pos rfl]; exact e3)⟩⟩, hr⟩
  refine ex_if (fun _ => ?_) (fun _ => ?_)
  · obtain ⟨r, ⟨a, M1, M2, w0, w1, e1, e2, e3⟩, hr⟩ := b_at hI hK (G.2 ((x) + (zI 1)).toNatClampNeg)
    exact ⟨r, ⟨i1, okO_W w0 rfl, _, _, e1, ev_W_law_235 ⟨i1, okO_W w1 rfl, _, _, e2, ev_W_law_244 (by rw [if_pos rfl]; exact e3)⟩⟩, hr⟩
  refine ex_if (fun _ => ?_) (fun _ => ?_)
  · obtain ⟨r, ⟨a, M1, M2, w0, w1, e1, e2, e3⟩, hr⟩ := b_path hI hK (G.2 ((x) + (zI 1)).toNatClampNeg) (G.2 ((x) + (zI 2)).toNatClampNeg)
    exact ⟨r, ⟨i1, i2, okO_W w0 rfl, _, _, e1, ev_W_law_263 ⟨i1, i2, okO_W w1 rfl, _, _, e2, ev_W_law_277 (by rw [if_pos rfl]; exact e3)⟩⟩, hr⟩
  refine ex_if (fun _ => ?_) (fun _ => ?_)
  · obtain ⟨r, ⟨a, M1, M2, w0, w1, e1, e2, e3⟩, hr⟩ := b_step hI hK (G.2 ((x) + (zI 1)).toNatClampNeg) (G.2 ((x) + (zI 2)).toNatClampNeg)
    exact ⟨r, ⟨i1, i2, okO_W w0 rfl, _, _, e1, ev_W_law_296 ⟨i1, i2, okO_W w1 rfl, _, _, e2, ev_W_law_310 (by rw [if_pos rfl]; exact e3)⟩⟩, hr⟩
  refine ex_if (fun _ => ?_) (fun _ => ?_)
  · obtain ⟨r, ⟨a, M1, M2, w0, w1, e1, e2, e3⟩, hr⟩ := b_insert hI hK
    exact ⟨r, ⟨okO_W w0 rfl, _, _, e1, ev_W_law_319 ⟨okO_W w1 rfl, _, _, e2, ev_W_law_323 (by rw [if_pos rfl]; exact e3)⟩⟩, hr⟩
  refine ex_if (fun _ => ?_) (fun _ => ?_)
  · obtain ⟨r, ⟨a, M1, M2, w0, w1, e1, e2, e3⟩, hr⟩ := b_fetch hI hK (G.2 ((x) + (zI 1)).toNatClampNeg)
    exact ⟨r, ⟨i1, okO_W w0 rfl, _, _, e1, ev_W_law_337 ⟨i1, okO_W w1 rfl, _, _, e2, ev_W_law_346 (by rw [if_pos rfl]; exact e3)⟩⟩, hr⟩
  refine ex_if (fun _ => ?_) (fun _ => ?_)
  · obtain ⟨r, ⟨a, M1, M2, w0, w1, e1, e2, e3⟩, hr⟩ := b_remove hI hK (G.2 ((x) + (zI 1)).toNatClampNeg)
    exact ⟨r, ⟨i1, okO_W w0 rfl, _, _, e1, ev_W_law_360 ⟨i1, okO_W w1 rfl, _, _, e2, ev_W_law_369 (by rw [if_pos rfl]; exact e3)⟩⟩, hr⟩
  refine ex_if (fun _ => ?_) (fun _ => ?_)
  · obtain ⟨r, ⟨a, M1, M2, w0, w1, e1, e2, e3⟩, hr⟩ := b_index hI hK (G.2 ((x) + (zI 1)).toNatClampNeg)
    exact ⟨r, ⟨i1, okO_W w0 rfl, _, _, e1, ev_W_law_383 ⟨i1, okO_W w1 rfl, _, _, e2, ev_W_law_392 (by rw [if_pos rfl]; exact e3)⟩⟩, hr⟩
  refine ex_if (fun _ => ?_) (fun _ => ?_)
  · obtain ⟨r, ⟨a, M1, M2, w0, w1, e1, e2, e3⟩, hr⟩ := b_entries hI hK (G.2 ((x) + (zI 1)).toNatClampNeg)
    exact ⟨r, ⟨i1, okO_W w0 rfl, _, _, e1, ev_W_law_406 ⟨i1, okO_W w1 rfl, _, _, e2, ev_W_law_415 (by rw [if_pos rfl]; exact e3)⟩⟩, hr⟩
  refine ex_if (fun _ => ?_) (fun _ => ?_)
  · obtain ⟨r, ⟨a, M1, M2, w0, w1, e1, e2, e3⟩, hr⟩ := b_where hI hK (G.2 ((x) + (zI 1)).toNatClampNeg)
    exact ⟨r, ⟨i1, okO_W w0 rfl, _, _, e1, ev_W_law_429 ⟨i1, okO_W w1 rfl, _, _, e2, ev_W_law_438 (by rw [if_pos rfl]; exact e3)⟩⟩, hr⟩
  refine ex_if (fun _ => ?_) (fun _ => ?_)
  · obtain ⟨r, ⟨a, M1, M2, w0, w1, e1, e2, e3⟩, hr⟩ := b_anywhere hI hK
    exact ⟨r, ⟨okO_W w0 rfl, _, _, e1, ev_W_law_447 ⟨okO_W w1 rfl, _, _, e2, ev_W_law_451 (by rw [if_pos rfl]; exact e3)⟩⟩, hr⟩
  refine ex_if (fun _ => ?_) (fun _ => ?_)
  · obtain ⟨r, ⟨a, M1, M2, w0, w1, e1, e2, e3⟩, hr⟩ := b_find hI hK
    exact ⟨r, ⟨okO_W w0 rfl, _, _, e1, ev_W_law_460 ⟨okO_W w1 rfl, _, _, e2, ev_W_law_464 (by rw [if_pos rfl]; exact e3)⟩⟩, hr⟩
  refine ex_if (fun _ => ?_) (fun _ => ?_)
  · obtain ⟨r, ⟨a, M1, M2, w0, w1, e1, e2, e3⟩, hr⟩ := b_found hI hK (G.2 ((x) + (zI 1)).toNatClampNeg)
    exact ⟨r, ⟨i1, okO_W w0 rfl, _, _, e1, ev_W_law_478 ⟨i1, okO_W w1 rfl, _, _, e2, ev_W_law_487 (by rw [if_pos rfl]; exact e3)⟩⟩, hr⟩
  refine ex_if (fun _ => ?_) (fun _ => ?_)
  · obtain ⟨r, ⟨a, M1, M2, w0, w1, e1, e2, e3⟩, hr⟩ := b_examined hI hK
    exact ⟨r, ⟨okO_W w0 rfl, _, _, e1, ev_W_law_496 ⟨okO_W w1 rfl, _, _, e2, ev_W_law_500 (by rw [if_pos rfl]; exact e3)⟩⟩, hr⟩
  refine ex_if (fun _ => ?_) (fun _ => ?_)
  · obtain ⟨r, ⟨a, M1, M2, w0, w1, e1, e2, e3⟩, hr⟩ := b_change hI hK (G.2 ((x) + (zI 1)).toNatClampNeg)
    exact ⟨r, ⟨i1, okO_W w0 rfl, _, _, e1, ev_W_law_514 ⟨i1, okO_W w1 rfl, _, _, e2, ev_W_law_523 (by rw [if_pos rfl]; exact e3)⟩⟩, hr⟩
  refine ex_if (fun _ => ?_) (fun _ => ?_)
  · obtain ⟨r, ⟨a, M1, M2, w0, w1, e1, e2, e3⟩, hr⟩ := b_count hI hK
    exact ⟨r, ⟨okO_W w0 rfl, _, _, e1, ev_W_law_532 ⟨okO_W w1 rfl, _, _, e2, ev_W_law_536 (by rw [if_pos rfl]; exact e3)⟩⟩, hr⟩
  exact hK M S hI
theorem law_l (hL : G.1 ≤ 1536) : ∀ (k i : Nat), G.1 + 3 ≤ i + k → i ≤ G.1 → Kx G (zI (i : Int))
  | 0, i, hk, hi => by omega
  | k + 1, i, hk, hi => by
    by_cases c : G.1 < i + 3
    · intro M S hI
      refine ⟨(some (.int (zI 1)), M), ev_W_law_18 ?_, rfl, hI.1.1⟩
      rw [if_pos (by rw [zI_sub, zI_lt ⟨by omega, by omega⟩ ⟨by omega, by omega⟩]; omega)]
    · have ih := law_l hL k (i + 3) (by omega) (by omega)
      refine law_s ?_ (zI_in (by omega) (by omega) (by omega)) ?_ ?_ ?_
      · rw [zI_sub, zI_lt ⟨by omega, by omega⟩ ⟨by omega, by omega⟩]; omega
      · rw [zI_add]; exact zI_in (by omega) (by omega) (by omega)
      · rw [zI_add]; exact zI_in (by omega) (by omega) (by omega)
      · rw [zI_add, show (i : Int) + 3 = ((i + 3 : Nat) : Int) by omega]; exact ih
theorem r6_ : ∀ k, k < 16 → M0_.2.2 6 k = some (8 + 2 * k) := by decide +kernel
theorem r40_ : ∀ k, k < 2 → M0_.2.2 40 k = some (72 + 2 * k) := by decide +kernel
theorem r41_ : ∀ k, k < 3 → M0_.2.2 41 k = some (76 + 5 * k) := by decide +kernel
theorem z0_ {a j : Nat} : M0_.2.1 a j = zI 0 := (Z0_M0 a j).trans zI_0
def S0_ : St_ := ([], [], [], fun _ => [], [], [], 0)
theorem p0_ {a : Nat} (h1 : sg0[a]? = some (.inl 3)) (h2 : sg0[a + 1]? = some (.inr (0, 3))) : pthIs M0_ a [] := ⟨h1, h2, Nat.zero_le _, z0_, fun i hi => (by cases hi), fun l hl => (by cases hl)⟩
theorem q0_ {j : Nat} : mPth M0_ j [] := ⟨Nat.zero_le _, z0_, fun i hi => (by cases hi), fun l hl => (by cases hl)⟩
theorem inv0 : Inv M0_ S0_ := by
  refine ⟨⟨WM_M0, ⟨rfl, rfl, Nat.zero_le _, z0_, fun i hi => (by cases hi), fun i hi => (by cases hi)⟩, p0_ rfl rfl, ⟨Nat.zero_le _, z0_, fun k => 8 + 2 * k, ⟨fun k hk => ⟨r6_ k hk, ?_⟩, fun i j _ _ h => ?_⟩, fun k hk => (by cases hk)⟩, fun i hi => ⟨r40_ i hi, ?_⟩, ⟨Nat.zero_le _, z0_, r41_, fun k hk => (by cases hk)⟩, ⟨Nat.zero_le _, z0_, fun k hk => (by cases hk)⟩, z0_⟩, ⟨WM_M0, ⟨Nat.zero_le _, z0_, fun i hi => (by cases hi), fun i hi => (by cases hi)⟩, q0_, ⟨Nat.zero_le _, z0_, fun i hi => (by cases hi)⟩, fun i hi => q0_, ⟨Nat.zero_le _, z0_, fun i hi => (by cases hi)⟩, ⟨Nat.zero_le _, z0_, fun i hi => (by cases hi)⟩, z0_⟩, ⟨fun i hi => (by cases hi), fun i j _ hi => (by cases hi)⟩, Nat.zero_le _, fun i hi => (by cases hi)⟩
  · show 8 ≤ 8 + 2 * k ∧ 8 + 2 * k ≤ 38 ∧ (8 + 2 * k) % 2 = 0
    omega
  · have h : 8 + 2 * i = 8 + 2 * j := h
    omega
  · rcases (show i = 0 ∨ i = 1 by omega) with rfl | rfl
    · exact p0_ rfl rfl
    · exact p0_ rfl rfl
theorem sz_ok : sg0.length ≤ 600000 ∧ am_sz sg0 ≤ 7302249 := by decide +kernel
theorem l9_ : Ma9.1.length = 91 := by decide +kernel
theorem o9_ : am_okO (am_new Ma9 (.inl 8)) 91 8 = true := by
  have o := okO_is (new_self Ma9 (.inl 8))
  rw [l9_] at o
  exact o
theorem law_7_ {r : Out_} (e : EvC G 12 m_W_law 15 [some (.retAddr 0), some (.ref 0), none, none] [.ref 91] M0_ r) : EvC G 12 m_W_law 7 [some (.retAddr 0), none, none, none] [.ref 0] Ma9 r := by
  refine ev_W_law_7 (M := Ma9) ?_
  rw [l9_]
  exact ⟨o9_, M0_, e_M_init (d := 10), e⟩
end LAWS
theorem law_ev (G : Nat × (Nat → Int32)) (hL : G.1 ≤ 1536) : ∃ o : Out_, EvC G 12 m_W_law 0 (am_loc 4 [.retAddr 0]) [] M00 o ∧ o.1 = some (.int 1) ∧ o.2.1.length ≤ 600000 ∧ am_sz o.2.1 ≤ 7302249 := by
  obtain ⟨r, e, h1, h2⟩ := law_l (G := G) hL (G.1 + 3) 0 (by omega) (by omega) M0_ S0_ inv0
  refine ⟨r, ?_, h1.trans (by rw [zI_1]), by rw [h2.1]; exact sz_ok.1, by rw [h2.1]; exact sz_ok.2⟩
  refine ev_W_law_0 ⟨okO_is (new_self _ _), _, e_P_init (d := 7), ?_⟩
  exact law_7_ (ev_W_law_15 e)
