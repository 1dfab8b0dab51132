/-! CHANGE: what it does; the class's method -/
theorem okB_nil : okB [] := fun i hi => by cases hi
theorem okB_cons {x : Int} {L : List Int} (hx : 0 ≤ x ∧ x ≤ 255) (h : okB L) : okB (x :: L) := fun i hi => by
  cases i with
  | zero => exact hx
  | succ n => exact h n (by rw [List.length_cons] at hi; omega)
theorem okB_N {ls : List Int} (h : isN ls) : okB ls := fun i hi => by
  have := h.2.2 _ (List.getElem_mem hi)
  unfold by_
  rw [List.getD_eq_getElem?_getD, List.getElem?_eq_getElem hi, Option.getD_some]
  omega
theorem okB_drop {Q : List Int} {n : Nat} (h : okB Q) : okB (Q.drop n) := fun i hi => by
  rw [List.length_drop] at hi
  have := h (n + i) (by omega)
  unfold by_ at this ⊢
  rw [List.getD_eq_getElem?_getD, List.getElem?_drop, ← List.getD_eq_getElem?_getD]
  exact this
theorem okB_newP {op : Int} {Q : List Int} (hQ : okB Q) (hq : 0 < Q.length) (hl : Q.length ≤ 80) : ∀ P : List (List Int), (∀ ls ∈ P, isN ls) → P.length ≤ 3 → okB (newP op Q P)
  | [], _, _ => okB_nil
  | [ls], h, _ => by
    have hls := okB_N (h ls List.mem_cons_self)
    show okB (if op = 3 then wrap 4 ls Q else elm ls Q)
    split
    · exact okB_cons ⟨by omega, by omega⟩ (okB_app hls (okB_cons ⟨by omega, by omega⟩ (okB_cons ⟨by omega, by omega⟩ (okB_app hQ (okB_cons ⟨by omega, by omega⟩ okB_nil)))))
    · exact okB_cons (hQ 0 hq) (okB_app hls (okB_cons ⟨by omega, by omega⟩ (okB_drop hQ)))
  | ls :: l2 :: r, h, h3 => by
    have hls := okB_N (h ls List.mem_cons_self)
    have hr := fun l hl => h l (List.mem_cons_of_mem _ hl)
    have ih := okB_newP (op := op) hQ hq hl (l2 :: r) hr (by rw [List.length_cons] at h3; omega)
    have pl := newP_len (op := op) (Q := Q) (l2 :: r) hr
    rw [List.length_cons] at h3
    exact okB_cons ⟨by omega, by omega⟩ (okB_app hls (okB_cons ⟨by omega, by omega⟩ (okB_cons ⟨by omega, by omega⟩ (okB_app ih (okB_cons ⟨by omega, by omega⟩ okB_nil)))))
theorem ed_ok {B X : List Int} {N : List Nd} {f t : Nat} {A : List Nat} (hA : Acc B 3 0 N) (hB : okB B) (hX : okB X) (hft : f ≤ t) (ht : t ≤ B.length) (h : ∀ a ∈ A, a < N.length ∧ rPl N a < f ∧ isC (rTy N a) ∧ t ≤ rEn B N a) (hl : (edB B f t X (A.map (rPl N))).length ≤ 60) : okB (edB B f t X (A.map (rPl N))) := by
  rw [edB_len] at hl
  refine okB_ed hB hX hft ht (fun p hp _ => ?_)
  obtain ⟨a, ha, rfl⟩ := List.mem_map.mp hp
  obtain ⟨h1, h2, h3, h4⟩ := h a ha
  have := len_T hA h1 h3
  omega
theorem alt_okX {B : List Int} {N : List Nd} {Q : List Int} {op : Int} {c e : Nat} {n : Int} {f t : Nat} {X : List Int} (hA : Acc B 3 0 N) (hB : okB B) (hQ : op = 1 ∨ (okB Q ∧ 0 < Q.length)) (he : e < N.length) (hc : rPa N e = (c : Int)) (h : alt B N Q op e = some (n, f, t, X)) : okB X := by
  have g := withn hA he hc
  unfold alt at h
  by_cases o0 : op = 0
  · have hQ := hQ.resolve_left (by omega)
    rw [if_pos o0] at h
    have e4 := (Prod.mk.inj (Prod.mk.inj (Prod.mk.inj (Option.some.inj h)).2).2).2
    rw [← e4]
    exact okB_cons (hQ.1 0 hQ.2) (okB_app (okB_sl hB (by omega)) (okB_drop hQ.1))
  · rw [if_neg o0] at h
    by_cases o1 : op = 1
    · rw [if_pos o1] at h
      have e4 := (Prod.mk.inj (Prod.mk.inj (Prod.mk.inj (Option.some.inj h)).2).2).2
      rw [← e4]
      exact okB_nil
    · have hQ := hQ.resolve_left o1
      rw [if_neg o1] at h
      by_cases o2 : op = 2
      · rw [if_pos o2] at h
        by_cases cr : rTy N e = 1 ∧ -32768 ≤ sgn B (rPl N e) + sgn Q 1 ∧ sgn B (rPl N e) + sgn Q 1 ≤ 32767
        · rw [if_pos cr] at h
          have e4 := (Prod.mk.inj (Prod.mk.inj (Prod.mk.inj (Option.some.inj h)).2).2).2
          rw [← e4]
          exact okB_cons ⟨by unfold hi8; omega, by unfold hi8; omega⟩ (okB_cons ⟨by unfold lo8; omega, by unfold lo8; omega⟩ okB_nil)
        · rw [if_neg cr] at h; cases h
      · rw [if_neg o2] at h
        by_cases t4 : ¬ rTy N e = 4
        · rw [if_pos t4] at h; cases h
        · rw [if_neg t4] at h
          by_cases o3 : op = 3
          · rw [if_pos o3] at h
            have e4 := (Prod.mk.inj (Prod.mk.inj (Prod.mk.inj (Option.some.inj h)).2).2).2
            rw [← e4]
            exact hQ.1
          · rw [if_neg o3] at h
            have e4 := (Prod.mk.inj (Prod.mk.inj (Prod.mk.inj (Option.some.inj h)).2).2).2
            rw [← e4]
            exact okB_oth hB _ (fun k hk => by have := withn hA (kids_lt hk).1 (kids_lt hk).2; omega)
theorem opE_ok {B : List Int} {N : List Nd} {P : List (List Int)} {Q : List Int} {op : Int} {R : List Int} (hrd : rdD B = .inr N) (hB : B.length ≤ 60) (hO : okB B) (hP : ∀ ls ∈ P, isN ls) (hpl : P.length ≤ 3) (hp : 0 < P.length) (hop : 0 ≤ op ∧ op ≤ 4) (hQ : op = 1 ∨ (okB Q ∧ 0 < Q.length)) (hql : Q.length ≤ 80) (h : opE B P Q op = some (some R)) (hl : R.length ≤ 60) : okB R := by
  have hA := rdD_acc hrd
  have hn := nds_of hrd
  unfold opE at h
  rw [hn] at h
  cases hk : wkR N (pks P) 0 [] with
  | none => rw [hk] at h; cases h
  | some z =>
    obtain ⟨W, c, e⟩ := z
    rw [hk] at h
    have h : opF B N P Q op W c e = some (some R) := h
    have hw0 : isWy N [] 0 := rfl
    obtain ⟨k1, k2, k3, k4⟩ := wkR_fact _ _ _ _ _ _ hk hw0
    have k3 := k3 (fun q => by have := congrArg List.length q; rw [pks_len, List.length_nil] at this; omega)
    rw [pks_len, List.length_nil, Nat.zero_add] at k3
    by_cases c2 : op = 2 ∧ ¬ by_ Q 0 = 1
    · unfold opF at h
      rw [if_pos c2] at h
      cases h
    · have h2 : op = 2 → by_ Q 0 = 1 := fun q => Classical.byContradiction (fun w => c2 ⟨q, w⟩)
      rcases k4 with rfl | ⟨e', rfl, q2, q3, q4⟩
      · unfold opF at h
        rw [if_neg c2, if_pos rfl] at h
        by_cases o14 : op = 1 ∨ op = 4
        · rw [if_pos o14] at h; cases h
        · rw [if_neg o14] at h
          have hQ := hQ.resolve_left (fun q => o14 (Or.inl q))
          have e := Option.some.inj (Option.some.inj h)
          rw [← e] at hl ⊢
          obtain ⟨n1, n2, n3, n4, n5⟩ := new_fact hA k1 (by omega)
          exact ed_ok hA hO (okB_newP hQ.1 hQ.2 hql _ (fun ls hl => hP ls (List.mem_of_mem_drop hl)) (by rw [List.length_drop]; omega)) (Nat.le_refl _) n1 n3 hl
      · have g := withn hA q2 q3
        rw [opF_alt hop h2 q3 (by omega)] at h
        cases ha : alt B N Q op e' with
        | none => rw [ha] at h; cases h
        | some z =>
          obtain ⟨n, f, t, X⟩ := z
          rw [ha] at h
          have e := Option.some.inj (Option.some.inj h)
          obtain ⟨a1, a2, a3, A, a4, a5, a6, a7, a8, a9⟩ := alt_fact hA hB k1 (by omega) q2 q3 hql ha
          rw [← a4] at e
          rw [← e] at hl ⊢
          exact ed_ok hA hO (alt_okX hA hO hQ q2 q3 ha) a2 a3 a7 hl
theorem newD_ok {B : List Int} {P : List (List Int)} {Q : List Int} {op : Int} (hrd : ∃ N, rdD B = .inr N) (hB : B.length ≤ 60) (hO : okB B) (hP : ∀ ls ∈ P, isN ls) (hpl : P.length ≤ 3) (hp : 0 < P.length) (hop : 0 ≤ op ∧ op ≤ 4) (hQ : op = 1 ∨ (okB Q ∧ 0 < Q.length)) (hql : Q.length ≤ 80) : (∃ N, rdD (newD B P Q op).2 = .inr N) ∧ (newD B P Q op).2.length ≤ 60 ∧ okB (newD B P Q op).2 := by
  obtain ⟨N, hN⟩ := hrd
  unfold newD
  cases h : opE B P Q op with
  | none => exact ⟨⟨N, hN⟩, hB, hO⟩
  | some o =>
    cases o with
    | none => exact ⟨⟨N, hN⟩, hB, hO⟩
    | some R =>
      show (∃ N, rdD (match rdD R with | .inl _ => (false, B) | .inr _ => if R.length ≤ 60 then (true, R) else (false, B) : Bool × List Int).2 = .inr N) ∧ (match rdD R with | .inl _ => (false, B) | .inr _ => if R.length ≤ 60 then (true, R) else (false, B) : Bool × List Int).2.length ≤ 60 ∧ okB (match rdD R with | .inl _ => (false, B) | .inr _ => if R.length ≤ 60 then (true, R) else (false, B) : Bool × List Int).2
      cases hr : rdD R with
      | inl g => exact ⟨⟨N, hN⟩, hB, hO⟩
      | inr N' =>
        dsimp only
        by_cases c : R.length ≤ 60
        · rw [if_pos c]
          exact ⟨⟨N', hr⟩, c, opE_ok hN hB hO hP hpl hp hop hQ hql h c⟩
        · rw [if_neg c]
          exact ⟨⟨N, hN⟩, hB, hO⟩
/-! the documents change one by one -/
def stD (S : St_) (op : Int) (D : List Dc) (k : Nat) : List Dc := D.set k (dN D k, (newD (dB D k) S.typ S.buf op).2)
def stC (S : St_) (op : Int) (z : List Dc × Nat) (k : Nat) : List Dc × Nat := (stD S op z.1 k, z.2 + if (newD (dB z.1 k) S.typ S.buf op).1 = true then 1 else 0)
theorem set_get {D : List Dc} {k i : Nat} {x : Dc} (hk : k < D.length) : (D.set k x).getD i (0, []) = if i = k then x else D.getD i (0, []) := by
  rw [List.getD_eq_getElem?_getD, List.getElem?_set]
  by_cases c : i = k
  · rw [if_pos c.symm, if_pos hk, if_pos c]
    rfl
  · rw [if_neg (fun q => c q.symm), if_neg c, List.getD_eq_getElem?_getD]
theorem stD_N {S : St_} {op : Int} {D : List Dc} {k i : Nat} (hk : k < D.length) : dN (stD S op D k) i = dN D i := by
  unfold stD
  show ((D.set k (dN D k, (newD (dB D k) S.typ S.buf op).2)).getD i (0, [])).1 = _
  rw [set_get hk]
  by_cases c : i = k
  · rw [if_pos c, c]
  · rw [if_neg c]; rfl
theorem stD_B {S : St_} {op : Int} {D : List Dc} {k i : Nat} (hk : k < D.length) : dB (stD S op D k) i = if i = k then (newD (dB D k) S.typ S.buf op).2 else dB D i := by
  unfold stD
  show ((D.set k (dN D k, (newD (dB D k) S.typ S.buf op).2)).getD i (0, [])).2 = _
  rw [set_get hk]
  by_cases c : i = k
  · rw [if_pos c, if_pos c]
  · rw [if_neg c, if_neg c]; rfl
theorem stD_len {S : St_} {op : Int} {D : List Dc} {k : Nat} : (stD S op D k).length = D.length := List.length_set
/-- what change asks of the state -/
def okH (S : St_) (op : Int) : Prop := (∀ ls ∈ S.typ, isN ls) ∧ S.typ.length ≤ 3 ∧ 0 < S.typ.length ∧ (0 ≤ op ∧ op ≤ 4) ∧ (op = 1 ∨ (okB S.buf ∧ 0 < S.buf.length)) ∧ S.buf.length ≤ 80
theorem stD_ok {S : St_} {op : Int} {D : List Dc} {k : Nat} (h : okH S op) (hD : okD D) (hk : k < D.length) : okD (stD S op D k) := by
  obtain ⟨a1, a2, a3, a4, a5, a6⟩ := h
  obtain ⟨d1, d2, d3, d4⟩ := hD.1 k hk
  obtain ⟨n1, n2, n3⟩ := newD_ok d1 d2 d3 a1 a2 a3 a4 a5 a6
  refine ⟨fun i hi => ?_, fun i j hij hj => ?_⟩
  · rw [stD_len] at hi
    rw [stD_N hk, stD_B hk]
    by_cases c : i = k
    · rw [if_pos c, c]; exact ⟨n1, n2, n3, d4⟩
    · rw [if_neg c]; exact hD.1 i hi
  · rw [stD_len] at hj
    rw [stD_N hk, stD_N hk]
    exact hD.2 i j hij hj
theorem fold_ok {S : St_} {op : Int} (h : okH S op) : ∀ (L : List Nat) (z : List Dc × Nat), okD z.1 → (∀ k ∈ L, k < z.1.length) → okD (L.foldl (stC S op) z).1 ∧ (L.foldl (stC S op) z).1.length = z.1.length
  | [], z, hz, _ => ⟨hz, rfl⟩
  | k :: L, z, hz, hL => by
    obtain ⟨i1, i2⟩ := fold_ok h L (stC S op z k) (stD_ok h hz (hL k List.mem_cons_self)) (fun j hj => by
      show j < (stD S op z.1 k).length
      rw [stD_len]
      exact hL j (List.mem_cons_of_mem _ hj))
    refine ⟨i1, i2.trans stD_len⟩
noncomputable def chZ (S : St_) (op : Int) : List Dc × Nat := (mL S S.docs.length).foldl (stC S op) (S.docs, 0)
def isId (S : St_) : Prop := S.typ.length = 1 ∧ pk (S.typ.getD 0 []) = 26980
noncomputable def chK (S : St_) (op : Int) : Int × St_ := if dcd (0 ≤ op ∧ op ≤ 4 ∧ 0 < S.typ.length ∧ ¬ isId S) = true then (((chZ S op).2 : Int), (((sk S).sD (chZ S op).1).sB [])) else (-1000, S)
noncomputable def sp_change (S : St_) (op : Int) : Int × St_ := if op = 1 then chK S op else match rdQ S.buf with
  | .inl g => (-1 - (g : Int), S)
  | .inr _ => chK S op
section PCHG
variable {G : Nat × (Nat → Int32)} {d : Nat} {S : St_}
theorem e_H_isOnly {M : Mm_} {P : List (List Int)} (hW : WM M) (h : pthIs M 3 P) : ∃ x, Ev G d 72 [.ref 3, .int (zI 26980)] M (some (.int x), M) ∧ b01 (P.length = 1 ∧ pk (P.getD 0 []) = 26980) x := by
  obtain ⟨h1, h2, h3, h4, h5, h6⟩ := h
  have z0 : (zI 0).toNatClampNeg = 0 := by decide +kernel
  by_cases c : P.length = 1
  · have v : M.2.1 (3 + 1) 0 = zI (pk (P.getD 0 [])) := h5 0 (by omega)
    have r := pk_rg (getN h6 (show 0 < P.length by omega))
    by_cases c2 : pk (P.getD 0 []) = 26980
    · refine ⟨zI 1, ev_of (q := mt_H_isOnly) rfl (ev_H_isOnly_0 ?_), b01_t ⟨c, c2⟩⟩
      rw [h4, c, if_pos (show zI ((1 : Nat) : Int) = zI 1 from rfl), z0, v, if_pos (by rw [c2])]
      exact ⟨okF_W hW rfl, okF_W hW rfl, okA_W hW (show sg0[3 + 1]? = some (.inr (0, 3)) from rfl) (zI_in (by omega) (by omega) (by omega)), rfl⟩
    · refine ⟨zI 0, ev_of (q := mt_H_isOnly) rfl (ev_H_isOnly_0 ?_), b01_f (fun q => c2 q.2)⟩
      rw [h4, c, if_pos (show zI ((1 : Nat) : Int) = zI 1 from rfl), z0, v, if_neg (zI_ne ⟨by omega, by omega⟩ ⟨by omega, by omega⟩ c2)]
      exact ⟨okF_W hW rfl, okF_W hW rfl, okA_W hW (show sg0[3 + 1]? = some (.inr (0, 3)) from rfl) (zI_in (by omega) (by omega) (by omega)), rfl⟩
  · refine ⟨zI 0, ev_of (q := mt_H_isOnly) rfl (ev_H_isOnly_0 ?_), b01_f (fun q => c q.1)⟩
    rw [h4, if_neg (zI_ne ⟨by omega, by omega⟩ ⟨by omega, by omega⟩ (by omega))]
    exact ⟨okF_W hW rfl, rfl⟩
theorem cSto.upd {M M' : Mm_} {D : List Dc} {op : Int} {k R : Nat} (h : cSto M D) (hk : k < D.length) (hR : M.2.2 6 k = some R) (f : Fx (pAp R) M M') (hrow : rowIs M' R 60 (newD (dB D k) S.typ S.buf op).2) : cSto M' (stD S op D k) := by
  obtain ⟨h1, h2, Rf, ⟨h3, h4⟩, h5⟩ := h
  have er : Rf k = R := by
    have := (h3 k (by omega)).1
    rw [hR] at this
    exact (Option.some.inj this).symm
  have rk := (h3 k (by omega)).2
  rw [er] at rk
  unfold isRw at rk
  refine ⟨by rw [stD_len]; exact h1, by rw [stD_len, f.2.2 _ _ (fun q => by unfold pAp at q; omega)]; exact h2, Rf, ⟨fun i hi => ?_, h4⟩, fun i hi => ?_⟩
  · rw [f.2.1 _ _ (fun q => by unfold pAp at q; omega)]
    exact h3 i hi
  · rw [stD_len] at hi
    rw [stD_N hk, stD_B hk]
    obtain ⟨w1, w2⟩ := h5 i hi
    have ri := (h3 i (by omega)).2
    unfold isRw at ri
    refine ⟨?_, by rw [f.2.2 _ _ (fun q => by unfold pAp at q; omega)]; exact w2⟩
    by_cases c : i = k
    · rw [if_pos c, c, er]; exact hrow
    · rw [if_neg c]
      have ne : Rf i ≠ R := fun q => c (h4 i k (by omega) (by omega) (q.trans er.symm))
      exact w1.kx f (fun j q => by unfold pAp at q; omega) (fun j q => by unfold pAp at q; omega)
theorem pch_l {op : Int} (hH : okH S op) (hq : op = 1 ∨ okQ S.buf) : ∀ (rest done : List Nat) (z : List Dc × Nat) (M : Mm_), mL S S.docs.length = done ++ rest → RepC M ((sk S).sD z.1) → okD z.1 → z.1.length = S.docs.length → cMt M (mL S S.docs.length) → z.2 ≤ done.length → ∃ M', EvC G (d + 6) m_P_change 70 [some (.ref 0), some (.int (zI op)), some (.int (zI (z.2 : Int))), some (.int (zI (done.length : Int)))] [] M (some (.int (zI ((rest.foldl (stC S op) z).2 : Int))), M') ∧ RepC M' (((sk S).sD (rest.foldl (stC S op) z).1).sB []) ∧ Fx gC M M'
  | [], done, z, M, hL, h, hD, hzl, hM, hz2 => by
    have hW := h.1
    have hl : z.1.length ≤ 16 := h.2.2.2.1.1
    have ml := mL_len (S := S) (k := S.docs.length)
    have hlen : (mL S S.docs.length).length = done.length := by rw [hL, List.append_nil]
    have f : Fx (fun a _ => a = 1) M (am_setI M 1 1 (zI 0)) := Fx.setI hW rfl
    have h' := RepC.buf (S := (sk S).sD z.1) h f (fun a j q => Or.inr (Or.inl q)) (row_clear h.2.1)
    refine ⟨am_setI M 1 1 (zI 0), ev_P_change_70 ?_, h', f.up (fun a j q => by unfold gC; omega)⟩
    rw [hM.1, if_neg (fun q => by rw [zI_lt ⟨by omega, by omega⟩ ⟨by omega, by omega⟩] at q; omega)]
    exact ⟨okF_W hW rfl, okF_W hW rfl, okP_W hW rfl rfl, rfl⟩
  | k :: rest, done, z, M, hL, h, hD, hzl, hM, hz2 => by
    have hW := h.1
    have hl : z.1.length ≤ 16 := h.2.2.2.1.1
    have ml := mL_len (S := S) (k := S.docs.length)
    have hlen : (mL S S.docs.length).length = done.length + (rest.length + 1) := by rw [hL, List.length_append, List.length_cons]
    have hkm : k < S.docs.length := mL_lt (k := S.docs.length) (by rw [hL]; simp)
    have hk : k < z.1.length := by omega
    have mk : M.2.1 (0 + 70) done.length = zI ((k : Nat) : Int) := by
      have := hM.2 done.length (by omega)
      rw [getD_mid hL] at this
      exact this
    obtain ⟨R, x, M1, e1, e2, e2r, e3, t1, f1⟩ := rd_doc (G := G) (d := d + 1) (D := z.1) hW h.2.2.2.1 hD hk
    have h1 := h.k f1 (fun a j q => Or.inl (pT_gW q))
    have W1 := h1.1
    have d60 := (hD.1 k hk).2.1
    have r3 := e2
    unfold isRw at r3
    obtain ⟨M2, e4, y4, f4⟩ := e_E_apply (G := G) (d := d) (op := op) e2 d60 (hD.rd hk) t1 h1.2.2.1 hH.2.2.1 h1.2.1 hH.2.2.2.1 hq
    have st2 : cSto M1 z.1 := h1.2.2.2.1
    have s2 : cSto M2 (stD S op z.1 k) := cSto.upd (S := S) (op := op) st2 hk (by rw [f1.2.1 _ _ (fun q => by unfold pT at q; omega)]; exact e1) f4 y4
    have h2 : RepC M2 ((sk S).sD (stD S op z.1 k)) := RepC.sto (S := (sk S).sD z.1) h1 f4 (fun a j q => by unfold pAp at q; unfold gW; omega) s2
    have m2 : cMt M2 (mL S S.docs.length) := ⟨by rw [f4.2.2 _ _ (fun q => by unfold pAp at q; omega), f1.2.2 _ _ (fun q => by unfold pT at q; omega)]; exact hM.1, fun i hi => by rw [f4.2.2 _ _ (fun q => by unfold pAp at q; omega), f1.2.2 _ _ (fun q => by unfold pT at q; omega)]; exact hM.2 i hi⟩
    have hd2 := stD_ok hH hD hk
    obtain ⟨M3, e5, h3, f5⟩ := pch_l hH hq rest (done ++ [k]) (stC S op z k) M2 (by rw [hL, List.append_assoc]; rfl) h2 hd2 (by show (stD S op z.1 k).length = _; rw [stD_len]; exact hzl) m2 (by
      show z.2 + (if (newD (dB z.1 k) S.typ S.buf op).1 = true then 1 else 0) ≤ (done ++ [k]).length
      rw [List.length_append, List.length_singleton]
      split <;> omega)
    refine ⟨M3, ev_P_change_70 ?_, h3, ((f1.up (fun a j q => gW_C (pT_gW q))).tr (f4.up (fun a j q => by unfold pAp at q; unfold gC; omega))).tr f5⟩
    rw [hM.1, if_pos ((zI_lt ⟨by omega, by omega⟩ ⟨by omega, by omega⟩).mpr (by omega)), zI_nat (show done.length < 2147483648 by omega), mk, zI_nat (show k < 2147483648 by omega), show M.2.2 (0 + 5 + 1) k = some R from e1, Option.getD_some]
    refine ⟨okF_W hW rfl, okF_W hW rfl, okF_W hW rfl, okF_W hW rfl, okF_W hW rfl, okA_z hW (show sg0[0 + 70]? = some (.inr (0, 16)) from rfl) (by omega) (by omega), okQ_6 hW (by omega), rfl, okO_W hW rfl, _, _, e3, ev_P_change_99 ⟨okF_W W1 rfl, okF_W W1 rfl, okF_W W1 rfl, okF_W W1 rfl, okO_W W1 rfl, _, _, e4, ev_P_change_120 ?_⟩⟩
    have ek : zI (done.length : Int) + zI 1 = zI (((done ++ [k]).length : Nat) : Int) := by rw [zI_add, List.length_append, List.length_singleton, show (done.length : Int) + 1 = ((done.length + 1 : Nat) : Int) by omega]
    rw [ek, zI_0]
    have e5 : EvC G (d + 6) m_P_change 70 [some (.ref 0), some (.int (zI op)), some (.int (zI ((z.2 + (if (newD (dB z.1 k) S.typ S.buf op).1 = true then 1 else 0) : Nat) : Int))), some (.int (zI ((done ++ [k]).length : Int)))] [] M2 (some (.int (zI ((rest.foldl (stC S op) (stC S op z k)).2 : Int))), M3) := e5
    show (if zI (if (newD (dB z.1 k) S.typ S.buf op).1 = true then 1 else 0) = zI 0 then _ else _)
    by_cases c : (newD (dB z.1 k) S.typ S.buf op).1 = true
    · rw [if_pos c, if_neg z10, zI_add, show (z.2 : Int) + 1 = ((z.2 + 1 : Nat) : Int) by omega]
      rw [if_pos c] at e5
      exact e5
    · rw [if_neg c, if_pos rfl]
      rw [if_neg c] at e5
      exact e5
theorem e_P_change {M : Mm_} {op : Int} (h : RepC M S) (hO : Ok S) (hop : rg op) : ∃ M', Ev G (d + 6) 71 [.ref 0, .int (zI op)] M (some (.int (zI (sp_change S op).1)), M') ∧ RepC M' (sp_change S op).2 ∧ Fx gC M M' ∧ Ok (sp_change S op).2 := by
  have hW := h.1
  have hb := h.2.1
  have hbl := hb.2.2.1
  -- from 26 on
  have core : ∀ (M1 : Mm_) (u2 : Option Value), RepC M1 S → (op = 1 ∨ okQ S.buf) → ∃ M', EvC G (d + 6) m_P_change 26 [some (.ref 0), some (.int (zI op)), u2, none] [] M1 (some (.int (zI (chK S op).1)), M') ∧ RepC M' (chK S op).2 ∧ Fx gC M1 M' ∧ Ok (chK S op).2 := fun M1 u2 h1 hq => by
    have W1 := h1.1
    have tl := h1.2.2.1.2.2.1
    have t1 : M1.2.1 (0 + 3) 1 = zI (S.typ.length : Int) := h1.2.2.1.2.2.2.1
    obtain ⟨y, ey, wy⟩ := e_H_isOnly (G := G) (d := d + 5) W1 h1.2.2.1
    unfold chK
    by_cases c0 : op < 0
    · rw [if_neg (dcd_f (show ¬ (0 ≤ op ∧ op ≤ 4 ∧ 0 < S.typ.length ∧ ¬ isId S) from fun q => by omega))]
      refine ⟨M1, ev_P_change_26 ?_, h1, Fx.rf W1, hO⟩
      rw [zI_0, if_pos ((zI_lt hop ⟨by omega, by omega⟩).mpr c0)]
    · by_cases c4 : 4 < op
      · rw [if_neg (dcd_f (show ¬ (0 ≤ op ∧ op ≤ 4 ∧ 0 < S.typ.length ∧ ¬ isId S) from fun q => by omega))]
        refine ⟨M1, ev_P_change_26 ?_, h1, Fx.rf W1, hO⟩
        rw [zI_0, if_neg (fun q => c0 ((zI_lt hop ⟨by omega, by omega⟩).mp q)), if_pos ((zI_lt ⟨by omega, by omega⟩ hop).mpr c4)]
      · by_cases ct : S.typ.length = 0
        · rw [if_neg (dcd_f (show ¬ (0 ≤ op ∧ op ≤ 4 ∧ 0 < S.typ.length ∧ ¬ isId S) from fun q => by omega))]
          refine ⟨M1, ev_P_change_26 ?_, h1, Fx.rf W1, hO⟩
          rw [zI_0, if_neg (fun q => c0 ((zI_lt hop ⟨by omega, by omega⟩).mp q)), if_neg (fun q => c4 ((zI_lt ⟨by omega, by omega⟩ hop).mp q)), t1, ct, if_pos (show zI ((0 : Nat) : Int) = zI 0 from rfl)]
          exact ⟨okF_W W1 rfl, okF_W W1 rfl, rfl⟩
        · have pre : ∀ r, EvC G (d + 6) m_P_change 55 [some (.ref 0), some (.int (zI op)), u2, none] [.int y] M1 r → EvC G (d + 6) m_P_change 26 [some (.ref 0), some (.int (zI op)), u2, none] [] M1 r := fun r hr => by
            refine ev_P_change_26 ?_
            rw [zI_0, if_neg (fun q => c0 ((zI_lt hop ⟨by omega, by omega⟩).mp q)), if_neg (fun q => c4 ((zI_lt ⟨by omega, by omega⟩ hop).mp q)), t1, if_neg (zI_ne ⟨by omega, by omega⟩ ⟨by omega, by omega⟩ (by omega))]
            exact ⟨okF_W W1 rfl, okF_W W1 rfl, okF_W W1 rfl, okO_W W1 rfl, _, _, ey, hr⟩
          rcases wy with ⟨w1, w2⟩ | ⟨w1, w2⟩
          · rw [if_neg (dcd_f (show ¬ (0 ≤ op ∧ op ≤ 4 ∧ 0 < S.typ.length ∧ ¬ isId S) from fun q => q.2.2.2 w1))]
            refine ⟨M1, pre _ (ev_P_change_55 ?_), h1, Fx.rf W1, hO⟩
            rw [w2, zI_0, if_neg z10]
          · rw [if_pos (dcd_t (show 0 ≤ op ∧ op ≤ 4 ∧ 0 < S.typ.length ∧ ¬ isId S from ⟨by omega, by omega, by omega, w1⟩))]
            have hH : okH S op := ⟨h1.2.2.1.2.2.2.2.2, tl, by omega, ⟨by omega, by omega⟩, by
              rcases hq with q | q
              · exact Or.inl q
              · exact Or.inr ⟨hb.okB, by_lt (by have := q.2.1; omega)⟩, hbl⟩
            obtain ⟨M2, e2, h2, m2, f2⟩ := e_P_seek (G := G) (d := d) h1 hO
            have f2c : Fx gC M1 M2 := f2.up (fun a j q => by unfold pE gW at q; unfold gC; omega)
            obtain ⟨M3, e3, h3, f3⟩ := pch_l (G := G) (d := d) hH hq (mL S S.docs.length) [] (S.docs, 0) M2 rfl h2 hO.1 rfl m2 (Nat.le_refl _)
            have fo := fold_ok hH (mL S S.docs.length) (S.docs, 0) hO.1 (fun k hk => mL_lt hk)
            have hdl : S.docs.length ≤ 16 := h1.2.2.2.1.1
            refine ⟨M3, pre _ (ev_P_change_55 ?_), h3, f2c.tr f3, ⟨fo.1, (hO.sk hdl).2.1, hO.2.2⟩⟩
            rw [w2, zI_0, if_pos rfl]
            exact ⟨okO_W W1 rfl, _, e2, ev_P_change_66 e3⟩
  unfold sp_change
  by_cases o1 : op = 1
  · rw [if_pos o1]
    obtain ⟨M', e, h', f, ok⟩ := core M none h (Or.inl o1)
    refine ⟨M', ev_of (q := mt_P_change) rfl (ev_P_change_0 ?_), h', f, ok⟩
    rw [if_pos (by rw [o1])]
    exact e
  · rw [if_neg o1]
    obtain ⟨M1, e1, f1⟩ := e_T_readOperand (G := G) (d := d + 1) hW tsh42 hb (by omega) hbl
    have f1x := f1.x rfl hW
    have h1 := h.k f1x (fun a j q => Or.inl (pT_gW q))
    have F1 : Fx gC M M1 := f1x.up (fun a j q => gW_C (pT_gW q))
    have pre : ∀ r, EvC G (d + 6) m_P_change 16 [some (.ref 0), some (.int (zI op)), none, none] [.int (zI (fv (rdQ S.buf)))] M1 r → Ev G (d + 6) 71 [.ref 0, .int (zI op)] M r := fun r hr => by
      refine ev_of (q := mt_P_change) rfl (ev_P_change_0 ?_)
      rw [if_neg (zI_ne hop ⟨by omega, by omega⟩ o1)]
      exact ⟨okF_W hW rfl, okF_W hW rfl, okO_W hW rfl, _, _, e1, hr⟩
    cases hrd : rdQ S.buf with
    | inl g =>
      have gl := rdQ_fl hrd
      refine ⟨M1, pre _ (ev_P_change_16 ?_), h1, F1, hO⟩
      rw [hrd, if_neg (fvn (by omega)), zI_sub]
      rfl
    | inr N =>
      obtain ⟨M', e, h', f, ok⟩ := core M1 (some (.int (zI (-1)))) h1 (Or.inr (okQ_of hrd hbl))
      refine ⟨M', pre _ (ev_P_change_16 ?_), h', F1.tr f, ok⟩
      rw [hrd, show zI (fv (.inr N)) = zI (-1) from rfl, if_pos rfl]
      exact e
end PCHG
