/-! index, where, anywhere, found, examined -/
def sp_index (S : St_) (i : Int) : Int × St_ := if 0 ≤ i ∧ i < 2 ∧ 0 < S.typ.length then (1, (S.sI (fun j => if j = i.toNat then S.typ else S.ix j))) else (0, S)
def sp_where (S : St_) (f : Int) : Int × St_ := match rdQ S.buf with
  | .inl g => (-1 - (g : Int), S)
  | .inr _ => if 0 ≤ f ∧ f ≤ 7 ∧ 0 < S.typ.length ∧ S.cnd.length < 3 then ((S.cnd.length : Int), ((S.sC (S.cnd ++ [(S.typ, f, S.buf)])).sB ([]))) else (-1000, S)
def sp_anywhere (S : St_) : Int × St_ := ((S.cnd.length : Int), (S.sC ([])))
def sp_found (S : St_) (k : Int) : Int := if 0 ≤ k ∧ k < (S.fnd.length : Int) then S.fnd.getD k.toNat 0 else -1
theorem cD_app {C : List Cn} {x : Cn} {c : Nat} (h : c < C.length) : cD (C ++ [x]) c = cD C c := by
  unfold cD
  rw [List.getD_eq_getElem?_getD, List.getElem?_append_left h, List.getD_eq_getElem?_getD]
theorem cD_new {C : List Cn} {x : Cn} : cD (C ++ [x]) C.length = x := by
  unfold cD
  rw [List.getD_eq_getElem?_getD, List.getElem?_append_right (Nat.le_refl _), Nat.sub_self]
  rfl
section WHERE
variable {G : Nat × (Nat → Int32)} {d : Nat} {S : St_} {M : Mm_}
theorem e_H_become {a b : Nat} {P : List (List Int)} (hW : WM M) (sa : sg0[a]? = some (.inl 3)) (sa1 : sg0[a + 1]? = some (.inr (0, 3))) (hb : pthIs M b P) (h1 : a ≠ b) (h2 : a ≠ b + 1) (h3 : a + 1 ≠ b) : ∃ M', Ev G (d + 1) 41 [.ref a, .ref b] M (none, M') ∧ pthIs M' a P ∧ Fr [a, a + 1] M M' := by
  obtain ⟨b1, b2, b3, b4, b5, b6⟩ := hb
  have z0 : (zI 0).toNatClampNeg = 0 := by decide +kernel
  have z3 : (zI 3).toNatClampNeg = 3 := by decide +kernel
  have W1 : WM (am_setI M a 1 (zI (P.length : Int))) := WM_setI hW
  have hc : am_okC (am_setI M a 1 (zI (P.length : Int))) (b + 1) (a + 1) (zI 0) (zI 0) (zI 3) = true := by
    unfold am_okC
    rw [W1.1, b2, sa1]
    decide +kernel
  have v : ∀ c j, (am_copy (am_setI M a 1 (zI (P.length : Int))) (b + 1) (a + 1) 0 0 3).2.1 c j = if c = a + 1 then va_cpy ((am_setI M a 1 (zI (P.length : Int))).2.1 (b + 1)) ((am_setI M a 1 (zI (P.length : Int))).2.1 (a + 1)) 0 0 3 j else (am_setI M a 1 (zI (P.length : Int))).2.1 c j := fun _ _ => rfl
  refine ⟨am_copy (am_setI M a 1 (zI (P.length : Int))) (b + 1) (a + 1) 0 0 3, ev_of (q := mt_H_become) rfl (ev_H_become_0 ?_), ⟨sa, sa1, b3, ?_, fun i hi => ?_, b6⟩, rfl, rfl, fun c hc => ?_⟩
  · rw [b4, z0, z3]
    exact ⟨okF_W hW b1, okP_W hW sa rfl, okF_W W1 b1, okF_W W1 sa, hc, rfl⟩
  · rw [v, if_neg (by omega), setI_self]
  · rw [v, if_pos rfl]
    unfold va_cpy
    rw [if_pos ⟨Nat.zero_le _, by omega⟩, show 0 + (i - 0) = i by omega, setI_cell (by omega)]
    exact b5 i hi
  · funext j
    rw [List.mem_cons, List.mem_singleton] at hc
    rw [v, if_neg (by omega), setI_cell (by omega)]
theorem RepC.ixs {P : Nat → Nat → Prop} {M M' : Mm_} {I : Nat → List (List Int)} (h : RepC M S) (f : Fx P M M') (hp : ∀ a j, P a j → 72 ≤ a ∧ a ≤ 75) (hI : cIxs M' I) : RepC M' (S.sI (I)) := by
  obtain ⟨h0, h1, h2, h3, h4, h5, h6, h7⟩ := h
  exact ⟨f.1, h1.kx f (fun j q => by have := hp _ _ q; omega) (fun j q => by have := hp _ _ q; omega), h2.kx f (fun j q => by have := hp _ _ q; omega) (fun j q => by have := hp _ _ q; omega), h3.kx f (fun a j q => by have := hp _ _ q; omega), hI, h5.kx f (fun a j q => by have := hp _ _ q; omega), h6.kx f (fun a j q => by have := hp _ _ q; omega), by rw [f.2.2 _ _ (fun q => by have := hp _ _ q; omega)]; exact h7⟩
theorem e_P_index {i : Int} (h : RepC M S) (hi : rg i) : ∃ M', Ev G (d + 2) 40 [.ref 0, .int (zI i)] M (some (.int (zI (sp_index S i).1)), M') ∧ RepC M' (sp_index S i).2 ∧ Fx gC M M' := by
  have hW := h.1
  unfold sp_index
  by_cases c0 : i < 0
  · rw [if_neg (show ¬ (0 ≤ i ∧ i < 2 ∧ 0 < S.typ.length) by omega)]
    refine ⟨M, ev_of (q := mt_P_index) rfl (ev_P_index_0 ?_), h, Fx.rf hW⟩
    rw [zI_0, if_pos ((zI_lt hi ⟨by omega, by omega⟩).mpr c0)]
  · by_cases c2 : i < 2
    · obtain ⟨n, rfl⟩ : ∃ n : Nat, i = (n : Int) := ⟨i.toNat, by omega⟩
      rw [Int.toNat_natCast]
      obtain ⟨x1, x2⟩ := h.2.2.2.2.1 n (by omega)
      have tl := h.2.2.1.2.2.1
      have t1 : M.2.1 (0 + 3) 1 = zI (S.typ.length : Int) := h.2.2.1.2.2.2.1
      by_cases cl : S.typ.length = 0
      · rw [if_neg (show ¬ (0 ≤ (n : Int) ∧ (n : Int) < 2 ∧ 0 < S.typ.length) by omega)]
        refine ⟨M, ev_of (q := mt_P_index) rfl (ev_P_index_0 ?_), h, Fx.rf hW⟩
        rw [zI_0, if_neg (fun q => c0 ((zI_lt hi ⟨by omega, by omega⟩).mp q)), if_pos ((zI_lt hi ⟨by omega, by omega⟩).mpr c2), t1, cl, if_pos (show zI ((0 : Nat) : Int) = zI 0 from rfl)]
        exact ⟨okF_W hW rfl, okF_W hW rfl, rfl⟩
      · rw [if_pos (show 0 ≤ (n : Int) ∧ (n : Int) < 2 ∧ 0 < S.typ.length by omega)]
        obtain ⟨M1, e1, p1, f1⟩ := e_H_become (G := G) (d := d) hW x2.1 x2.2.1 h.2.2.1 (by omega) (by omega) (by omega)
        have f1x := f1.x hW
        have hI : cIxs M1 (fun j => if j = n then S.typ else S.ix j) := fun j hj => by
          obtain ⟨y1, y2⟩ := h.2.2.2.2.1 j hj
          refine ⟨by rw [f1.2.1]; exact y1, ?_⟩
          show pthIs M1 (72 + 2 * j) (if j = n then S.typ else S.ix j)
          by_cases e : j = n
          · rw [if_pos e, e]; exact p1
          · rw [if_neg e]
            exact y2.kx f1x (fun k q => by have := mem2 q; omega) (fun k q => by have := mem2 q; omega)
        refine ⟨M1, ev_of (q := mt_P_index) rfl (ev_P_index_0 ?_), h.ixs f1x (fun a j q => by have := mem2 q; omega) hI, f1x.up (fun a j q => by have := mem2 q; unfold gC; omega)⟩
        rw [zI_0, if_neg (fun q => c0 ((zI_lt hi ⟨by omega, by omega⟩).mp q)), if_pos ((zI_lt hi ⟨by omega, by omega⟩).mpr c2), t1, if_neg (zI_ne ⟨by omega, by omega⟩ ⟨by omega, by omega⟩ (by omega)), zI_nat (show n < 2147483648 by omega), show M.2.2 (0 + 40) n = some (72 + 2 * n) from x1, Option.getD_some]
        exact ⟨okF_W hW rfl, okF_W hW rfl, okF_W hW rfl, okQ_40 hW (by omega), rfl, okF_W hW rfl, okO_W hW x2.1, _, e1, ev_P_index_34 rfl⟩
    · rw [if_neg (show ¬ (0 ≤ i ∧ i < 2 ∧ 0 < S.typ.length) by omega)]
      refine ⟨M, ev_of (q := mt_P_index) rfl (ev_P_index_0 ?_), h, Fx.rf hW⟩
      rw [zI_0, if_neg (fun q => c0 ((zI_lt hi ⟨by omega, by omega⟩).mp q)), if_neg (fun q => c2 ((zI_lt hi ⟨by omega, by omega⟩).mp q))]
theorem cnd_sg {c : Nat} (hc : c < 3) : sg0[76 + 5 * c]? = some (.inl 1) ∧ sg0[76 + 5 * c + 1]? = some (.inl 3) ∧ sg0[76 + 5 * c + 1 + 1]? = some (.inr (0, 3)) ∧ sg0[76 + 5 * c + 3]? = some (.inl 4) ∧ sg0[76 + 5 * c + 3 + 1]? = some (.inr (0, 80)) := by
  have : c = 0 ∨ c = 1 ∨ c = 2 := by omega
  rcases this with rfl | rfl | rfl <;> exact ⟨rfl, rfl, rfl, rfl, rfl⟩
theorem e_C_become {c : Nat} {P : List (List Int)} {Q : List Int} {f : Int} (hW : WM M) (hc : c < 3) (hP : pthIs M 3 P) (hQ : rowIs M 1 80 Q) (hf : 0 ≤ f ∧ f ≤ 7) (hq : okQ Q) (hp : 0 < P.length) : ∃ M', Ev G (d + 3) 52 [.ref (76 + 5 * c), .ref 3, .int (zI f), .ref 1] M (none, M') ∧ cnIs M' (76 + 5 * c) P f Q ∧ Fp (fun a _ => 76 + 5 * c ≤ a ∧ a ≤ 76 + 5 * c + 4) M M' := by
  obtain ⟨s1, s2, s3, s4, s5⟩ := cnd_sg hc
  obtain ⟨M1, e1, p1, f1⟩ := e_H_become (G := G) (d := d + 1) (a := 76 + 5 * c + 1) (b := 3) hW s2 s3 hP (by omega) (by omega) (by omega)
  have f1x := f1.x hW
  have W1 := f1x.1
  have f2 : Fp (fun a _ => a = 76 + 5 * c) M1 (am_setI M1 (76 + 5 * c) 2 (zI f)) := Fp.set rfl
  have f2x := f2.x W1
  have Q1 : rowIs (am_setI M1 (76 + 5 * c) 2 (zI f)) 1 80 Q := (hQ.kx f1x (fun j q => by have := mem2 q; omega) (fun j q => by have := mem2 q; omega)).kx f2x (fun j q => by omega) (fun j q => by omega)
  obtain ⟨M2, e2, r2, f3⟩ := e_R_becomeS (G := G) (d := d) (r := 76 + 5 * c + 3) (by omega) (by omega) (by omega) f2x.1 s4 s5 Q1 Q1.2.2.1
  have f3x := f3.x f2x.1
  refine ⟨M2, ev_of (q := mt_C_become) rfl (ev_C_become_0 ⟨okF_W hW s1, okO_W hW s2, _, e1, ev_C_become_8 ⟨okP_W W1 s1 rfl, okF_W f2x.1 s1, okO_W f2x.1 s4, _, e2, ev_C_become_21 rfl⟩⟩), ⟨s1, ?_, r2, ?_, hf, hq, hp⟩, ⟨?_, ?_, fun a j hn => ?_⟩⟩
  · exact (p1.kx f2x (fun j q => by omega) (fun j q => by omega)).kx f3x (fun j q => by have := mem2 q; omega) (fun j q => by have := mem2 q; omega)
  · rw [f3.2.2 _ (fun q => by have := mem2 q; omega), setI_self]
  · rw [f3.1]; exact f1.1
  · rw [f3.2.1]; exact f1.2.1
  · rw [f3.2.2 _ (fun q => by have := mem2 q; omega), f2.2.2 _ _ (fun q => by omega), f1.2.2 _ (fun q => by have := mem2 q; omega)]
theorem e_P_where {f : Int} (h : RepC M S) (hfr : rg f) (hg : ∀ g, rdQ S.buf = .inl g → g < 1000) : ∃ M', Ev G (d + 5) 50 [.ref 0, .int (zI f)] M (some (.int (zI (sp_where S f).1)), M') ∧ RepC M' (sp_where S f).2 ∧ Fx gC M M' := by
  have hW := h.1
  have hb := h.2.1
  have hbl := hb.2.2.1
  obtain ⟨M1, e1, f1⟩ := e_T_readOperand (G := G) (d := d) hW tsh42 hb (by omega) hbl
  have f1x := f1.x rfl hW
  have h1 := h.k f1x (fun a j q => Or.inl (pT_gW q))
  have F1 : Fx gC M M1 := f1x.up (fun a j q => gW_C (pT_gW q))
  have W1 := h1.1
  have pre : ∀ r, EvC G (d + 5) m_P_where 11 [some (.ref 0), some (.int (zI f)), none] [.int (zI (fv (rdQ S.buf)))] M1 r → Ev G (d + 5) 50 [.ref 0, .int (zI f)] M r := fun r hr => ev_of (q := mt_P_where) rfl (ev_P_where_0 ⟨okF_W hW rfl, okF_W hW rfl, okO_W hW rfl, _, _, e1, hr⟩)
  unfold sp_where
  cases hrd : rdQ S.buf with
  | inl g =>
    have hg' := hg g hrd
    refine ⟨M1, pre _ (ev_P_where_11 ?_), h1, F1⟩
    rw [hrd, if_neg (fvn (by omega)), zI_sub]
    rfl
  | inr N =>
    have hq := okQ_of hrd hbl
    have t1 : M1.2.1 (0 + 3) 1 = zI (S.typ.length : Int) := h1.2.2.1.2.2.2.1
    have tl := h1.2.2.1.2.2.1
    obtain ⟨k1, k2, k3, k4⟩ := h1.2.2.2.2.2.1
    show ∃ M', Ev G (d + 5) 50 [.ref 0, .int (zI f)] M (some (.int (zI (if 0 ≤ f ∧ f ≤ 7 ∧ 0 < S.typ.length ∧ S.cnd.length < 3 then ((S.cnd.length : Int), ((S.sC (S.cnd ++ [(S.typ, f, S.buf)])).sB ([]))) else (-1000, S) : Int × St_).1)), M') ∧ RepC M' (if 0 ≤ f ∧ f ≤ 7 ∧ 0 < S.typ.length ∧ S.cnd.length < 3 then ((S.cnd.length : Int), ((S.sC (S.cnd ++ [(S.typ, f, S.buf)])).sB ([]))) else (-1000, S) : Int × St_).2 ∧ Fx gC M M'
    have pre2 : ∀ r, (if zI f < zI 0 then (r = ((some (.int (zI (-1000))), M1) : Out_)) else (if zI 7 < zI f then (r = ((some (.int (zI (-1000))), M1) : Out_)) else (if zI (S.typ.length : Int) = zI 0 then (r = ((some (.int (zI (-1000))), M1) : Out_)) else (if zI (S.cnd.length : Int) < zI 3 then ∃ M', Ev G (d + 4) 52 [.ref (76 + 5 * S.cnd.length), .ref 3, .int (zI f), .ref 1] M1 (none, M') ∧ EvC G (d + 5) m_P_where 74 [some (.ref 0), some (.int (zI f)), some (.int (zI (-1)))] [] M' r else (r = ((some (.int (zI (-1000))), M1) : Out_)))))) → Ev G (d + 5) 50 [.ref 0, .int (zI f)] M r := fun r hr => by
      refine pre _ (ev_P_where_11 ?_)
      rw [hrd, show zI (fv (.inr N)) = zI (-1) from rfl, if_pos rfl, zI_0, t1, k2]
      by_cases c0 : zI f < zI 0
      · rw [if_pos c0]; rw [if_pos c0] at hr; exact hr
      · rw [if_neg c0]; rw [if_neg c0] at hr
        by_cases c7 : zI 7 < zI f
        · rw [if_pos c7]; rw [if_pos c7] at hr; exact hr
        · rw [if_neg c7]; rw [if_neg c7] at hr
          refine ⟨okF_W W1 rfl, okF_W W1 rfl, ?_⟩
          by_cases ct : zI (S.typ.length : Int) = zI 0
          · rw [if_pos ct]; rw [if_pos ct] at hr; exact hr
          · rw [if_neg ct]; rw [if_neg ct] at hr
            refine ⟨okF_W W1 rfl, ?_⟩
            by_cases c3 : zI (S.cnd.length : Int) < zI 3
            · have c3' : S.cnd.length < 3 := by have := (zI_lt ⟨by omega, by omega⟩ ⟨by omega, by omega⟩).mp c3; omega
              rw [if_pos c3]; rw [if_pos c3] at hr
              obtain ⟨M', w1, w2⟩ := hr
              rw [zI_nat (show S.cnd.length < 2147483648 by omega), show M1.2.2 (0 + 41) S.cnd.length = some (76 + 5 * S.cnd.length) from k3 _ c3', Option.getD_some]
              exact ⟨okF_W W1 rfl, okF_W W1 rfl, okQ_41 W1 c3', rfl, okF_W W1 rfl, okF_W W1 rfl, okO_W W1 (cnd_sg c3').1, M', w1, w2⟩
            · rw [if_neg c3]; rw [if_neg c3] at hr; exact hr
    by_cases c : 0 ≤ f ∧ f ≤ 7 ∧ 0 < S.typ.length ∧ S.cnd.length < 3
    · rw [if_pos c]
      obtain ⟨M2, e2, n2, f2⟩ := e_C_become (G := G) (d := d + 1) (c := S.cnd.length) W1 c.2.2.2 h1.2.2.1 h1.2.1 ⟨c.1, c.2.1⟩ hq c.2.2.1
      have f2x := f2.x W1
      have W2 := f2x.1
      have k2' : M2.2.1 0 5 = zI (S.cnd.length : Int) := by rw [f2.2.2 _ _ (by omega)]; exact k2
      have f3 : Fp (fun a j => (a = 0 ∧ j = 5) ∨ a = 1) M2 (am_setI (am_setI M2 0 5 (zI ((S.cnd.length + 1 : Nat) : Int))) 1 1 (zI 0)) := Fp.tr (Fp.set (Or.inl ⟨rfl, rfl⟩)) (Fp.set (Or.inr rfl))
      have f3x := f3.x W2
      have F : Fx (fun a j => (a = 0 ∧ j = 5) ∨ a = 1 ∨ (76 ≤ a ∧ a ≤ 90)) M1 (am_setI (am_setI M2 0 5 (zI ((S.cnd.length + 1 : Nat) : Int))) 1 1 (zI 0)) := (f2x.up (fun a j q => by omega)).tr (f3x.up (fun a j q => by omega))
      refine ⟨_, pre2 _ ?_, ?_, F1.tr (F.up (fun a j q => by unfold gC; omega))⟩
      · rw [if_neg (fun q => by rw [zI_lt hfr ⟨by omega, by omega⟩] at q; omega), if_neg (fun q => by rw [zI_lt ⟨by omega, by omega⟩ hfr] at q; omega), if_neg (zI_ne ⟨by omega, by omega⟩ ⟨by omega, by omega⟩ (by omega)), if_pos ((zI_lt ⟨by omega, by omega⟩ ⟨by omega, by omega⟩).mpr (by omega))]
        refine ⟨_, e2, ev_P_where_74 ?_⟩
        have e5 : zI (S.cnd.length : Int) + zI 1 = zI ((S.cnd.length + 1 : Nat) : Int) := by rw [zI_add, show (S.cnd.length : Int) + 1 = ((S.cnd.length + 1 : Nat) : Int) by omega]
        rw [k2', e5, show (0 : Nat) + 1 = 1 from rfl, setI_cell (show (0 : Nat) ≠ 1 by decide), setI_self, zI_sub, show ((S.cnd.length + 1 : Nat) : Int) - 1 = (S.cnd.length : Int) by omega]
        exact ⟨okF_W W2 rfl, okP_W W2 rfl rfl, okF_W (WM_setI W2) rfl, okP_W (WM_setI W2) rfl rfl, okF_W (WM_setI (WM_setI W2)) rfl, rfl⟩
      · obtain ⟨g0, g1, g2, g3, g4, g5, g6, g7⟩ := h1
        have hlen : (S.cnd ++ [(S.typ, f, S.buf)]).length = S.cnd.length + 1 := by rw [List.length_append, List.length_singleton]
        refine ⟨F.1, row_clr rfl rfl, g2.kx F (fun j q => by omega) (fun j q => by omega), g3.kx F (fun a j q => by omega), g4.kx F (fun a j q => by omega), ⟨by rw [hlen]; omega, ?_, fun c' hc' => ?_, fun c' hc' => ?_⟩, g6.kx F (fun a j q => by omega), by rw [F.2.2 _ _ (fun q => by omega)]; exact g7⟩
        · rw [setI_cell (by decide), setI_self, hlen]
        · rw [f3.2.1, f2.2.1]; exact k3 c' hc'
        · rw [hlen] at hc'
          by_cases e : c' < S.cnd.length
          · rw [cD_app e]
            exact ((k4 c' e).kx f2x (fun b j q1 q2 q => by omega)).kx f3x (fun b j q1 q2 q => by omega)
          · have : c' = S.cnd.length := by omega
            rw [this, cD_new]
            exact n2.kx f3x (fun b j q1 q2 q => by omega)
    · rw [if_neg c]
      refine ⟨M1, pre2 _ ?_, h1, F1⟩
      by_cases c0 : f < 0
      · rw [if_pos ((zI_lt hfr ⟨by omega, by omega⟩).mpr c0)]
      · rw [if_neg (fun q => c0 ((zI_lt hfr ⟨by omega, by omega⟩).mp q))]
        by_cases c7 : 7 < f
        · rw [if_pos ((zI_lt ⟨by omega, by omega⟩ hfr).mpr c7)]
        · rw [if_neg (fun q => c7 ((zI_lt ⟨by omega, by omega⟩ hfr).mp q))]
          by_cases ct : S.typ.length = 0
          · rw [ct, if_pos (show zI ((0 : Nat) : Int) = zI 0 from rfl)]
          · rw [if_neg (zI_ne ⟨by omega, by omega⟩ ⟨by omega, by omega⟩ (by omega)), if_neg (fun q => by rw [zI_lt ⟨by omega, by omega⟩ ⟨by omega, by omega⟩] at q; omega)]
theorem e_P_anywhere (h : RepC M S) : ∃ M', Ev G d 53 [.ref 0] M (some (.int (zI (sp_anywhere S).1)), M') ∧ RepC M' (sp_anywhere S).2 ∧ Fx gC M M' := by
  have hW := h.1
  have f : Fx (fun a j => a = 0 ∧ j = 5) M (am_setI M 0 5 (zI 0)) := Fx.setI hW ⟨rfl, rfl⟩
  obtain ⟨k1, k2, k3, k4⟩ := h.2.2.2.2.2.1
  refine ⟨am_setI M 0 5 (zI 0), ev_of (q := mt_P_anywhere) rfl (ev_P_anywhere_0 ?_), ?_, f.up (fun a j q => by unfold gC; omega)⟩
  · rw [k2]
    exact ⟨okF_W hW rfl, okP_W hW rfl rfl, rfl⟩
  · obtain ⟨g0, g1, g2, g3, g4, g5, g6, g7⟩ := h
    exact ⟨f.1, g1.kx f (fun j q => by omega) (fun j q => by omega), g2.kx f (fun j q => by omega) (fun j q => by omega), g3.kx f (fun a j q => by omega), g4.kx f (fun a j q => by omega), ⟨Nat.zero_le _, setI_self, k3, fun c hc => by cases hc⟩, g6.kx f (fun a j q => by omega), by rw [f.2.2 _ _ (fun q => by omega)]; exact g7⟩
theorem e_P_found {k : Int} (h : RepC M S) (hk : rg k) : Ev G d 69 [.ref 0, .int (zI k)] M (some (.int (zI (sp_found S k))), M) := by
  have hW := h.1
  obtain ⟨g1, g2, g3⟩ := h.2.2.2.2.2.2.1
  refine ev_of (q := mt_P_found) rfl (ev_P_found_0 ?_)
  unfold sp_found
  rw [zI_0, g2]
  by_cases c0 : k < 0
  · rw [if_pos ((zI_lt hk ⟨by omega, by omega⟩).mpr c0), if_neg (show ¬ (0 ≤ k ∧ k < (S.fnd.length : Int)) by omega)]
  · rw [if_neg (fun q => c0 ((zI_lt hk ⟨by omega, by omega⟩).mp q))]
    by_cases c1 : k < (S.fnd.length : Int)
    · rw [if_pos ((zI_lt hk ⟨by omega, by omega⟩).mpr c1), if_pos (show 0 ≤ k ∧ k < (S.fnd.length : Int) by omega), zI_clamp hk, show M.2.1 (0 + 71) k.toNat = _ from g3 k.toNat (by omega)]
      exact ⟨okF_W hW rfl, okF_W hW rfl, okA_W hW (show sg0[0 + 71]? = some (.inr (0, 16)) from rfl) (zI_in (by omega) (by omega) (by omega)), rfl⟩
    · rw [if_neg (fun q => c1 ((zI_lt hk ⟨by omega, by omega⟩).mp q)), if_neg (show ¬ (0 ≤ k ∧ k < (S.fnd.length : Int)) by omega)]
      exact ⟨okF_W hW rfl, rfl⟩
theorem e_P_examined (h : RepC M S) : Ev G d 70 [.ref 0] M (some (.int (zI (S.exm : Int))), M) := by
  refine ev_of (q := mt_P_examined) rfl (ev_P_examined_0 ⟨okF_W h.1 rfl, ?_⟩)
  rw [h.2.2.2.2.2.2.2]
end WHERE
