/-! THE EDITOR of the class: apply -/
section APPLY
variable {G : Nat × (Nat → Int32)} {d : Nat}
/-- what apply may change -/
def pAp (R a _j : Nat) : Prop := (55 ≤ a ∧ a ≤ 69) ∨ a = R ∨ a = R + 1
theorem pEe_Ap {R a j : Nat} (h : pEe a j) : pAp R a j := Or.inl h
/-- behind the splice -/
theorem app_174 {M : Mm_} {R : Nat} {B Y : List Int} {N : List Nd} {x3 x5 x6 x7 : Int32} (hR : isRw R) (h : dT M R 60 B N) (hY : Y.length ≤ 60 → rowIs M 58 60 Y) : ∃ M', EvC G (d + 5) m_E_apply 174 [some (.ref 55), some (.ref 42), some (.ref 3), some (.int x3), some (.ref 1), some (.int x5), some (.int x6), some (.int x7)] [.int (zI (if Y.length ≤ 60 then 1 else 0))] M (some (.int (zI (if (resD B (some (some Y))).1 = true then 1 else 0))), M') ∧ rowIs M' R 60 (resD B (some (some Y))).2 ∧ Fx (pAp R) M M' := by
  have hW := h.1.1
  have r3 := hR
  unfold isRw at r3
  have hrow := h.1.2.2.2.1
  by_cases c : Y.length ≤ 60
  · have hY := hY c
    obtain ⟨M1, e1, f1, t1, -⟩ := e_T_readDocument (G := G) (d := d) hW tsh60 hY (by omega) (by omega)
    have f1x := f1.x rfl hW
    have W1 := f1x.1
    have F1 : Fx (pAp R) M M1 := f1x.up (fun a j q => by unfold pT at q; unfold pAp; omega)
    have h1 := h.kx f1x (fun a j q => by unfold pT at q; omega)
    have pre : ∀ r, EvC G (d + 5) m_E_apply 188 [some (.ref 55), some (.ref 42), some (.ref 3), some (.int x3), some (.ref 1), some (.int x5), some (.int x6), some (.int x7)] [.int (zI (fv (rdD Y)))] M1 r → EvC G (d + 5) m_E_apply 174 [some (.ref 55), some (.ref 42), some (.ref 3), some (.int x3), some (.ref 1), some (.int x5), some (.int x6), some (.int x7)] [.int (zI (if Y.length ≤ 60 then 1 else 0))] M r := fun r hr => by
      refine ev_E_apply_174 ?_
      rw [if_pos c, zI_0, if_neg z10]
      exact ⟨okF_W hW rfl, okF_W hW rfl, okO_W hW rfl, _, _, e1, hr⟩
    cases hrd : rdD Y with
    | inl g =>
      have gl := rdD_fl hrd
      have er : resD B (some (some Y)) = (false, B) := by
        show (match rdD Y with | .inl _ => (false, B) | .inr _ => if Y.length ≤ 60 then (true, Y) else (false, B)) = _
        rw [hrd]
      rw [er]
      refine ⟨M1, pre _ (ev_E_apply_188 ?_), h1.1.2.2.2.1, F1⟩
      rw [hrd, if_neg (fvn (by omega))]
      rfl
    | inr N' =>
      have er : resD B (some (some Y)) = (true, Y) := by
        show (match rdD Y with | .inl _ => (false, B) | .inr _ => if Y.length ≤ 60 then (true, Y) else (false, B)) = _
        rw [hrd]
        show (if Y.length ≤ 60 then (true, Y) else (false, B)) = _
        rw [if_pos c]
      rw [er]
      have Y1 : rowIs M1 58 60 Y := t1.2.2.2.1
      obtain ⟨M2, e2, y2, f2⟩ := e_R_become (G := G) (d := d + 2) (r := R) (r2 := 58) (by omega) (by omega) (by omega) W1 h1.1.2.2.2.1 Y1 c
      have f2x := f2.x W1
      refine ⟨M2, pre _ (ev_E_apply_188 ?_), y2, F1.tr (f2x.up (fun a j q => by have := mem2 q; unfold pAp; omega))⟩
      rw [hrd, show zI (fv (.inr N')) = zI (-1) from rfl, if_pos rfl, h1.1.2.2.1, Option.getD_some]
      exact ⟨okF_W W1 rfl, rfl, okF_W W1 rfl, okO_W W1 h1.1.2.2.2.1.1, _, e2, ev_E_apply_205 rfl⟩
  · have er : resD B (some (some Y)) = (false, B) := by
      show (match rdD Y with | .inl _ => (false, B) | .inr _ => if Y.length ≤ 60 then (true, Y) else (false, B)) = _
      cases rdD Y with
      | inl g => rfl
      | inr N' => exact if_neg c
    rw [er]
    refine ⟨M, ev_E_apply_174 ?_, hrow, Fx.rf hW⟩
    rw [if_neg c, zI_0, if_pos rfl]
    rfl
theorem opF_alt {B : List Int} {N : List Nd} {P : List (List Int)} {Q : List Int} {op : Int} {W : List Nat} {c e : Nat} (hop : 0 ≤ op ∧ op ≤ 4) (h2 : op = 2 → by_ Q 0 = 1) (hc : rPa N e = (c : Int)) (hne : e ≠ c) : opF B N P Q op W c (e : Int) = match alt B N Q op e with
    | none => none
    | some (n, f, t, X) => some (some (edB B f t X ((if n = (c : Int) then c :: W else e :: c :: W).map (rPl N)))) := by
  unfold opF alt
  rw [if_neg (show ¬ (op = 2 ∧ ¬ by_ Q 0 = 1) from fun q => q.2 (h2 q.1)), if_neg (show ¬ (e : Int) = -1 by omega), Int.toNat_natCast]
  by_cases o0 : op = 0
  · rw [if_pos o0, if_pos o0]
    show _ = some (some (edB B _ _ _ ((if rPa N e = (c : Int) then c :: W else e :: c :: W).map (rPl N))))
    rw [if_pos hc]
  · rw [if_neg o0, if_neg o0]
    by_cases o1 : op = 1
    · rw [if_pos o1, if_pos o1]
      show _ = some (some (edB B _ _ _ ((if rPa N e = (c : Int) then c :: W else e :: c :: W).map (rPl N))))
      rw [if_pos hc]
    · rw [if_neg o1, if_neg o1]
      by_cases o2 : op = 2
      · rw [if_pos o2, if_pos o2]
        by_cases cr : rTy N e = 1 ∧ -32768 ≤ sgn B (rPl N e) + sgn Q 1 ∧ sgn B (rPl N e) + sgn Q 1 ≤ 32767
        · rw [if_pos cr, if_pos cr]
          show _ = some (some (edB B _ _ _ ((if rPa N e = (c : Int) then c :: W else e :: c :: W).map (rPl N))))
          rw [if_pos hc]
        · rw [if_neg cr, if_neg cr]
      · rw [if_neg o2, if_neg o2]
        by_cases t4 : ¬ rTy N e = 4
        · rw [if_pos t4, if_pos t4]
        · rw [if_neg t4, if_neg t4]
          have ec : ¬ (e : Int) = (c : Int) := by omega
          by_cases o3 : op = 3
          · rw [if_pos o3, if_pos o3]
            show _ = some (some (edB B _ _ _ ((if (e : Int) = (c : Int) then c :: W else e :: c :: W).map (rPl N))))
            rw [if_neg ec]
          · rw [if_neg o3, if_neg o3]
            show _ = some (some (edB B _ _ _ ((if (e : Int) = (c : Int) then c :: W else e :: c :: W).map (rPl N))))
            rw [if_neg ec]
/-- what the piece of alter goes into -/
theorem alt_fact {B : List Int} {N : List Nd} {Q : List Int} {op : Int} {c e : Nat} {W : List Nat} {n : Int} {f t : Nat} {X : List Int} (hA : Acc B 3 0 N) (hB : B.length ≤ 60) (hW : isWy N W c) (hWl : W.length ≤ 2) (he : e < N.length) (hc : rPa N e = (c : Int)) (hql : Q.length ≤ 80) (h : alt B N Q op e = some (n, f, t, X)) : X.length ≤ 160 ∧ f ≤ t ∧ t ≤ B.length ∧ ∃ A, A = (if n = (c : Int) then c :: W else e :: c :: W) ∧ n = hdI A ∧ chA N A ∧ (∀ a ∈ A, a < N.length ∧ rPl N a < f ∧ isC (rTy N a) ∧ t ≤ rEn B N a) ∧ (A.map (rPl N)).Nodup ∧ A.length ≤ 4 := by
  have g := withn hA he hc
  have hcf := isWy_fact hA W c hW
  have hlt := g.2.2.2.2.2
  obtain ⟨ls, l1, l2, l3, l4, l5⟩ := nm_of hA he hc hcf.2.1
  have l14 := l1.2.1
  have way : ∀ w ∈ c :: W, w < N.length ∧ rPl N w ≤ rPl N c ∧ rEn B N c ≤ rEn B N w ∧ rTy N w = 3 := fun w hw => by
    rcases List.mem_cons.mp hw with q | q
    · subst q; exact ⟨hcf.1, Nat.le_refl _, Nat.le_refl _, hcf.2.1⟩
    · have := way_pl hA W c hW w q; exact ⟨this.2.2.1, by omega, this.2.1, this.2.2.2⟩
  have doc : ∀ f' t', rPl N c + 1 ≤ f' → t' ≤ rEn B N c → (∃ A, A = (if (c : Int) = (c : Int) then c :: W else e :: c :: W) ∧ (c : Int) = hdI A ∧ chA N A ∧ (∀ a ∈ A, a < N.length ∧ rPl N a < f' ∧ isC (rTy N a) ∧ t' ≤ rEn B N a) ∧ (A.map (rPl N)).Nodup ∧ A.length ≤ 4) := fun f' t' q1 q2 => ⟨c :: W, by rw [if_pos rfl], rfl, isWy_ch hA W c hW, fun a ha => by have := way a ha; exact ⟨this.1, by omega, Or.inl this.2.2.2, by omega⟩, way_nodup hA W c hW, by rw [List.length_cons]; omega⟩
  have arr : rTy N e = 4 → ∀ f' t', rPl N e + 1 ≤ f' → t' ≤ rEn B N e → (∃ A, A = (if (e : Int) = (c : Int) then c :: W else e :: c :: W) ∧ (e : Int) = hdI A ∧ chA N A ∧ (∀ a ∈ A, a < N.length ∧ rPl N a < f' ∧ isC (rTy N a) ∧ t' ≤ rEn B N a) ∧ (A.map (rPl N)).Nodup ∧ A.length ≤ 4) := fun t4 f' t' q1 q2 => by
    refine ⟨e :: c :: W, by rw [if_neg (by omega)], rfl, ⟨hc, isWy_ch hA W c hW⟩, fun a ha => ?_, ?_, by rw [List.length_cons, List.length_cons]; omega⟩
    · rcases List.mem_cons.mp ha with q | q
      · subst q; exact ⟨he, by omega, Or.inr t4, q2⟩
      · have := way a q; exact ⟨this.1, by omega, Or.inl this.2.2.2, by omega⟩
    · rw [List.map_cons]
      refine List.nodup_cons.mpr ⟨fun q => ?_, way_nodup hA W c hW⟩
      obtain ⟨v, hv, ev⟩ := List.mem_map.mp q
      have := way v hv
      omega
  unfold alt at h
  by_cases o0 : op = 0
  · rw [if_pos o0] at h
    obtain ⟨h1, h2⟩ := Prod.mk.inj (Option.some.inj h)
    obtain ⟨h2, h3⟩ := Prod.mk.inj h2
    obtain ⟨h3, h4⟩ := Prod.mk.inj h3
    subst h1; subst h2; subst h3; subst h4
    refine ⟨?_, by omega, by omega, ?_⟩
    · rw [l3]
      simp only [List.length_cons, List.length_append, List.length_drop, List.length_nil]
      omega
    · rw [hc]; exact doc _ _ (by omega) (by omega)
  · rw [if_neg o0] at h
    by_cases o1 : op = 1
    · rw [if_pos o1] at h
      obtain ⟨h1, h2⟩ := Prod.mk.inj (Option.some.inj h)
      obtain ⟨h2, h3⟩ := Prod.mk.inj h2
      obtain ⟨h3, h4⟩ := Prod.mk.inj h3
      subst h1; subst h2; subst h3; subst h4
      refine ⟨by simp, by omega, by omega, ?_⟩
      rw [hc]; exact doc _ _ (by omega) (by omega)
    · rw [if_neg o1] at h
      by_cases o2 : op = 2
      · rw [if_pos o2] at h
        by_cases cr : rTy N e = 1 ∧ -32768 ≤ sgn B (rPl N e) + sgn Q 1 ∧ sgn B (rPl N e) + sgn Q 1 ≤ 32767
        · rw [if_pos cr] at h
          obtain ⟨h1, h2⟩ := Prod.mk.inj (Option.some.inj h)
          obtain ⟨h2, h3⟩ := Prod.mk.inj h2
          obtain ⟨h3, h4⟩ := Prod.mk.inj h3
          subst h1; subst h2; subst h3; subst h4
          refine ⟨by simp, by omega, by omega, ?_⟩
          rw [hc]; exact doc _ _ (by omega) (by omega)
        · rw [if_neg cr] at h; cases h
      · rw [if_neg o2] at h
        by_cases t4 : ¬ rTy N e = 4
        · rw [if_pos t4] at h; cases h
        · rw [if_neg t4] at h
          have t4 : rTy N e = 4 := by omega
          have lt := len_T hA he (Or.inr t4)
          by_cases o3 : op = 3
          · rw [if_pos o3] at h
            obtain ⟨h1, h2⟩ := Prod.mk.inj (Option.some.inj h)
            obtain ⟨h2, h3⟩ := Prod.mk.inj h2
            obtain ⟨h3, h4⟩ := Prod.mk.inj h3
            subst h1; subst h2; subst h3; subst h4
            exact ⟨by omega, Nat.le_refl _, by omega, arr t4 _ _ (by omega) (by omega)⟩
          · rw [if_neg o3] at h
            obtain ⟨h1, h2⟩ := Prod.mk.inj (Option.some.inj h)
            obtain ⟨h2, h3⟩ := Prod.mk.inj h2
            obtain ⟨h3, h4⟩ := Prod.mk.inj h3
            subst h1; subst h2; subst h3; subst h4
            have ol := oth_le (Q := Q) hA he (Nat.le_refl N.length)
            rw [kidT_all] at ol
            exact ⟨by omega, by omega, by omega, arr t4 _ _ (by omega) (by omega)⟩
/-- where there is nothing yet -/
theorem new_fact {B : List Int} {N : List Nd} {c : Nat} {W : List Nat} (hA : Acc B 3 0 N) (hW : isWy N W c) (hWl : W.length ≤ 2) : rEn B N c - 1 ≤ B.length ∧ chA N (c :: W) ∧ (∀ a ∈ c :: W, a < N.length ∧ rPl N a < rEn B N c - 1 ∧ isC (rTy N a) ∧ rEn B N c - 1 ≤ rEn B N a) ∧ ((c :: W).map (rPl N)).Nodup ∧ (c :: W).length ≤ 4 := by
  have hcf := isWy_fact hA W c hW
  have lt := len_T hA hcf.1 (Or.inl hcf.2.1)
  refine ⟨by omega, isWy_ch hA W c hW, fun a ha => ?_, way_nodup hA W c hW, by rw [List.length_cons]; omega⟩
  rcases List.mem_cons.mp ha with q | q
  · subst q; exact ⟨hcf.1, by omega, Or.inl hcf.2.1, by omega⟩
  · have := way_pl hA W c hW a q
    exact ⟨this.2.2.1, by omega, Or.inl this.2.2.2, by omega⟩
theorem newP_len {op : Int} {Q : List Int} : ∀ (P : List (List Int)), (∀ ls ∈ P, isN ls) → (newP op Q P).length ≤ Q.length + 8 * P.length
  | [], _ => Nat.zero_le _
  | [ls], h => by
    have := (h ls List.mem_cons_self).2.1
    show (if op = 3 then wrap 4 ls Q else elm ls Q).length ≤ _
    split
    · unfold wrap; simp only [List.length_cons, List.length_append, List.length_nil]; omega
    · unfold elm; simp only [List.length_cons, List.length_append, List.length_drop, List.length_nil]; omega
  | ls :: l2 :: r, h => by
    have h4 := (h ls List.mem_cons_self).2.1
    have ih := newP_len (op := op) (Q := Q) (l2 :: r) (fun l hl => h l (List.mem_cons_of_mem _ hl))
    show (wrap 3 ls (newP op Q (l2 :: r))).length ≤ _
    unfold wrap
    simp only [List.length_cons, List.length_append, List.length_nil] at ih ⊢
    omega
theorem app_91 {M : Mm_} {R : Nat} {B Q : List Int} {N : List Nd} {P : List (List Int)} {op e' : Int} {W : List Nat} {c : Nat} (hR : isRw R) (hB : B.length ≤ 60) (h : dT M R 60 B N) (hP : pthIs M 3 P) (hQ : rowIs M 1 80 Q) (hop : 0 ≤ op ∧ op ≤ 4) (hq : op = 1 ∨ okQ Q) (h2 : op = 2 → by_ Q 0 = 1) (hw : isWy N W c) (hwl : W.length < P.length) (he : e' = -1 ∨ ∃ e : Nat, e' = (e : Int) ∧ e < N.length ∧ rPa N e = (c : Int)) :
    ∃ M', EvC G (d + 5) m_E_apply 91 [some (.ref 55), some (.ref 42), some (.ref 3), some (.int (zI op)), some (.ref 1), some (.int (zI (c : Int))), some (.int (zI (W.length : Int))), some (.int (zI e'))] [] M (some (.int (zI (if (resD B (opF B N P Q op W c e')).1 = true then 1 else 0))), M') ∧ rowIs M' R 60 (resD B (opF B N P Q op W c e')).2 ∧ Fx (pAp R) M M' := by
  have hW := h.1.1
  have hA := h.2.2
  have hNl := hA.2.1
  have r3 := hR
  unfold isRw at r3
  have hpl := hP.2.2.1
  have hql := hQ.2.2.1
  have ro : rg op := ⟨by omega, by omega⟩
  have f0 : Fx (fun a _ => a = 56) M (am_setI M 56 1 (zI 0)) := Fx.setI hW rfl
  have W0 := f0.1
  have F0 : Fx (pAp R) M (am_setI M 56 1 (zI 0)) := f0.up (fun a j q => by unfold pAp; omega)
  have X0 : pcI (am_setI M 56 1 (zI 0)) [] := ⟨W0, row_clr rfl rfl⟩
  have h0 := h.kx f0 (fun a j q => by omega)
  have P0 := hP.kx f0 (fun j q => by omega) (fun j q => by omega)
  have Q0 := hQ.kx f0 (fun j q => by omega) (fun j q => by omega)
  have hcf := isWy_fact hA W c hw
  rcases he with rfl | ⟨e, rfl, he, hc⟩
  · have eF : opF B N P Q op W c (-1) = if op = 1 ∨ op = 4 then some none else some (some (edB B (rEn B N c - 1) (rEn B N c - 1) (newP op Q (P.drop W.length)) ((c :: W).map (rPl N)))) := by
      unfold opF
      rw [if_neg (show ¬ (op = 2 ∧ ¬ by_ Q 0 = 1) from fun q => q.2 (h2 q.1)), if_pos rfl]
    rw [eF]
    by_cases o14 : op = 1 ∨ op = 4
    · rw [if_pos o14]
      refine ⟨_, ev_E_apply_91 ?_, h0.1.2.2.2.1, F0⟩
      rw [if_pos rfl]
      refine ⟨okF_W hW rfl, okP_W hW rfl rfl, ?_⟩
      by_cases o1 : op = 1
      · rw [if_pos (by rw [o1])]
        rfl
      · rw [if_neg (zI_ne ro ⟨by omega, by omega⟩ o1), if_pos (by rw [show op = 4 by omega])]
        rfl
    · rw [if_neg o14]
      have hq := hq.resolve_left (fun q => o14 (Or.inl q))
      have hq0 : 0 < Q.length := by_lt (by have := hq.2.1; omega)
      obtain ⟨n1, n2, n3, n4, n5⟩ := new_fact hA hw (by omega)
      obtain ⟨-, -, -, -, -, i6, i7, i8, -, -, i11, -⟩ := h0.at hcf.1
      have lt := len_T hA hcf.1 (Or.inl hcf.2.1)
      obtain ⟨M1, e1, m1, f1⟩ := e_E_aim (G := G) (d := d + 4) (n := (c : Int)) (f := rEn B N c - 1) (t := rEn B N c - 1) W0
      have X1 : pcI M1 [] := ⟨f1.1, X0.2.kx f1 (fun j q => by unfold pAm at q; omega) (fun j q => by unfold pAm at q; omega)⟩
      have P1 := P0.kx f1 (fun j q => by unfold pAm at q; omega) (fun j q => by unfold pAm at q; omega)
      have Q1 := Q0.kx f1 (fun j q => by unfold pAm at q; omega) (fun j q => by unfold pAm at q; omega)
      have h1 := h0.kx f1 (fun a j q => by unfold pAm at q; omega)
      obtain ⟨M2, e2, x2, f2⟩ := e_E_writeNew (G := G) (d := d + 1) X1 P1 Q1 hq0 hop hwl
      have h2' := h1.kx f2 (fun a j q => by unfold pEd at q; omega)
      have m2 := m1.kx f2 (fun a j q w => by unfold pEd at q; unfold pAm at w; omega)
      have pl := newP_len (op := op) (Q := Q) (P.drop W.length) (fun ls hl => hP.2.2.2.2.2 ls (List.mem_of_mem_drop hl))
      rw [List.length_drop] at pl
      obtain ⟨M3, e3, y3, f3⟩ := e_E_splice (G := G) (d := d + 1) hR h2' x2 (by omega) m2 (Nat.le_refl _) n1 (A := c :: W) rfl n2 n3 n4 n5
      have h3 := h2'.kx f3 (fun a j q => by omega)
      obtain ⟨M4, e4, y4, f4⟩ := app_174 (G := G) (d := d) (x3 := zI op) (x5 := zI (c : Int)) (x6 := zI (W.length : Int)) (x7 := zI (-1)) hR h3 y3
      refine ⟨M4, ev_E_apply_91 ?_, y4, (((F0.tr (f1.up (fun a j q => pEe_Ap (pAm_Ee q)))).tr (f2.up (fun a j q => pEe_Ap (pEd_Ee q)))).tr (f3.up (fun a j q => by unfold pAp; omega))).tr f4⟩
      rw [if_pos rfl, if_neg (zI_ne ro ⟨by omega, by omega⟩ (fun q => o14 (Or.inl q))), if_neg (zI_ne ro ⟨by omega, by omega⟩ (fun q => o14 (Or.inr q))), zI_nat (show c < 2147483648 by omega), show (am_setI M (55 + 1) 1 (zI 0)).2.1 (42 + 5) c = zI (rEn B N c : Int) from i6, zI_sub, show (rEn B N c : Int) - 1 = ((rEn B N c - 1 : Nat) : Int) by omega]
      exact ⟨okF_W hW rfl, okP_W hW rfl rfl, okF_W W0 rfl, okA_z W0 (tsh42.2 5 (by omega) (by omega)) (by omega) (by omega), okF_W W0 rfl, okA_z W0 (tsh42.2 5 (by omega) (by omega)) (by omega) (by omega), okO_W W0 rfl, _, e1, ev_E_apply_141 ⟨okO_W f1.1 rfl, _, e2, ev_E_apply_151 ⟨okO_W f2.1 rfl, _, _, e3, e4⟩⟩⟩
  · have g := withn hA he hc
    rw [opF_alt hop h2 hc (by omega)]
    obtain ⟨x, M1, e1, f1, cs⟩ := e_E_alter (G := G) (d := d) hR hB he hc hcf.2.1 hop hq h2 h0 Q0 X0
    have h1 := h0.kx f1 (fun a j q => by unfold pEe at q; omega)
    have F1 := F0.tr (f1.up (fun a j q => pEe_Ap q))
    have pre : ∀ r, EvC G (d + 5) m_E_apply 164 [some (.ref 55), some (.ref 42), some (.ref 3), some (.int (zI op)), some (.ref 1), some (.int (zI (c : Int))), some (.int (zI (W.length : Int))), some (.int (zI (e : Int)))] [.int x] M1 r → EvC G (d + 5) m_E_apply 91 [some (.ref 55), some (.ref 42), some (.ref 3), some (.int (zI op)), some (.ref 1), some (.int (zI (c : Int))), some (.int (zI (W.length : Int))), some (.int (zI (e : Int)))] [] M r := fun r hr => by
      refine ev_E_apply_91 ?_
      rw [if_neg (zI_ne ⟨by omega, by omega⟩ ⟨by omega, by omega⟩ (by omega))]
      exact ⟨okF_W hW rfl, okP_W hW rfl rfl, okO_W W0 rfl, _, _, e1, hr⟩
    rcases cs with ⟨rfl, ea⟩ | ⟨rfl, n, f, t, X, ea, m1, x1⟩
    · rw [ea]
      refine ⟨M1, pre _ (ev_E_apply_164 ?_), h1.1.2.2.2.1, F1⟩
      rw [zI_0, if_pos rfl]
      rfl
    · rw [ea]
      obtain ⟨a1, a2, a3, A, a4, a5, a6, a7, a8, a9⟩ := alt_fact hA hB hw (by omega) he hc hql ea
      obtain ⟨M3, e3, y3, f3⟩ := e_E_splice (G := G) (d := d + 1) hR h1 x1 a1 m1 a2 a3 a5 a6 a7 a8 a9
      have h3 := h1.kx f3 (fun a j q => by omega)
      obtain ⟨M4, e4, y4, f4⟩ := app_174 (G := G) (d := d) (x3 := zI op) (x5 := zI (c : Int)) (x6 := zI (W.length : Int)) (x7 := zI (e : Int)) hR h3 y3
      rw [a4] at e4 y4
      refine ⟨M4, pre _ (ev_E_apply_164 ?_), y4, (F1.tr (f3.up (fun a j q => by unfold pAp; omega))).tr f4⟩
      rw [zI_0, if_neg z10]
      rw [a4] at e3
      exact ⟨okO_W f1.1 rfl, _, _, e3, e4⟩
theorem app_l {M : Mm_} {R : Nat} {B : List Int} {N : List Nd} {P : List (List Int)} {op : Int32} {r : Out_} (h : dT M R 60 B N) (hP : pthIs M 3 P) : ∀ (xs : List Int) (x : Int) (c : Nat) (W : List Nat), (pks P).drop W.length = x :: xs → isWy N W c → (match wkR N (x :: xs) c W with
      | none => r = ((some (.int (zI 0)), M) : Out_)
      | some (W', c', e') => EvC G (d + 1) m_E_apply 91 [some (.ref 55), some (.ref 42), some (.ref 3), some (.int op), some (.ref 1), some (.int (zI (c' : Int))), some (.int (zI (W'.length : Int))), some (.int (zI e'))] [] M r) →
    EvC G (d + 1) m_E_apply 35 [some (.ref 55), some (.ref 42), some (.ref 3), some (.int op), some (.ref 1), some (.int (zI (c : Int))), some (.int (zI (W.length : Int))), some (.int (zI (elV N c x)))] [] M r := by
  intro xs
  induction xs with
  | nil =>
    intro x c W hd hw H
    have hW := h.1.1
    have hpl := hP.2.2.1
    have hl : (pks P).length = W.length + 1 := by
      have := congrArg List.length hd
      rw [List.length_drop, List.length_singleton] at this
      omega
    rw [pks_len] at hl
    unfold wkR at H
    refine ev_E_apply_35 ?_
    rw [hP.2.2.2.1, zI_sub, if_neg (fun q => by rw [zI_lt ⟨by omega, by omega⟩ ⟨by omega, by omega⟩] at q; omega)]
    refine ⟨okF_W hW rfl, ?_⟩
    by_cases c1 : elV N c x = -1
    · rw [if_pos c1] at H
      rw [c1]
      exact H
    · rw [if_neg c1, if_pos rfl] at H
      exact H
  | cons y ys ih =>
    intro x c W hd hw H
    have hW := h.1.1
    have hA := h.2.2
    have hNl := hA.2.1
    have hB := h.1.2.2.2.2.2
    have hpl := hP.2.2.1
    have hl : (pks P).length = W.length + (ys.length + 2) := by
      have := congrArg List.length hd
      rw [List.length_drop, List.length_cons, List.length_cons] at this
      omega
    have hd2 : (pks P).drop (W.length + 1) = y :: ys := by
      rw [← List.drop_drop, hd]
      rfl
    have hy : (pks P).getD (W.length + 1) 0 = y := by
      have e : ((pks P).drop (W.length + 1))[0]? = some y := by rw [hd2]; rfl
      rw [List.getElem?_drop, Nat.add_zero] at e
      rw [List.getD_eq_getElem?_getD, e]
      rfl
    rw [pks_len] at hl
    have hcf := isWy_fact hA W c hw
    have vr := elV_rg (N := N) (c := c) (x := x)
    refine ev_E_apply_35 ?_
    rw [hP.2.2.2.1, zI_sub, if_pos ((zI_lt ⟨by omega, by omega⟩ ⟨by omega, by omega⟩).mpr (by omega))]
    refine ⟨okF_W hW rfl, ?_⟩
    unfold wkR at H
    by_cases c1 : elV N c x = -1
    · rw [if_pos c1] at H
      rw [if_pos (by rw [c1]), c1]
      exact H
    · have ef := elV_fact c1
      have em := (elV_mem c1).2
      rw [if_neg c1, if_neg (show ¬ y :: ys = [] by simp)] at H
      obtain ⟨i1, -⟩ := h.at ef.1
      have tr := (hA.2.2.1 _ ef.1)
      have tr1 := tr.1
      have tr2 := tr.2.1
      have ze : (zI (elV N c x)).toNatClampNeg = (elV N c x).toNat := by rw [zI_clamp ⟨by omega, by omega⟩]
      rw [if_neg (zI_ne ⟨by omega, by omega⟩ ⟨by omega, by omega⟩ c1), ze, i1]
      refine ⟨okF_W hW rfl, okA_W hW (show sg0[42 + 1]? = some (.inr (0, 80)) from rfl) (zI_in (by omega) (by omega) (by omega)), ?_⟩
      by_cases c3 : rTy N (elV N c x).toNat = 3
      · rw [if_pos c3] at H
        rw [if_pos (by rw [c3])]
        have en := e_H_name (G := G) (d := d) (k := W.length + 1) hW hP (by omega)
        rw [hy] at en
        have ee := e_T_element (G := G) (d := d) (x := y) hW tsh42 (show M.2.1 42 6 = zI (N.length : Int) from h.2.1.1.2.1) (show tN M 42 N from h.2.1.2.1) (by omega) (fun k hk => by
          have p1 := (hA.2.2.1 k hk).2.2.1
          refine ⟨by omega, ?_⟩
          by_cases q : rPa N k < 0
          · omega
          · have := hold_lt hA.2.2.1 hk (show rPa N k = (((rPa N k).toNat : Nat) : Int) by omega); omega) (fun k hk hpk => by
          obtain ⟨ls, l1, l2, -⟩ := nm_of hA hk hpk c3
          have := pk_rg l1
          rw [l2]
          exact ⟨by omega, by omega⟩) (by have := pks_rg hP.2.2.2.2.2 (W.length + 1); rw [hy] at this; exact ⟨by omega, by omega⟩) ef.1
        rw [elG_V hA ef.1 c3] at ee
        rw [zI_add, show (W.length : Int) + 1 = ((W.length + 1 : Nat) : Int) by omega]
        rw [← em] at ee
        refine ⟨okO_W hW rfl, _, _, en, ev_E_apply_80 ⟨okO_W hW rfl, _, _, ee, ev_E_apply_83 ?_⟩⟩
        have := ih y (elV N c x).toNat (c :: W) hd2 ⟨hw, ef.2.1, c3, ef.1⟩ H
        rw [← em] at this
        rw [zI_add, show (W.length : Int) + 1 = (((c :: W).length : Nat) : Int) by rw [List.length_cons]; omega]
        exact this
      · rw [if_neg c3] at H
        rw [if_neg (zI_ne ⟨by omega, by omega⟩ ⟨by omega, by omega⟩ c3)]
        exact H
theorem e_E_apply {M : Mm_} {R : Nat} {B Q : List Int} {N : List Nd} {P : List (List Int)} {op : Int} (hR : isRw R) (hB : B.length ≤ 60) (hrd : rdD B = .inr N) (h : dT M R 60 B N) (hP : pthIs M 3 P) (hp : 0 < P.length) (hQ : rowIs M 1 80 Q) (hop : 0 ≤ op ∧ op ≤ 4) (hq : op = 1 ∨ okQ Q) :
    ∃ M', Ev G (d + 5) 73 [.ref 55, .ref 42, .ref 3, .int (zI op), .ref 1] M (some (.int (zI (if (newD B P Q op).1 = true then 1 else 0))), M') ∧ rowIs M' R 60 (newD B P Q op).2 ∧ Fx (pAp R) M M' := by
  have hW := h.1.1
  have hA := h.2.2
  have hNl := hA.2.1
  have hpl := hP.2.2.1
  have ro : rg op := ⟨by omega, by omega⟩
  have hn : nds B = N := nds_of hrd
  have hrow := h.1.2.2.2.1
  by_cases c2 : op = 2 ∧ ¬ by_ Q 0 = 1
  · have e0 : newD B P Q op = (false, B) := by
      unfold newD opE
      cases wkR (nds B) (pks P) 0 [] with
      | none => rfl
      | some z =>
        obtain ⟨W, c, e⟩ := z
        show resD B (opF B (nds B) P Q op W c e) = _
        unfold opF
        rw [if_pos c2]
        rfl
    rw [e0]
    have hq := hq.resolve_left (by omega)
    have q1 := hq.2.1
    have q2 := hq.2.2.1
    refine ⟨M, ev_of (q := mt_E_apply) rfl (ev_E_apply_0 ?_), hrow, Fx.rf hW⟩
    rw [if_pos (by rw [c2.1])]
    refine ⟨okO_W hW rfl, _, _, e_R_cell' (p := 0) hW hQ (by omega), ev_E_apply_11 ?_⟩
    rw [if_neg (zI_ne ⟨by omega, by omega⟩ ⟨by omega, by omega⟩ c2.2)]
    rfl
  · have h2 : op = 2 → by_ Q 0 = 1 := fun q => Classical.byContradiction (fun w => c2 ⟨q, w⟩)
    have st : ∀ r, EvC G (d + 5) m_E_apply 35 [some (.ref 55), some (.ref 42), some (.ref 3), some (.int (zI op)), some (.ref 1), some (.int (zI 0)), some (.int (zI 0)), some (.int (zI (elV N 0 ((pks P).getD 0 0))))] [] M r → Ev G (d + 5) 73 [.ref 55, .ref 42, .ref 3, .int (zI op), .ref 1] M r := fun r hr => by
      have r1 := (root_0 hA).1
      have en := e_H_name (G := G) (d := d + 4) (k := 0) hW hP (by omega)
      have ee := e_T_element (G := G) (d := d + 4) (c := 0) (x := (pks P).getD 0 0) hW tsh42 (show M.2.1 42 6 = zI (N.length : Int) from h.2.1.1.2.1) (show tN M 42 N from h.2.1.2.1) (by omega) (fun k hk => by
        have p1 := (hA.2.2.1 k hk).2.2.1
        refine ⟨by omega, ?_⟩
        by_cases q : rPa N k < 0
        · omega
        · have := hold_lt hA.2.2.1 hk (show rPa N k = (((rPa N k).toNat : Nat) : Int) by omega); omega) (fun k hk hpk => by
        obtain ⟨ls, l1, l2, -⟩ := nm_of hA hk hpk r1
        have := pk_rg l1
        rw [l2]
        exact ⟨by omega, by omega⟩) (by have := pks_rg hP.2.2.2.2.2 0; exact ⟨by omega, by omega⟩) hA.1.1
      rw [elG_V hA hA.1.1 r1] at ee
      have s17 : EvC G (d + 5) m_E_apply 17 [some (.ref 55), some (.ref 42), some (.ref 3), some (.int (zI op)), some (.ref 1), none, none, none] [] M r := ev_E_apply_17 ⟨okO_W hW rfl, _, _, en, ev_E_apply_30 ⟨okO_W hW rfl, _, _, ee, ev_E_apply_33 hr⟩⟩
      refine ev_of (q := mt_E_apply) rfl (ev_E_apply_0 ?_)
      by_cases o2 : op = 2
      · have hq' := hq.resolve_left (by omega)
        rw [if_pos (by rw [o2])]
        refine ⟨okO_W hW rfl, _, _, e_R_cell' (p := 0) hW hQ (by omega), ev_E_apply_11 ?_⟩
        rw [if_pos (by rw [h2 o2])]
        exact s17
      · rw [if_neg (zI_ne ro ⟨by omega, by omega⟩ o2)]
        exact s17
    obtain ⟨x, xs, ex⟩ : ∃ x xs, pks P = x :: xs := by
      cases e : pks P with
      | nil => have := congrArg List.length e; rw [pks_len, List.length_nil] at this; omega
      | cons x xs => exact ⟨x, xs, rfl⟩
    have e0 : (pks P).getD 0 0 = x := by rw [ex]; rfl
    rw [e0] at st
    have hw0 : isWy N [] 0 := rfl
    cases hk : wkR N (x :: xs) 0 [] with
    | none =>
      have en : newD B P Q op = (false, B) := by
        unfold newD opE
        rw [hn, ex, hk]
        rfl
      rw [en]
      refine ⟨M, st _ (app_l (d := d + 4) h hP xs x 0 [] (by rw [List.length_nil, List.drop_zero]; exact ex) hw0 ?_), hrow, Fx.rf hW⟩
      rw [hk]
      rfl
    | some z =>
      obtain ⟨W, c, e⟩ := z
      have en : newD B P Q op = resD B (opF B N P Q op W c e) := by
        unfold newD opE
        rw [hn, ex, hk]
      rw [en]
      obtain ⟨k1, k2, k3, k4⟩ := wkR_fact _ _ _ _ _ _ hk hw0
      have pl := congrArg List.length ex
      rw [pks_len] at pl
      have k3 := k3 (by simp)
      rw [← pl, List.length_nil] at k3
      obtain ⟨M1, e1, y1, f1⟩ := app_91 (G := G) (d := d) hR hB h hP hQ hop hq h2 k1 (by omega) (by
        rcases k4 with k4 | ⟨e', q1, q2, q3, q4⟩
        · exact Or.inl k4
        · exact Or.inr ⟨e', q1, q2, q3⟩)
      refine ⟨M1, st _ (app_l (d := d + 4) h hP xs x 0 [] (by rw [List.length_nil, List.drop_zero]; exact ex) hw0 ?_), y1, f1⟩
      rw [hk]
      exact e1
end APPLY
