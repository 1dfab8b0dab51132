/-! THE REFERENCE's operators: setIt, addIt, operate -/
theorem edB_set {B X : List Int} {s p t : Nat} {v : Int} {ps : List Nat} (hs : s < p) (hp : p ≤ t) (ht : t ≤ B.length) (hps : ∀ q ∈ ps, q < s) : edB (B.set s v) p t X ps = edB B s t (v :: (sl B (s + 1) p ++ X)) ps := by
  have ls : (sl B (s + 1) p).length = p - (s + 1) := sl_len (by omega)
  have lc : (v :: (sl B (s + 1) p ++ X)).length = p - s + X.length := by rw [List.length_cons, List.length_append, ls]; omega
  refine by_ext (by rw [edB_len, edB_len, List.length_set, lc]; omega) (fun i hi => ?_)
  rw [edB_len, List.length_set] at hi
  by_cases c : i < s
  · rw [edB_lo (show i < p by omega), edB_lo c, by_set (by omega), if_neg (by omega), lc]
    split <;> omega
  · by_cases c2 : i < p
    · rw [edB_lo c2, if_neg (show i ∉ ps from fun q => by have := hps i q; omega), by_set (by omega)]
      have e2 := edB_mid (B := B) (f := s) (t := t) (pc := v :: (sl B (s + 1) p ++ X)) (ps := ps) (i := i - s) (by omega)
      rw [show s + (i - s) = i by omega] at e2
      rw [e2]
      by_cases c3 : i = s
      · rw [if_pos c3, c3, Nat.sub_self]
        show v + 0 = v
        omega
      · rw [if_neg c3, show i - s = (i - s - 1) + 1 by omega]
        show by_ B i + 0 = by_ (sl B (s + 1) p ++ X) (i - s - 1)
        rw [by_app (by omega), sl_by (by omega), show s + 1 + (i - s - 1) = i by omega]
        omega
    · by_cases c4 : i < p + X.length
      · have e1 := edB_mid (B := B.set s v) (f := p) (t := t) (pc := X) (ps := ps) (i := i - p) (by omega)
        have e2 := edB_mid (B := B) (f := s) (t := t) (pc := v :: (sl B (s + 1) p ++ X)) (ps := ps) (i := i - s) (by omega)
        rw [show p + (i - p) = i by omega] at e1
        rw [show s + (i - s) = i by omega] at e2
        rw [e1, e2, show i - s = (i - s - 1) + 1 by omega]
        show by_ X (i - p) = by_ (sl B (s + 1) p ++ X) (i - s - 1)
        rw [by_app2 (by omega), ls, show i - s - 1 - (p - (s + 1)) = i - p by omega]
      · have e1 := edB_hi (B := B.set s v) (f := p) (t := t) (pc := X) (ps := ps) (i := i - p - X.length)
        have e2 := edB_hi (B := B) (f := s) (t := t) (pc := v :: (sl B (s + 1) p ++ X)) (ps := ps) (i := i - p - X.length)
        rw [show p + X.length + (i - p - X.length) = i by omega] at e1
        rw [lc, show s + (p - s + X.length) + (i - p - X.length) = i by omega] at e2
        rw [e1, e2, by_set (by omega), if_neg (by omega)]
theorem edB_two {B : List Int} {v : Nat} {h l : Int} {ps : List Nat} (hv : v + 2 ≤ B.length) (hps : ∀ q ∈ ps, q < v) : edB B v (v + 2) [h, l] ps = (B.set v h).set (v + 1) l := by
  refine by_ext (by rw [edB_len, List.length_set, List.length_set]; simp only [List.length_cons, List.length_nil]; omega) (fun i hi => ?_)
  rw [edB_len] at hi
  simp only [List.length_cons, List.length_nil] at hi
  rw [by_set (by rw [List.length_set]; omega), by_set (by omega)]
  by_cases c : i < v
  · rw [edB_lo c, if_neg (show ¬ i = v + 1 by omega), if_neg (show ¬ i = v by omega)]
    simp only [List.length_cons, List.length_nil]
    split <;> omega
  · by_cases c0 : i = v
    · have e : by_ (edB B v (v + 2) [h, l] ps) v = by_ [h, l] 0 := edB_mid (B := B) (f := v) (t := v + 2) (pc := [h, l]) (ps := ps) (i := 0) (by simp)
      rw [if_neg (show ¬ i = v + 1 by omega), if_pos c0, c0, e]
      rfl
    · by_cases c1 : i = v + 1
      · have e := edB_mid (B := B) (f := v) (t := v + 2) (pc := [h, l]) (ps := ps) (i := 1) (by simp)
        rw [if_pos c1, c1, e]
        rfl
      · have e := edB_hi (B := B) (f := v) (t := v + 2) (pc := [h, l]) (ps := ps) (i := i - v - 2)
        simp only [List.length_cons, List.length_nil] at e
        rw [show v + (0 + 1 + 1) + (i - v - 2) = i by omega] at e
        rw [e, if_neg c1, if_neg c0]
section MOPER
variable {G : Nat × (Nat → Int32)} {d : Nat} {B : List Int} {N : List Nd} {P : List (List Int)} {Q : List Int} {op : Int}
/-- what all of them need -/
def opH (M : Mm_) (B : List Int) (N : List Nd) (P : List (List Int)) (Q : List Int) : Prop := mIn M 1408 B ∧ wkI M B ∧ mPth M 2 P ∧ mBuf M Q
theorem opH.kp {p : Nat → Nat → Prop} {M M' : Mm_} (h : opH M B N P Q) (f : Fp p M M') (hp : ∀ a j, p a j → gU a j ∧ ¬ pSp a j) : opH M' B N P Q := by
  obtain ⟨h1, h2, h3, h4⟩ := h
  have fx := f.x h1.1
  exact ⟨h1.kx fx (fun i hi q => (hp _ _ q).2 (Or.inr ⟨rfl, by omega⟩)), h2.kp f (fun a j q => (hp _ _ q).2), h3.kx fx (fun q => by have := (hp _ _ q).1; unfold gU at this; omega) (fun i _ _ q => by have := (hp _ _ q).1; unfold gU at this; omega), h4.kx fx (fun a j q => by have := (hp _ _ q).1; unfold gU at this; omega)⟩
theorem e_M_setIt {M : Mm_} {e c : Nat} {W : List Nat} (hA : Acc B 3 0 N) (hB : B.length ≤ 60) (h : opH M B N P Q) (hw : isWy N W c) (hwl : W.length + 1 = P.length) (he : e < N.length) (hc : rPa N e = (c : Int)) (hq : 0 < Q.length) (hy : wayI M N (c :: W)) : ∃ M', Ev G (d + 2) 144 [.ref 91, .int (zI (1408 + ((rSt N e : Nat) : Int)))] M (none, M') ∧ wkI M' (edB B (rSt N e) (rEn B N e) (by_ Q 0 :: (nmB B N e ++ Q.drop 1)) ((c :: W).map (rPl N))) ∧ Fp gU M M' := by
  obtain ⟨h1, h2, hP, hb⟩ := h
  have hW := h1.1
  have hpl := hP.1
  have hbl := hb.1
  have g := withn hA he hc
  have hcf := isWy_fact hA W c hw
  obtain ⟨s1, s2, s3, s4, s5⟩ := rSt_rEn (hA.2.2.1 e he) hc hcf.2.1
  have tk := hA.2.2.1 e he
  have z2 : (zI 2).toNatClampNeg = 2 := by decide +kernel
  have z1024 : (zI 1024).toNatClampNeg = 1024 := by decide +kernel
  have is := mI h1 (i := rSt N e) (by omega)
  have os := mOk h1 (i := rSt N e) (by omega)
  rw [s3] at is
  have e1 : zI (1408 + ((rSt N e : Nat) : Int)) + zI 1 = zI (((1408 : Nat) : Int) + ((rSt N e + 1 : Nat) : Int)) := by rw [zI_add, show 1408 + ((rSt N e : Nat) : Int) + 1 = ((1408 : Nat) : Int) + ((rSt N e + 1 : Nat) : Int) by omega]
  have cs : (zI (1408 + ((rSt N e : Nat) : Int))).toNatClampNeg = 1408 + rSt N e := by rw [zI_clamp ⟨by omega, by omega⟩]; omega
  have f0 : Fp pRw M (am_setI M 91 25 (zI 0)) := Fp.set (Or.inl ⟨rfl, rfl⟩)
  have f0x := f0.x hW
  obtain ⟨M1, m1, r1, f1⟩ := e_M_addOperand (G := G) (d := d) (w := 0) (X := []) (Or.inl rfl) f0x.1 (hb.kx f0x (fun a j q => by unfold pRw at q; omega)) hq ⟨setI_self, fun i hi => by cases hi⟩ (by rw [List.length_nil]; omega)
  rw [if_neg (by decide), List.nil_append] at r1
  have F1 := f0.tr f1
  have W1 := F1.WM hW
  have b1 : mBuf M1 Q := hb.kx (F1.x hW) (fun a j q => by unfold pRw at q; omega)
  have k1 : wkI M1 B := h2.kp F1 (fun a j q w => by unfold pRw at q; unfold pSp at w; omega)
  have f2 : Fp (fun a j => a = 92 ∧ j = 1408 + rSt N e) M1 (am_setI M1 92 (1408 + rSt N e) (zI (by_ Q 0))) := Fp.set ⟨rfl, rfl⟩
  have W2 := f2.WM W1
  have k2 : wkI (am_setI M1 92 (1408 + rSt N e) (zI (by_ Q 0))) (B.set (rSt N e) (by_ Q 0)) := by
    refine ⟨by rw [List.length_set, setI_cell (by decide)]; exact k1.1, fun i hi => ?_⟩
    rw [List.length_set] at hi
    rw [by_set (by omega)]
    by_cases ei : i = rSt N e
    · rw [if_pos ei, ei, setI_self]
    · rw [if_neg ei, setI_idx (by omega)]; exact k1.2 i hi
  have y2 : wayI (am_setI M1 92 (1408 + rSt N e) (zI (by_ Q 0))) N (c :: W) := fun i hi => by rw [setI_cell (by decide), F1.2.2 _ _ (fun q => by unfold pRw at q; omega)]; exact hy i hi
  obtain ⟨M3, m3, w3, f3⟩ := spl_way (G := G) (d := d + 1) (A := c :: W) (ls := none) (f := rPl N e) (t := rEn B N e) (X := Q.drop 1) W2 k2 (r1.kp f2 (fun a j q w => by unfold pRw at w; omega)) (by rw [List.length_drop]; omega) (by rw [List.length_set]; omega) (by omega) (by rw [List.length_set]; omega) (by rw [List.length_cons]; omega) y2 (fun w hw' => by
    rcases List.mem_cons.mp hw' with q | q
    · subst q; omega
    · have := way_pl hA W c hw w q; omega) (fun v hv => by cases hv) (way_nodup hA W c hw)
  have w3 : wkI M3 (edB (B.set (rSt N e) (by_ Q 0)) (rPl N e) (rEn B N e) (Q.drop 1) ((c :: W).map (rPl N))) := w3
  rw [edB_set (by omega) (by omega) (by omega) (fun p hp => by
    obtain ⟨w, hw', rfl⟩ := List.mem_map.mp hp
    rcases List.mem_cons.mp hw' with q | q
    · subst q; omega
    · have := way_pl hA W c hw w q; omega)] at w3
  refine ⟨M3, ev_of (q := mt_M_setIt) rfl (ev_M_setIt_0 ?_), w3, ((F1.up (fun a j q => pRw_V q)).tr (f2.up (fun a j q => by unfold gU; omega))).tr (f3.up (fun a j q => pSp_V q))⟩
  rw [e1]
  refine ⟨okO_W hW rfl, _, _, e_M_nameEnd_at h1 s4, ev_M_setIt_7 ?_⟩
  rw [show M.2.1 (91 + 1) (zI (1408 + ((rSt N e : Nat) : Int))).toNatClampNeg = _ from is]
  refine ⟨okF_W hW rfl, os, okO_W hW rfl, _, _, e_M_behind h1 ⟨tk.1, tk.2.1⟩ s5, ev_M_setIt_19 ⟨okP_W hW rfl rfl, okO_W (WM_setI hW) rfl, _, m1, ev_M_setIt_30 ?_⟩⟩
  rw [cs, z1024, show M1.2.1 (91 + 1) 1024 = zI (by_ Q 0) from b1.2.2.1 0 hq, z2, show (am_setI M1 (91 + 1) (1408 + rSt N e) (zI (by_ Q 0))).2.1 (91 + 4) 2 = zI (P.length : Int) from (by rw [setI_cell (by decide), F1.2.2 _ _ (fun q => by unfold pRw at q; omega)]; exact hP.2.1), show (P.length : Int) = (((c :: W).length : Nat) : Int) by rw [List.length_cons]; omega]
  exact ⟨okF_W W1 rfl, okF_W W1 rfl, okA_W W1 (show sg0[91 + 1]? = some (.inr (0, 1728)) from rfl) (zI_in (by omega) (by omega) (by omega)), okA_W W1 (show sg0[91 + 1]? = some (.inr (0, 1728)) from rfl) (zI_in (by omega) (by omega) (by omega)), okF_W W2 rfl, okA_W W2 (show sg0[91 + 4]? = some (.inr (0, 6)) from rfl) (zI_in (by omega) (by omega) (by omega)), okO_W W2 rfl, _, m3, ev_M_setIt_57 rfl⟩
theorem e_M_addIt {M : Mm_} {e c : Nat} {W : List Nat} (hA : Acc B 3 0 N) (h : opH M B N P Q) (hw : isWy N W c) (he : e < N.length) (hc : rPa N e = (c : Int)) (hq3 : Q.length = 3) : ∃ x M', Ev G (d + 1) 145 [.ref 91, .int (zI (1408 + ((rSt N e : Nat) : Int)))] M (some (.int x), M') ∧ Fp gU M M' ∧ ((rTy N e = 1 ∧ -32768 ≤ sgn B (rPl N e) + sgn Q 1 ∧ sgn B (rPl N e) + sgn Q 1 ≤ 32767 → x = zI 1 ∧ wkI M' (edB B (rPl N e) (rEn B N e) [hi8 (sgn B (rPl N e) + sgn Q 1), lo8 (sgn B (rPl N e) + sgn Q 1)] ((c :: W).map (rPl N)))) ∧ (¬ (rTy N e = 1 ∧ -32768 ≤ sgn B (rPl N e) + sgn Q 1 ∧ sgn B (rPl N e) + sgn Q 1 ≤ 32767) → x = zI 0)) := by
  obtain ⟨h1, h2, hP, hb⟩ := h
  have hW := h1.1
  have hbB := h1.2.2.2
  have g := withn hA he hc
  have hcf := isWy_fact hA W c hw
  obtain ⟨s1, s2, s3, s4, s5⟩ := rSt_rEn (hA.2.2.1 e he) hc hcf.2.1
  have tk := hA.2.2.1 e he
  have tk1 := tk.1
  have tk2 := tk.2.1
  have is := mI h1 (i := rSt N e) (by omega)
  have os := mOk h1 (i := rSt N e) (by omega)
  rw [s3] at is
  have e1 : zI (1408 + ((rSt N e : Nat) : Int)) + zI 1 = zI (((1408 : Nat) : Int) + ((rSt N e + 1 : Nat) : Int)) := by rw [zI_add, show 1408 + ((rSt N e : Nat) : Int) + 1 = ((1408 : Nat) : Int) + ((rSt N e + 1 : Nat) : Int) by omega]
  have pre : ∀ r, (if zI (rTy N e) = zI 1 then (am_okO M 91 8 = true ∧ (∃ x' M', Ev G d 105 [.ref 91, .int (zI (((1408 : Nat) : Int) + ((rPl N e : Nat) : Int)))] M (some (.int x'), M') ∧ EvC G (d + 1) m_M_addIt 25 [some (.ref 91), some (.int (zI (1408 + ((rSt N e : Nat) : Int)))), some (.int (zI (((1408 : Nat) : Int) + ((rPl N e : Nat) : Int)))), none] [.int x'] M' r)) else r = ((some (.int (zI 0)), M) : Out_)) → Ev G (d + 1) 145 [.ref 91, .int (zI (1408 + ((rSt N e : Nat) : Int)))] M r := fun r hr => by
    refine ev_of (q := mt_M_addIt) rfl (ev_M_addIt_0 ?_)
    rw [e1]
    refine ⟨okO_W hW rfl, _, _, e_M_nameEnd_at h1 s4, ev_M_addIt_7 ?_⟩
    rw [show M.2.1 (91 + 1) (zI (1408 + ((rSt N e : Nat) : Int))).toNatClampNeg = _ from is]
    exact ⟨okF_W hW rfl, os, hr⟩
  by_cases t1 : rTy N e = 1
  · have n1 := nd_1 hA he t1
    have en : rEn B N e = rPl N e + 2 := by unfold rEn bh; rw [if_pos t1]
    have sb := sgn_rg h1.2.1 (p := rPl N e) (by omega)
    have sq := sgn_rg hb.2.2.2 (p := 1) (by omega)
    have r1 : -65536 ≤ sgn B (rPl N e) + sgn Q 1 ∧ sgn B (rPl N e) + sgn Q 1 ≤ 65536 := ⟨by omega, by omega⟩
    have pre2 : ∀ r, (∃ x', Ev G d 87 [.int (zI (sgn B (rPl N e) + sgn Q 1)), .int (zI (-32768)), .int (zI 32767)] M (some (.int x'), M) ∧ EvC G (d + 1) m_M_addIt 44 [some (.ref 91), some (.int (zI (1408 + ((rSt N e : Nat) : Int)))), some (.int (zI (((1408 : Nat) : Int) + ((rPl N e : Nat) : Int)))), some (.int (zI (sgn B (rPl N e) + sgn Q 1)))] [.int x'] M r) → Ev G (d + 1) 145 [.ref 91, .int (zI (1408 + ((rSt N e : Nat) : Int)))] M r := fun r hr => by
      obtain ⟨x', w1, w2⟩ := hr
      refine pre r ?_
      rw [if_pos (by rw [t1])]
      refine ⟨okO_W hW rfl, _, _, e_M_value h1 (by omega), ev_M_addIt_25 ⟨okO_W hW rfl, _, _, e_M_value (o := 1024) (p := 1) (hb.in_ hW) (by omega), ev_M_addIt_32 ?_⟩⟩
      rw [zI_add]
      exact ⟨x', M, w1, w2⟩
    by_cases cr : -32768 ≤ sgn B (rPl N e) + sgn Q 1 ∧ sgn B (rPl N e) + sgn Q 1 ≤ 32767
    · have c1 : (zI (((1408 : Nat) : Int) + ((rPl N e : Nat) : Int))).toNatClampNeg = 1408 + rPl N e := by rw [zI_clamp ⟨by omega, by omega⟩]; omega
      have e2 : zI (((1408 : Nat) : Int) + ((rPl N e : Nat) : Int)) + zI 1 = zI (((1408 : Nat) : Int) + ((rPl N e + 1 : Nat) : Int)) := by rw [zI_add, show ((1408 : Nat) : Int) + ((rPl N e : Nat) : Int) + 1 = ((1408 : Nat) : Int) + ((rPl N e + 1 : Nat) : Int) by omega]
      have c2 : (zI (((1408 : Nat) : Int) + ((rPl N e + 1 : Nat) : Int))).toNatClampNeg = 1408 + (rPl N e + 1) := by rw [zI_clamp ⟨by omega, by omega⟩]; omega
      have F : Fp gU M (am_setI (am_setI M 92 (1408 + rPl N e) (zI (hi8 (sgn B (rPl N e) + sgn Q 1)))) 92 (1408 + (rPl N e + 1)) (zI (lo8 (sgn B (rPl N e) + sgn Q 1)))) := Fp.tr (Fp.set (show gU 92 (1408 + rPl N e) by unfold gU; omega)) (Fp.set (show gU 92 (1408 + (rPl N e + 1)) by unfold gU; omega))
      refine ⟨zI 1, _, pre2 _ ⟨_, e_M_in_t ⟨by omega, by omega⟩ ⟨by omega, by omega⟩ ⟨by omega, by omega⟩ cr, ev_M_addIt_44 ?_⟩, F, fun _ => ⟨rfl, ?_⟩, fun q => absurd ⟨t1, cr⟩ q⟩
      · rw [zI_0, if_neg z10, hi8_z r1, lo8_z r1, e2, c1, c2]
        exact ⟨okF_W hW rfl, mOk h1 (by omega), okF_W (WM_setI hW) rfl, okA_W (WM_setI hW) (show sg0[91 + 1]? = some (.inr (0, 1728)) from rfl) (zI_in (by omega) (by omega) (by omega)), rfl⟩
      · rw [en, edB_two (by omega) (fun p hp => by
          obtain ⟨w, hw', rfl⟩ := List.mem_map.mp hp
          rcases List.mem_cons.mp hw' with q | q
          · subst q; omega
          · have := way_pl hA W c hw w q; omega)]
        refine ⟨by rw [List.length_set, List.length_set, setI_cell (by decide), setI_cell (by decide)]; exact h2.1, fun i hi => ?_⟩
        rw [List.length_set, List.length_set] at hi
        rw [by_set (by rw [List.length_set]; omega), by_set (by omega)]
        by_cases i1 : i = rPl N e + 1
        · rw [if_pos i1, i1, setI_self]
        · rw [if_neg i1, setI_idx (by omega)]
          by_cases i0 : i = rPl N e
          · rw [if_pos i0, i0, setI_self]
          · rw [if_neg i0, setI_idx (by omega)]; exact h2.2 i hi
    · refine ⟨zI 0, M, pre2 _ ⟨_, e_M_in_f ⟨by omega, by omega⟩ ⟨by omega, by omega⟩ ⟨by omega, by omega⟩ cr, ev_M_addIt_44 ?_⟩, Fp.rf, fun q => absurd q.2 cr, fun _ => rfl⟩
      rw [zI_0, if_pos rfl]
  · refine ⟨zI 0, M, pre _ ?_, Fp.rf, fun q => absurd q.1 t1, fun _ => rfl⟩
    rw [if_neg (zI_ne ⟨by omega, by omega⟩ ⟨by omega, by omega⟩ t1)]
/-- how operate ends -/
def opO (M' : Mm_) (B : List Int) (x : Int32) : Option (Option (List Int)) → Prop
  | none => x = zI 0
  | some none => x = zI 1 ∧ wkI M' B
  | some (some R) => x = zI 1 ∧ wkI M' R
theorem op_72 {M : Mm_} {W : List Nat} {c : Nat} {e' : Int} {x3 : Int32} (hA : Acc B 3 0 N) (hB : B.length ≤ 60) (h : opH M B N P Q) (hop : 0 ≤ op ∧ op ≤ 4) (hq : op = 1 ∨ (okQ Q ∧ (isC (by_ Q 0) → 0 ≤ by_ Q 1))) (h2 : op = 2 → by_ Q 0 = 1) (hw : isWy N W c) (hwl : W.length < P.length) (he : e' = -1 ∨ ∃ e : Nat, e' = (e : Int) ∧ e < N.length ∧ rPa N e = (c : Int) ∧ W.length + 1 = P.length) (hy : wayI M N (c :: W)) :
    ∃ x M', (∀ u5 u6 : Option Value, EvC G (d + 4) m_M_operate 72 [some (.ref 91), some (.int (zI op)), some (.int (zI ((W.length + 1 : Nat) : Int))), some (.int x3), some (.int (zI (if e' = -1 then -1 else 1408 + ((rSt N e'.toNat : Nat) : Int)))), u5, u6] [] M (some (.int x), M')) ∧ opO M' B x (opF B N P Q op W c e') ∧ Fp gU M M' := by
  obtain ⟨h1, hk, hP, hb⟩ := h
  have hW := h1.1
  have hpl := hP.1
  have hbl := hb.1
  have ro : rg op := ⟨by omega, by omega⟩
  have ne : ∀ v : Int, rg v → ¬ op = v → ¬ zI op = zI v := fun v hv hn => zI_ne ro hv hn
  have hcf := isWy_fact hA W c hw
  unfold opF
  rw [if_neg (show ¬ (op = 2 ∧ ¬ by_ Q 0 = 1) from fun q => q.2 (h2 q.1))]
  rcases he with rfl | ⟨e, rfl, he, hc, hfull⟩
  · rw [if_pos rfl, if_pos rfl]
    by_cases o14 : op = 1 ∨ op = 4
    · rw [if_pos o14]
      refine ⟨zI 1, M, fun u5 u6 => ev_M_operate_72 ?_, ⟨rfl, hk⟩, Fp.rf⟩
      rw [zI_0, if_pos ((zI_lt ⟨by omega, by omega⟩ ⟨by omega, by omega⟩).mpr (by omega))]
      by_cases o1 : op = 1
      · rw [if_pos (by rw [o1])]; exact ev_M_operate_95 rfl
      · rw [if_neg (ne 1 ⟨by omega, by omega⟩ o1), if_pos (by rw [show op = 4 by omega])]; exact ev_M_operate_95 rfl
    · rw [if_neg o14]
      have hq' := (hq.resolve_left (fun q => o14 (Or.inl q))).1
      obtain ⟨M1, m1, w1, f1⟩ := e_M_arrive (G := G) (d := d + 1) (op := op) hA hB h1 hk hP hb (by_lt (by have := hq'.2.1; omega)) (by omega) hw hwl hy
      refine ⟨zI 1, M1, fun u5 u6 => ev_M_operate_72 ?_, ⟨rfl, w1⟩, f1⟩
      rw [zI_0, if_pos ((zI_lt ⟨by omega, by omega⟩ ⟨by omega, by omega⟩).mpr (by omega)), if_neg (ne 1 ⟨by omega, by omega⟩ (fun q => o14 (Or.inl q))), if_neg (ne 4 ⟨by omega, by omega⟩ (fun q => o14 (Or.inr q))), zI_sub, show ((W.length + 1 : Nat) : Int) - 1 = (W.length : Int) by omega]
      exact ⟨okO_W hW rfl, _, m1, ev_M_operate_95 rfl⟩
  · have ene : ¬ (e : Int) = -1 := by omega
    rw [if_neg ene, if_neg ene, Int.toNat_natCast]
    have g := withn hA he hc
    have hNl := hA.2.1
    obtain ⟨s1, s2, s3, s4, s5⟩ := rSt_rEn (hA.2.2.1 e he) hc hcf.2.1
    have tk := hA.2.2.1 e he
    have tk1 := tk.1
    have tk2 := tk.2.1
    have is := mI h1 (i := rSt N e) (by omega)
    have os := mOk h1 (i := rSt N e) (by omega)
    rw [s3] at is
    have e1 : zI (1408 + ((rSt N e : Nat) : Int)) + zI 1 = zI (((1408 : Nat) : Int) + ((rSt N e + 1 : Nat) : Int)) := by rw [zI_add, show 1408 + ((rSt N e : Nat) : Int) + 1 = ((1408 : Nat) : Int) + ((rSt N e + 1 : Nat) : Int) by omega]
    have pre : ∀ r, (∀ u6 : Option Value, EvC G (d + 4) m_M_operate 105 [some (.ref 91), some (.int (zI op)), some (.int (zI ((W.length + 1 : Nat) : Int))), some (.int x3), some (.int (zI (1408 + ((rSt N e : Nat) : Int)))), none, u6] [.int (zI (((1408 : Nat) : Int) + ((rPl N e : Nat) : Int)))] M r) → True := fun _ _ => trivial
    have pre : ∀ (u5 u6 : Option Value) r, EvC G (d + 4) m_M_operate 105 [some (.ref 91), some (.int (zI op)), some (.int (zI ((W.length + 1 : Nat) : Int))), some (.int x3), some (.int (zI (1408 + ((rSt N e : Nat) : Int)))), u5, u6] [.int (zI (((1408 : Nat) : Int) + ((rPl N e : Nat) : Int)))] M r → EvC G (d + 4) m_M_operate 72 [some (.ref 91), some (.int (zI op)), some (.int (zI ((W.length + 1 : Nat) : Int))), some (.int x3), some (.int (zI (1408 + ((rSt N e : Nat) : Int)))), u5, u6] [] M r := fun u5 u6 r hr => by
      refine ev_M_operate_72 ?_
      rw [zI_0, if_neg (fun q => by rw [zI_lt ⟨by omega, by omega⟩ ⟨by omega, by omega⟩] at q; omega), e1]
      exact ⟨okO_W hW rfl, _, _, e_M_nameEnd_at h1 s4, hr⟩
    have lenW : (((W.length + 1 : Nat)) : Int) = (((c :: W).length : Nat) : Int) := by rw [List.length_cons]
    by_cases o0 : op = 0
    · rw [if_pos o0]
      have hq' := (hq.resolve_left (by omega)).1
      obtain ⟨M1, m1, w1, f1⟩ := e_M_setIt (G := G) (d := d + 1) hA hB ⟨h1, hk, hP, hb⟩ hw hfull he hc (by_lt (by have := hq'.2.1; omega)) hy
      refine ⟨zI 1, M1, fun u5 u6 => pre u5 u6 _ (ev_M_operate_105 ?_), ⟨rfl, w1⟩, f1⟩
      rw [zI_0, if_pos (by rw [o0])]
      refine ⟨okO_W hW rfl, _, m1, ev_M_operate_117 ?_⟩
      rw [if_neg (ne 2 ⟨by omega, by omega⟩ (by omega)), if_neg (ne 1 ⟨by omega, by omega⟩ (by omega))]
      refine ev_M_operate_164 ?_
      rw [if_pos ((zI_lt ro ⟨by omega, by omega⟩).mpr (by omega))]
    · rw [if_neg o0]
      have pre2 : ∀ (u5 u6 : Option Value) r, (∀ u6 : Option Value, EvC G (d + 4) m_M_operate 117 [some (.ref 91), some (.int (zI op)), some (.int (zI ((W.length + 1 : Nat) : Int))), some (.int x3), some (.int (zI (1408 + ((rSt N e : Nat) : Int)))), some (.int (zI (((1408 : Nat) : Int) + ((rPl N e : Nat) : Int)))), u6] [] M r) → EvC G (d + 4) m_M_operate 72 [some (.ref 91), some (.int (zI op)), some (.int (zI ((W.length + 1 : Nat) : Int))), some (.int x3), some (.int (zI (1408 + ((rSt N e : Nat) : Int)))), u5, u6] [] M r := fun u5 u6 r hr => pre u5 u6 r (ev_M_operate_105 (by
        rw [zI_0, if_neg (ne 0 ⟨by omega, by omega⟩ o0)]
        exact hr u6))
      by_cases o1 : op = 1
      · rw [if_pos o1]
        have f0 : Fp pRw M (am_setI M 91 25 (zI 0)) := Fp.set (Or.inl ⟨rfl, rfl⟩)
        have f0x := f0.x hW
        have h10 : mIn (am_setI M 91 25 (zI 0)) 1408 B := h1.kx f0x (fun i hi q => by unfold pRw at q; omega)
        have is0 := mI h10 (i := rSt N e) (by omega)
        have os0 := mOk h10 (i := rSt N e) (by omega)
        rw [s3] at is0
        have y0 : wayI (am_setI M 91 25 (zI 0)) N (c :: W) := fun i hi => by rw [setI_cell (by decide)]; exact hy i hi
        obtain ⟨M1, m1, w1, f1⟩ := spl_way (G := G) (d := d + 3) (A := c :: W) (ls := none) (f := rSt N e) (t := rEn B N e) (X := []) f0x.1 (hk.kp f0 (fun a j q w => by unfold pRw at q; unfold pSp at w; omega)) ⟨setI_self, fun i hi => by cases hi⟩ (by simp) (by omega) (by omega) (by omega) (by rw [List.length_cons]; omega) y0 (fun w hw' => by
          rcases List.mem_cons.mp hw' with q | q
          · subst q; omega
          · have := way_pl hA W c hw w q; omega) (fun v hv => by cases hv) (way_nodup hA W c hw)
        refine ⟨zI 1, M1, fun u5 u6 => pre2 u5 u6 _ (fun u6 => ev_M_operate_117 ?_), ⟨rfl, w1⟩, (f0.up (fun a j q => pRw_V q)).tr (f1.up (fun a j q => pSp_V q))⟩
        rw [if_neg (ne 2 ⟨by omega, by omega⟩ (by omega)), if_pos (by rw [o1]), show (am_setI M 91 25 (zI 0)).2.1 (91 + 1) (zI (1408 + ((rSt N e : Nat) : Int))).toNatClampNeg = _ from is0]
        refine ⟨okP_W hW rfl rfl, okF_W (WM_setI hW) rfl, os0, okO_W (WM_setI hW) rfl, _, _, e_M_behind h10 ⟨tk1, tk2⟩ s5, ev_M_operate_152 ?_⟩
        rw [lenW]
        refine ⟨okO_W (WM_setI hW) rfl, _, m1, ev_M_operate_164 ?_⟩
        rw [if_pos ((zI_lt ro ⟨by omega, by omega⟩).mpr (by omega))]
      · rw [if_neg o1]
        have hq' := hq.resolve_left o1
        have q1 := hq'.1.2.1
        have hq0 : 0 < Q.length := by_lt (by omega)
        by_cases o2 : op = 2
        · rw [if_pos o2]
          obtain ⟨x, M1, m1, f1, a1, a2⟩ := e_M_addIt (G := G) (d := d + 2) (c := c) (W := W) hA ⟨h1, hk, hP, hb⟩ hw he hc (okQ_1 hq'.1 (h2 o2))
          have st : am_bit x = true → ∀ u5 u6 : Option Value, EvC G (d + 4) m_M_operate 72 [some (.ref 91), some (.int (zI op)), some (.int (zI ((W.length + 1 : Nat) : Int))), some (.int x3), some (.int (zI (1408 + ((rSt N e : Nat) : Int)))), u5, u6] [] M (some (.int x), M1) := fun hbit u5 u6 => pre2 u5 u6 _ (fun u6 => ev_M_operate_117 (by
            rw [if_pos (by rw [o2])]
            exact ⟨okO_W hW rfl, _, _, m1, ev_M_operate_128 ⟨hbit, rfl⟩⟩))
          by_cases cr : rTy N e = 1 ∧ -32768 ≤ sgn B (rPl N e) + sgn Q 1 ∧ sgn B (rPl N e) + sgn Q 1 ≤ 32767
          · rw [if_pos cr]
            obtain ⟨b1, b2⟩ := a1 cr
            exact ⟨x, M1, st (by rw [b1]; decide +kernel), ⟨b1, b2⟩, f1⟩
          · rw [if_neg cr]
            exact ⟨x, M1, st (by rw [a2 cr]; decide +kernel), a2 cr, f1⟩
        · rw [if_neg o2]
          have pre3 : ∀ (u5 u6 : Option Value) r, (∀ u6 : Option Value, (if zI (rTy N e) = zI 4 then (if zI op = zI 4 then (am_okO M 91 8 = true ∧ (∃ M', Ev G (d + 3) 146 [.ref 91, .int (zI (((1408 : Nat) : Int) + ((rPl N e : Nat) : Int)))] M (none, M') ∧ EvC G (d + 4) m_M_operate 195 [some (.ref 91), some (.int (zI op)), some (.int (zI ((W.length + 1 : Nat) : Int))), some (.int x3), some (.int (zI (1408 + ((rSt N e : Nat) : Int)))), some (.int (zI (((1408 : Nat) : Int) + ((rPl N e : Nat) : Int)))), u6] [] M' r)) else (am_okP M 91 8 25 0 = true ∧ (am_okO (am_setI M 91 25 (zI 0)) 91 8 = true ∧ (∃ M', Ev G (d + 3) 142 [.ref 91, .int (zI 1)] (am_setI M 91 25 (zI 0)) (none, M') ∧ EvC G (d + 4) m_M_operate 207 [some (.ref 91), some (.int (zI op)), some (.int (zI ((W.length + 1 : Nat) : Int))), some (.int x3), some (.int (zI (1408 + ((rSt N e : Nat) : Int)))), some (.int (zI (((1408 : Nat) : Int) + ((rPl N e : Nat) : Int)))), u6] [] M' r)))) else r = ((some (.int (zI 0)), M) : Out_))) → EvC G (d + 4) m_M_operate 72 [some (.ref 91), some (.int (zI op)), some (.int (zI ((W.length + 1 : Nat) : Int))), some (.int x3), some (.int (zI (1408 + ((rSt N e : Nat) : Int)))), u5, u6] [] M r := fun u5 u6 r hr => pre2 u5 u6 r (fun u6 => ev_M_operate_117 (by
            rw [if_neg (ne 2 ⟨by omega, by omega⟩ o2), if_neg (ne 1 ⟨by omega, by omega⟩ o1)]
            refine ev_M_operate_164 ?_
            rw [if_neg (fun q => by rw [zI_lt ro ⟨by omega, by omega⟩] at q; omega), show M.2.1 (91 + 1) (zI (1408 + ((rSt N e : Nat) : Int))).toNatClampNeg = _ from is]
            exact ⟨okF_W hW rfl, os, hr u6⟩))
          by_cases t4 : rTy N e = 4
          · rw [if_neg (fun q => q t4)]
            have lt := len_T hA he (Or.inr t4)
            by_cases o3 : op = 3
            · rw [if_pos o3]
              have f0 : Fp pRw M (am_setI M 91 25 (zI 0)) := Fp.set (Or.inl ⟨rfl, rfl⟩)
              have f0x := f0.x hW
              obtain ⟨M1, m1, r1, f1⟩ := e_M_addOperand (G := G) (d := d + 2) (w := 1) (X := []) (Or.inr rfl) f0x.1 (hb.kx f0x (fun a j q => by unfold pRw at q; omega)) hq0 ⟨setI_self, fun i hi => by cases hi⟩ (by rw [List.length_nil]; omega)
              rw [if_pos rfl, List.nil_append] at r1
              have F1 := f0.tr f1
              have F1x := F1.x hW
              have W1 := F1x.1
              have h11 : mIn M1 1408 B := h1.kx F1x (fun i hi q => by unfold pRw at q; omega)
              have iv := mI h11 (i := rPl N e) (by omega)
              have ov := mOk h11 (i := rPl N e) (by omega)
              have y1 : wayI M1 N (c :: W) := fun i hi => by rw [F1.2.2 _ _ (fun q => by unfold pRw at q; omega)]; exact hy i hi
              have nde : rPl N e ∉ (c :: W).map (rPl N) := fun q => by
                obtain ⟨v, hv, ev⟩ := List.mem_map.mp q
                rcases List.mem_cons.mp hv with r | r
                · subst r; omega
                · have := way_pl hA W c hw v r; omega
              obtain ⟨M2, m2, w2, f2⟩ := spl_way (G := G) (d := d + 3) (A := c :: W) (ls := some (rPl N e)) (f := rEn B N e - 1) (t := rEn B N e - 1) (X := Q) W1 (hk.kp F1 (fun a j q w => by unfold pRw at q; unfold pSp at w; omega)) r1 (by omega) (by omega) (Nat.le_refl _) (by omega) (by rw [List.length_cons]; omega) y1 (fun w hw' => by
                rcases List.mem_cons.mp hw' with q | q
                · subst q; omega
                · have := way_pl hA W c hw w q; omega) (fun v hv => by
                have : rPl N e = v := Option.some.inj hv
                subst this
                exact ⟨by omega, nde⟩) (way_nodup hA W c hw)
              refine ⟨zI 1, M2, fun u5 u6 => pre3 u5 u6 _ (fun u6 => ?_), ⟨rfl, w2⟩, (F1.up (fun a j q => pRw_V q)).tr (f2.up (fun a j q => pSp_V q))⟩
              have ee : zI (((1408 : Nat) : Int) + ((rPl N e : Nat) : Int)) + zI (by_ B (rPl N e)) - zI 1 = zI (1408 + ((rEn B N e - 1 : Nat) : Int)) := by
                rw [zI_add, zI_sub, lt.1, show ((1408 : Nat) : Int) + ((rPl N e : Nat) : Int) + ((rEn B N e : Int) - (rPl N e : Int)) - 1 = 1408 + ((rEn B N e - 1 : Nat) : Int) by omega]
              rw [if_pos (by rw [t4]), if_neg (ne 4 ⟨by omega, by omega⟩ (by omega))]
              refine ⟨okP_W hW rfl rfl, okO_W (WM_setI hW) rfl, _, m1, ev_M_operate_207 ?_⟩
              rw [iv, ee, lenW]
              exact ⟨okF_W W1 rfl, ov, okO_W W1 rfl, _, m2, ev_M_operate_232 rfl⟩
            · rw [if_neg o3]
              obtain ⟨M1, m1, w1, f1⟩ := e_M_pull (G := G) (d := d + 1) hA hB h1 hk hw hfull he hc t4 hq'.1 hq'.2 hb hP hy
              refine ⟨zI 1, M1, fun u5 u6 => pre3 u5 u6 _ (fun u6 => ?_), ⟨rfl, w1⟩, f1⟩
              rw [if_pos (by rw [t4]), if_pos (by rw [show op = 4 by omega])]
              exact ⟨okO_W hW rfl, _, m1, ev_M_operate_195 rfl⟩
          · rw [if_pos t4]
            refine ⟨zI 0, M, fun u5 u6 => pre3 u5 u6 _ (fun u6 => ?_), rfl, Fp.rf⟩
            rw [if_neg (zI_ne ⟨by omega, by omega⟩ ⟨by omega, by omega⟩ t4)]
theorem e_M_operate {M : Mm_} (hrd : rdD B = .inr N) (hB : B.length ≤ 60) (h : opH M B N P Q) (hp : 0 < P.length) (hop : 0 ≤ op ∧ op ≤ 4) (hq : op = 1 ∨ (okQ Q ∧ (isC (by_ Q 0) → 0 ≤ by_ Q 1))) : ∃ x M', Ev G (d + 4) 136 [.ref 91, .int (zI op)] M (some (.int x), M') ∧ opO M' B x (opE B P Q op) ∧ Fp gU M M' := by
  have hA := rdD_acc hrd
  have hn := nds_of hrd
  have h' := h
  obtain ⟨h1, hk, hP, hb⟩ := h
  have hW := h1.1
  have hpl := hP.1
  have hNl := hA.2.1
  have ro : rg op := ⟨by omega, by omega⟩
  have z2 : (zI 2).toNatClampNeg = 2 := by decide +kernel
  have z1024 : (zI 1024).toNatClampNeg = 1024 := by decide +kernel
  obtain ⟨M1, f1, g1⟩ := e_M_go (G := G) (d := d) hA h1 hP hp
  have F1 : Fp gU M M1 := f1.up (fun a j q => by unfold p106 at q; unfold gU; omega)
  have W1 := F1.WM hW
  have H1 : opH M1 B N P Q := h'.kp f1 (fun a j q => by unfold p106 at q; unfold gU pSp; omega)
  unfold opE
  rw [hn]
  cases hk' : wkR N (pks P) 0 [] with
  | none =>
    rw [hk'] at g1
    refine ⟨zI 0, M1, ev_of (q := mt_M_operate) rfl (ev_M_operate_0 ⟨okO_W hW rfl, _, _, g1, ev_M_operate_4 ?_⟩), rfl, F1⟩
    rw [zI_0, if_pos rfl]
  | some z =>
    obtain ⟨W, c, e⟩ := z
    rw [hk'] at g1
    obtain ⟨y1, g1⟩ := g1
    have y1 : wayI M1 N (c :: W) := y1
    have g1 : Ev G (d + 3) 137 [.ref 91] M (some (.int (zI ((W.length + 1 : Nat) : Int))), M1) := g1
    have hw0 : isWy N [] 0 := rfl
    obtain ⟨k1, k2, k3, k4⟩ := wkR_fact _ _ _ _ _ _ hk' hw0
    have k3 := k3 (fun q => by have := congrArg List.length q; rw [pks_len, List.length_nil] at this; omega)
    rw [pks_len, List.length_nil, Nat.zero_add] at k3
    rw [pks_len, List.length_nil, Nat.zero_add] at k4
    have hcf := isWy_fact hA W c k1
    have t1 : M1.2.1 (91 + 4) 2 = zI (P.length : Int) := H1.2.2.1.2.1
    have a4 : am_okA M1 (91 + 4) 0 (zI 2) = true := okA_W W1 (show sg0[91 + 4]? = some (.inr (0, 6)) from rfl) (zI_in (by omega) (by omega) (by omega))
    have er : e = -1 ∨ (0 ≤ e ∧ e < (N.length : Int)) := by
      rcases k4 with q | ⟨e', q1, q2, -⟩
      · exact Or.inl q
      · exact Or.inr ⟨by omega, by omega⟩
    -- to 51
    have to51 : ∃ x3 : Int32, ∀ r, (∀ u4 u5 u6 : Option Value, EvC G (d + 4) m_M_operate 51 [some (.ref 91), some (.int (zI op)), some (.int (zI ((W.length + 1 : Nat) : Int))), some (.int x3), u4, u5, u6] [.int (zI (if e = -1 then -1 else 1408 + ((rSt N e.toNat : Nat) : Int)))] M1 r) → Ev G (d + 4) 136 [.ref 91, .int (zI op)] M r := by
      by_cases full : W.length + 1 = P.length
      · refine ⟨zI 1, fun r hr => ev_of (q := mt_M_operate) rfl (ev_M_operate_0 ⟨okO_W hW rfl, _, _, g1, ev_M_operate_4 ?_⟩)⟩
        have es := e_M_seek (G := G) (d := d + 1) (i := W.length) H1.1 hA H1.2.2.1 (by omega) (by omega) hcf.1 hcf.2.1
        have el := wkR_last _ _ _ _ _ _ hk' (by rw [pks_len, List.length_nil]; omega)
        rw [pks_len, show P.length - 1 = W.length by omega] at el
        rw [skF_V hA hcf.2.1, ← el] at es
        have wl : M1.2.1 (91 + 15) W.length = zI (1408 + ((rPl N c : Nat) : Int)) := by have := y1 W.length (by rw [List.length_cons]; omega); rw [rev_last] at this; exact this
        rw [zI_0, if_neg (zI_ne ⟨by omega, by omega⟩ ⟨by omega, by omega⟩ (by omega)), z2, t1, if_pos (by rw [full])]
        refine ⟨okF_W W1 rfl, a4, ev_M_operate_26 ?_⟩
        rw [zI_0, if_neg z10, zI_sub, show ((W.length + 1 : Nat) : Int) - 1 = (W.length : Int) by omega, zI_nat (show W.length < 2147483648 by omega), wl]
        exact ⟨okF_W W1 rfl, okA_z W1 (show sg0[91 + 15]? = some (.inr (0, 5)) from rfl) (by omega) (by omega), okO_W W1 rfl, _, _, es, ev_M_operate_47 (hr _ _ _)⟩
      · have e1 : e = -1 := by
          rcases k4 with q | ⟨e', q1, q2, q3, q4⟩
          · exact q
          · omega
        refine ⟨zI 0, fun r hr => ev_of (q := mt_M_operate) rfl (ev_M_operate_0 ⟨okO_W hW rfl, _, _, g1, ev_M_operate_4 ?_⟩)⟩
        rw [zI_0, if_neg (zI_ne ⟨by omega, by omega⟩ ⟨by omega, by omega⟩ (by omega)), z2, t1, if_neg (zI_ne ⟨by omega, by omega⟩ ⟨by omega, by omega⟩ (by omega))]
        refine ⟨okF_W W1 rfl, a4, ev_M_operate_26 ?_⟩
        rw [zI_0, if_pos rfl]
        have := hr none none none
        rw [if_pos e1] at this
        exact this
    obtain ⟨x3, to51⟩ := to51
    show ∃ x M', Ev G (d + 4) 136 [.ref 91, .int (zI op)] M (some (.int x), M') ∧ opO M' B x (opF B N P Q op W c e) ∧ Fp gU M M'
    by_cases c2 : op = 2 ∧ ¬ by_ Q 0 = 1
    · have eo : opF B N P Q op W c e = none := by unfold opF; rw [if_pos c2]
      rw [eo]
      have hq' := (hq.resolve_left (by omega)).1
      have q1 := hq'.2.1
      have q2 := hq'.2.2.1
      have hq0 : 0 < Q.length := by_lt (by omega)
      refine ⟨zI 0, M1, to51 _ (fun u4 u5 u6 => ev_M_operate_51 ?_), rfl, F1⟩
      rw [if_pos (by rw [c2.1]), z1024, show M1.2.1 (91 + 1) 1024 = zI (by_ Q 0) from H1.2.2.2.2.2.1 0 hq0, if_neg (zI_ne ⟨by omega, by omega⟩ ⟨by omega, by omega⟩ c2.2)]
      exact ⟨okF_W W1 rfl, okA_W W1 (show sg0[91 + 1]? = some (.inr (0, 1728)) from rfl) (zI_in (by omega) (by omega) (by omega)), rfl⟩
    · have h2 : op = 2 → by_ Q 0 = 1 := fun q => Classical.byContradiction (fun w => c2 ⟨q, w⟩)
      obtain ⟨x, M2, m2, o2, f2⟩ := op_72 (G := G) (d := d) (x3 := x3) hA hB H1 hop hq h2 k1 (by omega) (by
        rcases k4 with q | ⟨e', q1, q2, q3, q4⟩
        · exact Or.inl q
        · exact Or.inr ⟨e', q1, q2, q3, q4⟩) y1
      refine ⟨x, M2, to51 _ (fun u4 u5 u6 => ev_M_operate_51 ?_), o2, F1.tr f2⟩
      by_cases o2' : op = 2
      · have hq' := (hq.resolve_left (by omega)).1
        have hq0 : 0 < Q.length := by_lt (by have := hq'.2.1; omega)
        rw [if_pos (by rw [o2']), z1024, show M1.2.1 (91 + 1) 1024 = zI (by_ Q 0) from H1.2.2.2.2.2.1 0 hq0, if_pos (by rw [h2 o2'])]
        exact ⟨okF_W W1 rfl, okA_W W1 (show sg0[91 + 1]? = some (.inr (0, 1728)) from rfl) (zI_in (by omega) (by omega) (by omega)), m2 _ _⟩
      · rw [if_neg (zI_ne ro ⟨by omega, by omega⟩ o2')]
        exact m2 _ _
end MOPER
