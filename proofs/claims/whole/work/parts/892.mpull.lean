/-! THE REFERENCE's operators: pull -/
theorem by_sl_app {B X : List Int} {a b i : Nat} (ha : a ≤ b) (hb : b ≤ B.length) (hi : i < X.length + (b - a)) : by_ (X ++ sl B a b) i = if i < X.length then by_ X i else by_ B (a + (i - X.length)) := by
  by_cases c : i < X.length
  · rw [if_pos c, by_app c]
  · rw [if_neg c, by_app2 (by omega), sl_by (by omega)]
theorem edB_id {B : List Int} {f : Nat} {ps : List Nat} (hf : f ≤ B.length) : edB B f f [] ps = B := by
  refine by_ext (by rw [edB_len, List.length_nil]; omega) (fun i hi => ?_)
  rw [edB_len, List.length_nil] at hi
  by_cases c : i < f
  · rw [edB_lo c, List.length_nil]
    split <;> omega
  · have e := edB_hi (B := B) (f := f) (t := f) (pc := []) (ps := ps) (i := i - f)
    rw [List.length_nil, Nat.add_zero, show f + (i - f) = i by omega] at e
    exact e
theorem edB_mv {B X : List Int} {f a b : Nat} {ps : List Nat} (hfa : f ≤ a) (hab : a ≤ b) (hb : b ≤ B.length) : edB B f a X ps = edB B f b (X ++ sl B a b) ps := by
  have ls : (sl B a b).length = b - a := sl_len hb
  refine by_ext (by rw [edB_len, edB_len, List.length_append, ls]; omega) (fun i hi => ?_)
  rw [edB_len] at hi
  by_cases c : i < f
  · rw [edB_lo c, edB_lo c, List.length_append, ls]
    split <;> omega
  · by_cases c2 : i < f + X.length
    · have e1 := edB_mid (B := B) (f := f) (t := a) (pc := X) (ps := ps) (i := i - f) (by omega)
      have e2 := edB_mid (B := B) (f := f) (t := b) (pc := X ++ sl B a b) (ps := ps) (i := i - f) (by rw [List.length_append]; omega)
      rw [show f + (i - f) = i by omega] at e1 e2
      rw [e1, e2, by_app (by omega)]
    · have e1 := edB_hi (B := B) (f := f) (t := a) (pc := X) (ps := ps) (i := i - f - X.length)
      rw [show f + X.length + (i - f - X.length) = i by omega] at e1
      by_cases c3 : i < f + X.length + (b - a)
      · have e2 := edB_mid (B := B) (f := f) (t := b) (pc := X ++ sl B a b) (ps := ps) (i := i - f) (by rw [List.length_append, ls]; omega)
        rw [show f + (i - f) = i by omega] at e2
        rw [e1, e2, by_app2 (by omega), sl_by (by omega)]
      · have e2 := edB_hi (B := B) (f := f) (t := b) (pc := X ++ sl B a b) (ps := ps) (i := i - f - X.length - (b - a))
        rw [List.length_append, ls, show f + (X.length + (b - a)) + (i - f - X.length - (b - a)) = i by omega] at e2
        rw [e1, e2, show a + (i - f - X.length) = b + (i - f - X.length - (b - a)) by omega]
theorem edB_cut {B X : List Int} {f a b : Nat} {ps : List Nat} (hfa : f ≤ a) (hab : a ≤ b) (hb : b ≤ B.length) (hps : ∀ p ∈ ps, p < f) : edB (edB B f a X ps) (f + X.length) (f + X.length + (b - a)) [] ps = edB B f b X ps := by
  have l1 := edB_len (B := B) (f := f) (t := a) (pc := X) (ps := ps)
  refine by_ext (by rw [edB_len, edB_len, edB_len, List.length_nil]; omega) (fun i hi => ?_)
  rw [edB_len, l1, List.length_nil] at hi
  by_cases c : i < f + X.length
  · rw [edB_lo c, List.length_nil]
    by_cases c1 : i < f
    · rw [edB_lo c1, edB_lo c1]
      split <;> omega
    · have e1 := edB_mid (B := B) (f := f) (t := a) (pc := X) (ps := ps) (i := i - f) (by omega)
      have e2 := edB_mid (B := B) (f := f) (t := b) (pc := X) (ps := ps) (i := i - f) (by omega)
      rw [show f + (i - f) = i by omega] at e1 e2
      rw [e1, e2, if_neg (fun q => by have := hps i q; omega)]
      omega
  · have e1 := edB_hi (B := edB B f a X ps) (f := f + X.length) (t := f + X.length + (b - a)) (pc := []) (ps := ps) (i := i - f - X.length)
    rw [List.length_nil, Nat.add_zero, show f + X.length + (i - f - X.length) = i by omega] at e1
    have e2 := edB_hi (B := B) (f := f) (t := a) (pc := X) (ps := ps) (i := (b - a) + (i - f - X.length))
    have e3 := edB_hi (B := B) (f := f) (t := b) (pc := X) (ps := ps) (i := i - f - X.length)
    rw [show f + X.length + (i - f - X.length) = i by omega] at e3
    rw [e1, e3, show f + X.length + (b - a) + (i - f - X.length) = f + X.length + ((b - a) + (i - f - X.length)) by omega, e2, show a + ((b - a) + (i - f - X.length)) = b + (i - f - X.length) by omega]
theorem okB_ed {B X : List Int} {f t : Nat} {ps : List Nat} (hB : okB B) (hX : okB X) (hf : f ≤ t) (ht : t ≤ B.length) (hp : ∀ p ∈ ps, p < f → 0 ≤ by_ B p + ((X.length : Int) - ((t : Int) - (f : Int))) ∧ by_ B p + ((X.length : Int) - ((t : Int) - (f : Int))) ≤ 255) : okB (edB B f t X ps) := fun i hi => by
  rw [edB_len] at hi
  by_cases c : i < f
  · rw [edB_lo c]
    have hb := hB i (by omega)
    by_cases m : i ∈ ps
    · rw [if_pos m]; exact hp i m c
    · rw [if_neg m]; omega
  · by_cases c2 : i < f + X.length
    · have e := edB_mid (B := B) (f := f) (t := t) (pc := X) (ps := ps) (i := i - f) (by omega)
      rw [show f + (i - f) = i by omega] at e
      rw [e]
      exact hX _ (by omega)
    · have e := edB_hi (B := B) (f := f) (t := t) (pc := X) (ps := ps) (i := i - f - X.length)
      rw [show f + X.length + (i - f - X.length) = i by omega] at e
      rw [e]
      exact hB _ (by omega)
theorem okB_app {X Y : List Int} (h1 : okB X) (h2 : okB Y) : okB (X ++ Y) := fun i hi => by
  rw [List.length_append] at hi
  by_cases c : i < X.length
  · rw [by_app c]; exact h1 i c
  · rw [by_app2 (by omega)]; exact h2 _ (by omega)
theorem okB_sl {B : List Int} {a b : Nat} (h : okB B) (hb : b ≤ B.length) : okB (sl B a b) := fun i hi => by
  rw [sl_len hb] at hi
  rw [sl_by hi]
  exact h _ (by omega)
theorem okB_oth {B : List Int} {N : List Nd} {Q : List Int} (h : okB B) : ∀ ks : List Nat, (∀ k ∈ ks, rEn B N k ≤ B.length) → okB (othL B N Q ks)
  | [], _ => fun i hi => by cases hi
  | k :: ks, hk => by
    rw [oth_cons]
    refine okB_app ?_ (okB_oth h ks (fun j hj => hk j (List.mem_cons_of_mem _ hj)))
    split
    · exact fun i hi => by cases hi
    · exact okB_sl h (hk k List.mem_cons_self)
theorem bh_sh {B Y : List Int} {t : Int} {p q : Nat} (h : by_ Y p = by_ B q) : bh Y t p - p = bh B t q - q := by
  unfold bh
  rw [h]
  split
  · omega
  · split
    · omega
    · split
      · omega
      · split <;> omega
theorem val_sh {B Y : List Int} {t : Int} {p q : Nat} (h : ∀ i, by_ Y (p + i) = by_ B (q + i)) (h1 : bh B t q ≤ B.length) (h2 : bh Y t p ≤ Y.length) : val Y t p = val B t q := by
  have h0 : by_ Y p = by_ B q := h 0
  have e := bh_sh (t := t) h0
  have g1 := bh_ge (B := B) (t := t) (v := q)
  have g2 := bh_ge (B := Y) (t := t) (v := p)
  unfold val
  congr 1
  refine by_ext (by rw [sl_len h2, sl_len h1]; exact e) (fun i hi => ?_)
  rw [sl_len h2] at hi
  rw [sl_by (by omega), sl_by (by omega)]
  exact h i
section MPULL
variable {G : Nat × (Nat → Int32)} {d : Nat} {B : List Int} {N : List Nd} {P : List (List Int)} {Q : List Int}
theorem pull_l {e c : Nat} {W : List Nat} (hA : Acc B 3 0 N) (hB : B.length ≤ 60) (hO : okB B) (hw : isWy N W c) (hwl : W.length + 1 = P.length) (he : e < N.length) (hc : rPa N e = (c : Int)) (t4 : rTy N e = 4) (hq : okQ Q) (hqc : isC (by_ Q 0) → 0 ≤ by_ Q 1) : ∀ (rest done : List Nat) (a : Nat) (M : Mm_), kids N e = done ++ rest → Chn B N rest a (rEn B N e - 1) → (othL B N Q done).length + (rPl N e + 1) ≤ a → WM M → wkI M (edB B (rPl N e + 1) a (othL B N Q done) ((e :: c :: W).map (rPl N))) → mBuf M Q → mPth M 2 P → wayI M N (c :: W) →
    ∃ M', (∀ u3 : Option Value, EvC G (d + 2) m_M_pull 4 [some (.ref 91), some (.int (zI (1408 + ((rPl N e : Nat) : Int)))), some (.int (zI (1408 + ((rPl N e + 1 + (othL B N Q done).length : Nat) : Int)))), u3] [] M (none, M')) ∧ wkI M' (edB B (rPl N e + 1) (rEn B N e - 1) (othL B N Q (kids N e)) ((e :: c :: W).map (rPl N))) ∧ Fp gU M M' := by
  intro rest
  have g := withn hA he hc
  have lt := len_T hA he (Or.inr t4)
  have hcf := isWy_fact hA W c hw
  have way : ∀ w ∈ e :: c :: W, w < N.length ∧ rPl N w ≤ rPl N e ∧ rEn B N e ≤ rEn B N w ∧ isC (rTy N w) := fun w hw' => by
    rcases List.mem_cons.mp hw' with q | q
    · subst q; exact ⟨he, Nat.le_refl _, Nat.le_refl _, Or.inr t4⟩
    · rcases List.mem_cons.mp q with q | q
      · subst q; exact ⟨hcf.1, by omega, by omega, Or.inl hcf.2.1⟩
      · have := way_pl hA W c hw w q; exact ⟨this.2.2.1, by omega, by omega, Or.inl this.2.2.2⟩
  have ok : ∀ (done : List Nat) (a : Nat), (∀ k ∈ done, rEn B N k ≤ B.length) → (othL B N Q done).length + (rPl N e + 1) ≤ a → a ≤ rEn B N e - 1 → okB (edB B (rPl N e + 1) a (othL B N Q done) ((e :: c :: W).map (rPl N))) := fun done a h0 h1 h2 => by
    refine okB_ed hO (okB_oth hO done h0) (by omega) (by omega) (fun p hp _ => ?_)
    obtain ⟨w, hw', rfl⟩ := List.mem_map.mp hp
    obtain ⟨w1, w2, w3, w4⟩ := way w hw'
    have := len_T hA w1 w4
    omega
  have z2 : (zI 2).toNatClampNeg = 2 := by decide +kernel
  have z1024 : (zI 1024).toNatClampNeg = 1024 := by decide +kernel
  have hkid : ∀ k ∈ kids N e, k < N.length ∧ rPa N k = (e : Int) := fun k hk => kids_lt hk
  have nd3 : ((e :: c :: W).map (rPl N)).Nodup := by
    rw [List.map_cons]
    refine List.nodup_cons.mpr ⟨fun q => ?_, way_nodup hA W c hw⟩
    obtain ⟨v, hv, ev⟩ := List.mem_map.mp q
    rcases List.mem_cons.mp hv with r | r
    · subst r; omega
    · have := way_pl hA W c hw v r; omega
  induction rest with
  | nil =>
    intro done a M hk hch hL hW hY hb hP hy
    have hch : a = rEn B N e - 1 := hch
    rw [List.append_nil] at hk
    have yl := edB_len (B := B) (f := rPl N e + 1) (t := a) (pc := othL B N Q done) (ps := (e :: c :: W).map (rPl N))
    have i1 : by_ (edB B (rPl N e + 1) a (othL B N Q done) ((e :: c :: W).map (rPl N))) (rPl N e) = by_ B (rPl N e) + (((othL B N Q done).length : Int) - ((a : Int) - ((rPl N e + 1 : Nat) : Int))) := by rw [edB_lo (by omega), if_pos (by simp)]
    have v1 : M.2.1 (91 + 1) (zI (1408 + ((rPl N e : Nat) : Int))).toNatClampNeg = zI (by_ B (rPl N e) + (((othL B N Q done).length : Int) - ((a : Int) - ((rPl N e + 1 : Nat) : Int)))) := by
      rw [zI_clamp ⟨by omega, by omega⟩, show (1408 + ((rPl N e : Nat) : Int)).toNat = 1408 + rPl N e by omega, ← i1]
      exact hY.2 _ (by rw [yl]; omega)
    refine ⟨M, fun u3 => ev_M_pull_4 ?_, by rw [hk, ← hch]; exact hY, Fp.rf⟩
    rw [v1, zI_add, zI_sub, if_neg (fun q => by rw [zI_lt ⟨by omega, by omega⟩ ⟨by omega, by omega⟩] at q; omega)]
    exact ⟨okF_W hW rfl, okA_W hW (show sg0[91 + 1]? = some (.inr (0, 1728)) from rfl) (zI_in (by omega) (by omega) (by omega)), rfl⟩
  | cons k rest ih =>
    intro done a M hk hch hL hW hY hb hP hy
    obtain ⟨ch1, ch2⟩ := hch
    obtain ⟨k1, k2⟩ := hkid k (by rw [hk]; simp)
    have gk := withn hA k1 k2
    obtain ⟨s1, s2, s3, s4⟩ := rSt_rEn4 (hA.2.2.1 k k1) k2 t4
    have tk := hA.2.2.1 k k1
    have tk1 := tk.1
    have tk2 := tk.2.1
    have hpl := hP.1
    have hbl := hb.1
    have hdone : ∀ j ∈ done, rEn B N j ≤ B.length := fun j hj => by
      obtain ⟨j1, j2⟩ := hkid j (by rw [hk]; exact List.mem_append_left _ hj)
      have := withn hA j1 j2
      omega
    have okY := ok done a hdone hL (by omega)
    have yl := edB_len (B := B) (f := rPl N e + 1) (t := a) (pc := othL B N Q done) (ps := (e :: c :: W).map (rPl N))
    generalize hYd : edB B (rPl N e + 1) a (othL B N Q done) ((e :: c :: W).map (rPl N)) = Y at hY okY yl
    have hin : mIn M 1408 Y := ⟨hW, okY, hY.2, by omega⟩
    have sh : ∀ i, by_ Y (rPl N e + 1 + (othL B N Q done).length + i) = by_ B (a + i) := fun i => by rw [← hYd]; exact edB_hi
    have i1 : by_ Y (rPl N e) = by_ B (rPl N e) + (((othL B N Q done).length : Int) - ((a : Int) - ((rPl N e + 1 : Nat) : Int))) := by rw [← hYd, edB_lo (by omega), if_pos (by simp)]
    have i2 : by_ Y (rPl N e + 1 + (othL B N Q done).length) = rTy N k := by
      have h0 : by_ Y (rPl N e + 1 + (othL B N Q done).length) = by_ B a := sh 0
      rw [h0, ← ch1, s3]
    have v1 := mI hin (i := rPl N e) (by omega)
    have o1 := mOk hin (i := rPl N e) (by omega)
    have v2 := mI hin (i := rPl N e + 1 + (othL B N Q done).length) (by omega)
    have o2 := mOk hin (i := rPl N e + 1 + (othL B N Q done).length) (by omega)
    rw [i2] at v2
    rw [i1] at v1
    have sh1 : ∀ i, by_ Y (rPl N e + 1 + (othL B N Q done).length + 1 + i) = by_ B (rPl N k + i) := fun i => by
      have := sh (1 + i)
      rw [show rPl N e + 1 + (othL B N Q done).length + 1 + i = rPl N e + 1 + (othL B N Q done).length + (1 + i) by omega, this, s1, ← ch1, show rSt N k + (1 + i) = rSt N k + 1 + i by omega]
    have h00 : by_ Y (rPl N e + 1 + (othL B N Q done).length + 1) = by_ B (rPl N k) := sh1 0
    have bhe := bh_sh (t := rTy N k) h00
    have b1 := bh_ge (B := Y) (t := rTy N k) (v := rPl N e + 1 + (othL B N Q done).length + 1)
    have b2 : bh B (rTy N k) (rPl N k) = rEn B N k := rfl
    have bhv : bh Y (rTy N k) (rPl N e + 1 + (othL B N Q done).length + 1) = rPl N e + 1 + (othL B N Q done).length + (rEn B N k - a) := by omega
    have eb := e_M_behind (G := G) (d := d + 1) (t := rTy N k) (v := rPl N e + 1 + (othL B N Q done).length + 1) hin ⟨tk1, tk2⟩ (by
      rcases s4 with q | q | q | q
      · exact Or.inl q
      · exact Or.inr (Or.inl q)
      · exact Or.inr (Or.inr (Or.inl q))
      · exact Or.inr (Or.inr (Or.inr (by omega))))
    rw [bhv] at eb
    have q1 := hq.2.1
    have q2 := hq.2.2.1
    have hq0 : 0 < Q.length := by_lt (by omega)
    have qw : by_ Q 0 = 1 ∨ by_ Q 0 = 5 ∨ by_ Q 0 = 6 ∨ 1 < Q.length := by
      by_cases c2 : by_ Q 0 = 2
      · exact Or.inr (Or.inr (Or.inr (by_lt (hq.2.2.2.1 c2))))
      · by_cases c3 : isC (by_ Q 0)
        · exact Or.inr (Or.inr (Or.inr (by_lt (hqc c3))))
        · unfold isC at c3; omega
    have ee := e_M_equal (G := G) (d := d) (t := rTy N k) (u := by_ Q 0) (v := rPl N e + 1 + (othL B N Q done).length + 1) (w := 1) hin (hb.in_ hW) ⟨tk1, tk2⟩ ⟨q1, q2⟩ (by
      rcases s4 with q | q | q | q
      · exact Or.inl q
      · exact Or.inr (Or.inl q)
      · exact Or.inr (Or.inr (Or.inl q))
      · exact Or.inr (Or.inr (Or.inr (by omega)))) qw (by omega) (by rw [hq.1]; exact Nat.le_refl _)
    rw [val_sh sh1 (by omega) (by omega)] at ee
    have e1 : zI (1408 + ((rPl N e + 1 + (othL B N Q done).length : Nat) : Int)) + zI 1 = zI (((1408 : Nat) : Int) + ((rPl N e + 1 + (othL B N Q done).length + 1 : Nat) : Int)) := by rw [zI_add, show 1408 + ((rPl N e + 1 + (othL B N Q done).length : Nat) : Int) + 1 = ((1408 : Nat) : Int) + ((rPl N e + 1 + (othL B N Q done).length + 1 : Nat) : Int) by omega]
    have pre : ∀ r, (∀ u3 : Option Value, EvC G (d + 2) m_M_pull 56 [some (.ref 91), some (.int (zI (1408 + ((rPl N e : Nat) : Int)))), some (.int (zI (1408 + ((rPl N e + 1 + (othL B N Q done).length : Nat) : Int)))), some (.int (zI (1408 + ((rPl N e + 1 + (othL B N Q done).length + (rEn B N k - a) : Nat) : Int))))] [.int (zI (if val B (rTy N k) (rPl N k) = val Q (by_ Q 0) 1 then 1 else 0))] M r) → ∀ u3 : Option Value, EvC G (d + 2) m_M_pull 4 [some (.ref 91), some (.int (zI (1408 + ((rPl N e : Nat) : Int)))), some (.int (zI (1408 + ((rPl N e + 1 + (othL B N Q done).length : Nat) : Int)))), u3] [] M r := fun r hr u3 => by
      refine ev_M_pull_4 ?_
      rw [show M.2.1 (91 + 1) (zI (1408 + ((rPl N e : Nat) : Int))).toNatClampNeg = _ from v1, show M.2.1 (91 + 1) (zI (1408 + ((rPl N e + 1 + (othL B N Q done).length : Nat) : Int))).toNatClampNeg = _ from v2, e1, zI_add, zI_sub, if_pos ((zI_lt ⟨by omega, by omega⟩ ⟨by omega, by omega⟩).mpr (by omega))]
      refine ⟨okF_W hW rfl, o1, okF_W hW rfl, o2, okO_W hW rfl, _, _, eb, ev_M_pull_31 ?_⟩
      rw [show M.2.1 (91 + 1) (zI (1408 + ((rPl N e + 1 + (othL B N Q done).length : Nat) : Int))).toNatClampNeg = _ from v2, e1, z1024, show M.2.1 (91 + 1) 1024 = zI (by_ Q 0) from hb.2.2.1 0 hq0]
      exact ⟨okF_W hW rfl, o2, okF_W hW rfl, okA_W hW (show sg0[91 + 1]? = some (.inr (0, 1728)) from rfl) (zI_in (by omega) (by omega) (by omega)), okO_W hW rfl, _, _, ee, hr u3⟩
    have hk' : kids N e = (done ++ [k]) ++ rest := by rw [hk, List.append_assoc]; rfl
    have oa : othL B N Q (done ++ [k]) = othL B N Q done ++ (if val B (rTy N k) (rPl N k) = val Q (by_ Q 0) 1 then [] else itm B N k) := by
      rw [oth_app, oth_cons]
      show _ ++ (_ ++ []) = _
      rw [List.append_nil]
    by_cases cv : val B (rTy N k) (rPl N k) = val Q (by_ Q 0) 1
    · rw [if_pos cv, List.append_nil] at oa
      have f0 : Fp pRw M (am_setI M 91 25 (zI 0)) := Fp.set (Or.inl ⟨rfl, rfl⟩)
      have y0 : wayI (am_setI M 91 25 (zI 0)) N (c :: W) := fun i hi => by rw [setI_cell (by decide)]; exact hy i hi
      obtain ⟨M1, m1, w1, f1⟩ := spl_way (G := G) (d := d + 1) (A := c :: W) (ls := some (rPl N e)) (f := rPl N e + 1 + (othL B N Q done).length) (t := rPl N e + 1 + (othL B N Q done).length + (rEn B N k - a)) (X := []) (WM_setI hW) (hY.kp f0 (fun a j q w => by unfold pRw at q; unfold pSp at w; omega)) ⟨setI_self, fun i hi => by cases hi⟩ (by simp) (by omega) (by omega) (by omega) (by rw [List.length_cons]; omega) y0 (fun w hw' => by have := way w (List.mem_cons_of_mem _ hw'); omega) (fun v hv => by
        have : rPl N e = v := Option.some.inj hv
        subst this
        exact ⟨by omega, (List.nodup_cons.mp nd3).1⟩) (List.nodup_cons.mp nd3).2
      have ec := edB_cut (B := B) (X := othL B N Q done) (f := rPl N e + 1) (a := a) (b := rEn B N k) (ps := (e :: c :: W).map (rPl N)) (by omega) (by omega) (by omega) (fun p hp => by obtain ⟨w, hw', rfl⟩ := List.mem_map.mp hp; have := way w hw'; omega)
      rw [hYd] at ec
      have w1 : wkI M1 (edB Y (rPl N e + 1 + (othL B N Q done).length) (rPl N e + 1 + (othL B N Q done).length + (rEn B N k - a)) [] ((e :: c :: W).map (rPl N))) := w1
      rw [ec] at w1
      have F1 : Fp gU M M1 := (f0.up (fun a j q => pRw_V q)).tr (f1.up (fun a j q => pSp_V q))
      have F1x := F1.x hW
      obtain ⟨M2, m2, w2, f2⟩ := ih (done ++ [k]) (rEn B N k) M1 hk' ch2 (by rw [oa]; omega) F1x.1 (by rw [oa]; exact w1) (hb.kx F1x (fun a j q => by unfold gU at q; omega)) (hP.kx F1x (fun q => by unfold gU at q; omega) (fun i _ _ q => by unfold gU at q; omega)) (fun i hi => by rw [f1.2.2 _ _ (fun q => by unfold pSp at q; omega)]; exact y0 i hi)
      rw [oa] at m2
      refine ⟨M2, pre _ (fun u3 => ev_M_pull_56 ?_), w2, F1.tr f2⟩
      rw [if_pos cv, zI_0, if_neg z10, z2, show (am_setI M 91 25 (zI 0)).2.1 (91 + 4) 2 = zI (P.length : Int) from (by rw [setI_cell (by decide)]; exact hP.2.1), show (P.length : Int) = (((c :: W).length : Nat) : Int) by rw [List.length_cons]; omega]
      exact ⟨okP_W hW rfl rfl, okF_W (WM_setI hW) rfl, okA_W (WM_setI hW) (show sg0[91 + 4]? = some (.inr (0, 6)) from rfl) (zI_in (by omega) (by omega) (by omega)), okO_W (WM_setI hW) rfl, _, m1, ev_M_pull_77 (m2 _)⟩
    · rw [if_neg cv] at oa
      have ei : itm B N k = sl B a (rEn B N k) := by unfold itm; rw [ch1]
      have em := edB_mv (B := B) (X := othL B N Q done) (f := rPl N e + 1) (a := a) (b := rEn B N k) (ps := (e :: c :: W).map (rPl N)) (by omega) (by omega) (by omega)
      rw [hYd, ← ei, ← oa] at em
      have ol : (othL B N Q (done ++ [k])).length = (othL B N Q done).length + (rEn B N k - a) := by rw [oa, List.length_append, ei, sl_len (by omega)]
      obtain ⟨M2, m2, w2, f2⟩ := ih (done ++ [k]) (rEn B N k) M hk' ch2 (by rw [ol]; omega) hW (by rw [← em]; exact hY) hb hP hy
      rw [ol] at m2
      refine ⟨M2, pre _ (fun u3 => ev_M_pull_56 ?_), w2, f2⟩
      rw [if_neg cv, zI_0, if_pos rfl, show rPl N e + 1 + (othL B N Q done).length + (rEn B N k - a) = rPl N e + 1 + ((othL B N Q done).length + (rEn B N k - a)) by omega]
      exact m2 _
theorem e_M_pull {M : Mm_} {e c : Nat} {W : List Nat} (hA : Acc B 3 0 N) (hB : B.length ≤ 60) (h : mIn M 1408 B) (hk : wkI M B) (hw : isWy N W c) (hwl : W.length + 1 = P.length) (he : e < N.length) (hc : rPa N e = (c : Int)) (t4 : rTy N e = 4) (hq : okQ Q) (hqc : isC (by_ Q 0) → 0 ≤ by_ Q 1) (hb : mBuf M Q) (hP : mPth M 2 P) (hy : wayI M N (c :: W)) : ∃ M', Ev G (d + 2) 146 [.ref 91, .int (zI (1408 + ((rPl N e : Nat) : Int)))] M (none, M') ∧ wkI M' (edB B (rPl N e + 1) (rEn B N e - 1) (othL B N Q (kids N e)) ((e :: c :: W).map (rPl N))) ∧ Fp gU M M' := by
  have lt := len_T hA he (Or.inr t4)
  obtain ⟨w1, w2⟩ := hA.2.2.2.1 e he (by simp)
  obtain ⟨M', m, w, f⟩ := pull_l (G := G) (d := d) hA hB h.2.1 hw hwl he hc t4 hq hqc (kids N e) [] (rPl N e + 1) M rfl (w2 (Or.inr t4)).1 (by show 0 + (rPl N e + 1) ≤ rPl N e + 1; omega) h.1 (by
    show wkI M (edB B (rPl N e + 1) (rPl N e + 1) [] ((e :: c :: W).map (rPl N)))
    rw [edB_id (by omega)]
    exact hk) hb hP hy
  refine ⟨M', ev_of (q := mt_M_pull) rfl (ev_M_pull_0 ?_), w, f⟩
  have := m none
  rw [zI_add, show 1408 + ((rPl N e : Nat) : Int) + 1 = 1408 + ((rPl N e + 1 + (othL B N Q []).length : Nat) : Int) from (by show 1408 + ((rPl N e : Nat) : Int) + 1 = 1408 + ((rPl N e + 1 + 0 : Nat) : Int); omega)]
  exact this
end MPULL
