/-! SOUNDNESS: natives, calls, switches -/
section SDC
variable {p : Program} {l : Launch} {e : Env} {R : Room} {s : State} {m : MethodId} {args : Array Value} {below : List Frame} {meth : Method} {c : Code} {Q : State → Prop}
variable {D : va_G} {K : Nat → ClassId} {base b : Nat} {G : Nat × (Nat → Int32)} {own : String} {cc : ByteArray} {ini : Bool} {nL d : Nat} {o : Out_} {ce se : Nat}
variable {k : Kn_} {call : Nat → List Value → Mm_ → Option Out_} {pc : Nat} {L : List (Option Value)} {st q : List Value} {M : Mm_} {ls : Array Slot} {H : Heap} {locs : List Loc} {cells slots : Nat}
theorem sd_nn {z : Int32} (h : 0 ≤ z.toInt) : ¬ z < 0 ∧ z.toInt = (z.toNatClampNeg : Int) := by
  refine ⟨fun q => ?_, ?_⟩
  · rw [Int32.lt_iff_toInt_lt, Int32.toInt_zero] at q
    omega
  · show z.toInt = ((z.toInt.toNat : Nat) : Int)
    omega
/-- System.arraycopy -/
theorem sd_copy (C : sd_X D K base b own cc ini nL (d + 1) ce se p R s m args meth c) (hk : sd_K p l e R s m args below meth c Q D K base b G nL o ce se k) {idx i1 : Nat} (hw : isW i1 (.methodLink own idx arraycopyName) = true) (hd : decode cc pc = .ok (.invokestatic idx, 3)) (S : sd_S D K base b G s nL o ce se L M ls H locs cells slots)
    {n dp sp : Int32} {a a0 : Nat} (hq : q.length ≤ 8) (hok : am_okC M a0 a sp dp n = true) (h : k (pc + 3) L q (am_copy M a0 a sp.toNatClampNeg dp.toNatClampNeg n.toNatClampNeg) = some o) :
    W p l e R s m args below meth c H locs cells slots Q (F0 m pc ls ((Value.int n :: Value.int dp :: Value.ref a :: Value.int sp :: Value.ref a0 :: q).map (cV base b))) := by
  obtain ⟨hx, hb, hml, hown, hts, hE, hbb, -, hfr, hlo, -⟩ := C
  obtain ⟨x, y, ha0, ha, b1, b2, b3, b4, b5⟩ := am_okC_of hok
  obtain ⟨h1, e1⟩ := sd_nn b1
  obtain ⟨h2, e2⟩ := sd_nn b2
  obtain ⟨h3, e3⟩ := sd_nn b3
  have hc0 : H[base + a0]? = some (vp_cell (K 0) (x, .inl (M.2.1 a0))) := S.1.2.1 a0 _ ha0
  have hc1 : H[base + a]? = some (vp_cell (K 0) (y, .inl (M.2.1 a))) := S.1.2.1 a _ ha
  obtain ⟨-, k0, hk0, cm0, hkk0⟩ := (hE.1.2 0 (K 0, .int) rfl).1 x (fun j => .int (M.2.1 a0 j))
  obtain ⟨-, k1, hk1, cm1, hkk1⟩ := (hE.1.2 0 (K 0, .int) rfl).1 y (fun j => .int (M.2.1 a j))
  have hls : ls.size = nL := by
    obtain ⟨-, lv, hh, -⟩ := S.2.2.1
    exact hh.1
  intro T hT X
  obtain ⟨vm', X', step⟩ := X.arraycopy hx hown (hts _ (isW_mem hw)) (hts _ (isW_mem ok_cpyN)) (hts _ (isW_mem ok_cpyS)) (hts _ (isW_mem ok_cpyI)) (src := base + a0) (dst := base + a) (cs := vp_cell (K 0) (x, .inl (M.2.1 a0))) (cd := vp_cell (K 0) (y, .inl (M.2.1 a))) (srcPos := sp) (destPos := dp) (n := n) (by rw [hT]; exact hc0) (by rw [hT]; exact hc1)
    (fun _ h => by cases h) (fun _ h => by cases h) (fun h => by cases h) (fun h => by cases h) hk0 hk1 hkk0 hkk1 (by simp [refKind]) h1 h2 h3
    (by rw [e1, e3]; show ¬ _ > ((arrV (K 0) x (fun j => .int (M.2.1 a0 j))).slots.size : Int); rw [arrV_size]; omega)
    (by rw [e2, e3]; show ¬ _ > ((arrV (K 0) y (fun j => .int (M.2.1 a j))).slots.size : Int); rw [arrV_size]; omega)
    (fun vm₁ _ i hi => by
      have e : (vp_cell (K 0) (x, .inl (M.2.1 a0))).slots.getD (sp.toNatClampNeg + i) .null = .int (M.2.1 a0 (sp.toNatClampNeg + i)) := by
        show (arrV (K 0) x (fun j => .int (M.2.1 a0 j))).slots.getD _ _ = _
        rw [Array.getD_eq_getD_getElem?, arrV_read _ _ (by omega)]
        rfl
      refine ⟨?_, ?_⟩
      · rw [e]
        rfl
      · rw [e]
        exact trivial)
    (g := F0 m pc ls ((Value.int n :: Value.int dp :: Value.ref a :: Value.int sp :: Value.ref a0 :: q).map (cV base b))) rfl (by rw [hml]; exact hls) (rest := q.map (cV base b)) rfl (by rw [hb]; exact hd) (by omega) (by
      show 2 * 0 + ((q.map (cV base b)).map fun v => v.category).sum + (nativeFrameWords "java/lang/System" "arraycopy" 5 + 11) ≤ R.locals
      rw [cV_sum, show nativeFrameWords "java/lang/System" "arraycopy" 5 = 7 from rfl]
      omega)
  have hcp : copied (vp_cell (K 0) (x, .inl (M.2.1 a0))) (vp_cell (K 0) (y, .inl (M.2.1 a))) sp dp n = vp_cell (K 0) (y, .inl (va_cpy (M.2.1 a0) (M.2.1 a) sp.toNatClampNeg dp.toNatClampNeg n.toNatClampNeg)) := va_copied (fun z => .int z) (K 0) (K 0) (M.2.1 a0) (M.2.1 a) (by omega)
  rw [hcp] at X' step
  have hl : base + a < H.size := (Array.getElem?_eq_some_iff.mp hc1).1
  generalize hc2 : vp_cell (K 0) (y, .inl (va_cpy (M.2.1 a0) (M.2.1 a) sp.toNatClampNeg dp.toNatClampNeg n.toNatClampNeg)) = c2 at X' step
  have hheap : ((T.setVm vm').setCell (base + a) c2).heap = H.setIfInBounds (base + a) c2 := by rw [← hT]; rfl
  have oq : ∀ q : Nat, q ≠ base + a → (H.setIfInBounds (base + a) c2)[q]? = H[q]? := fun q hq => by simp [Array.getElem?_setIfInBounds, Ne.symm hq]
  have hR : am_R D K base b G s (am_copy M a0 a sp.toNatClampNeg dp.toNatClampNeg n.toNatClampNeg) (H.setIfInBounds (base + a) c2) := by
    refine S.1.write hbb ha rfl (fun q hq => ?_) (fun q hq => rfl) (by simp) oq ?_
    · funext t; simp [am_copy, rw1, hq]
    · show (H.setIfInBounds (base + a) c2)[base + a]? = some (vp_cell (K 0) (y, .inl ((am_copy M a0 a sp.toNatClampNeg dp.toNatClampNeg n.toNatClampNeg).2.1 a)))
      have e4 : (am_copy M a0 a sp.toNatClampNeg dp.toNatClampNeg n.toNatClampNeg).2.1 a = va_cpy (M.2.1 a0) (M.2.1 a) sp.toNatClampNeg dp.toNatClampNeg n.toNatClampNeg := by
        funext t; simp [am_copy, rw1]
      rw [e4, hc2]
      simp [Array.getElem?_setIfInBounds, hl]
  obtain ⟨t, a1, b1⟩ := hk _ _ _ _ ls _ _ _ _ h (sd_kept S hR rfl (fun q hq => by
    rcases List.mem_append.mp hq with h | h
    · exact S.2.1 q h
    · obtain ⟨z, -, hz⟩ := List.mem_map.mp h
      rw [← hz]
      exact Nat.le_add_right _ _)) _ hheap X'
  exact ⟨t, step t a1, b1⟩
/-- behind a call -/
theorem sd_goon {o' : Out_} {mc ms : Nat} {rest : List Value} {st0 : List Value} {a : Array Value} (hr : va_Run p l e R s m args below meth c H locs cells slots mc ms (F0 m pc ls st0) rest (am_Qc D K base b G o' a) (fun q => base ≤ q)) (hl : ∀ q ∈ locs, base ≤ q.base)
    (kk : ∀ (H1 : Heap) (locs1 : List Loc), am_R D K base b G s o'.2 H1 → (∀ q ∈ locs1, base ≤ q.base) → W p l e R s m args below meth c H1 locs1 (cells + mc) (slots + ms) Q (F0 m (pc + 3) ls ((o'.1.map (cV base b)).toList ++ rest))) : W p l e R s m args below meth c H locs cells slots Q (F0 m pc ls st0) := by
  intro T hT X
  obtain ⟨v, st₀, t, T', L, h0, X', hL, e1, e2, ⟨hv, hR⟩, st⟩ := hr T hT X
  cases hv
  have hvm : s.vm.Alike t.vm := by rw [← e2]; exact X'.warmed.alike
  have hR' := am_R.moved (U := s) hvm.symm hR
  rw [← e1] at hR'
  obtain ⟨t2, a1, b1⟩ := kk T'.heap (locs ++ L) hR' (fun q hq => by
    rcases List.mem_append.mp hq with h | h
    · exact hl q h
    · exact hL q h) T' rfl X'
  exact ⟨t2, st t2 a1, b1⟩
theorem sd_inv (C : sd_X D K base b own cc ini nL d ce se p R s m args meth c) (hk : sd_K p l e R s m args below meth c Q D K base b G nL o ce se k) (hkm : ∀ pc L st M, k pc L st M = some o → M.1 <+: o.2.1) (hcl : sd_C l D K base b G d call) (S : sd_S D K base b G s nL o ce se L M ls H locs cells slots)
    {y : Mi_} {i : Instr} {ln x1 x2 x3 : Nat} {sw : List (Int × Nat)} (hy : miL[x1]? = some y) (hna : y.2.2.2.2.2.1 = x2) (h : am_inv k call (pc, i, ln, x1, x2, x3, sw) L st M = some o)
    (run : ∀ (o' : Out_) (d' : Nat), d = d' + 1 → (st.drop x2).length ≤ 8 → (st.take x2).reverse.length = x2 → cells + (o'.2.1.length - M.1.length) ≤ R.cells ∧ slots + (am_sz o'.2.1 - am_sz M.1) ≤ R.slots → Met l y.1 (sd_ws y) (sd_rm d' M o'.2) (am_Pc D K base b G (st.take x2).reverse M) (am_Qc D K base b G o') (o'.2.1.length - M.1.length) (am_sz o'.2.1 - am_sz M.1) (fun q => base ≤ q) →
      ∃ a, va_Run p l e R s m args below meth c H locs cells slots (o'.2.1.length - M.1.length) (am_sz o'.2.1 - am_sz M.1) (F0 m pc ls (st.map (cV base b))) ((st.drop x2).map (cV base b)) (am_Qc D K base b G o' a) (fun q => base ≤ q)) :
    W p l e R s m args below meth c H locs cells slots Q (F0 m pc ls (st.map (cV base b))) := by
  obtain ⟨hc, h⟩ := cond_inv h
  rw [Bool.and_eq_true] at hc
  have hc1 : (st.drop x2).length ≤ 8 := Nat.le_of_ble_eq_true hc.1
  have hc2 : x2 ≤ st.length := Nat.le_of_ble_eq_true hc.2
  obtain ⟨o', h1, h2⟩ := Option.bind_eq_some_iff.mp h
  have hlen : (st.take x2).reverse.length = x2 := by rw [List.length_reverse, List.length_take]; omega
  obtain ⟨hp1, d', hd', hM⟩ := hcl x1 _ M o' y h1 hy (hlen.trans hna.symm)
  have hp2 := hkm _ _ _ _ h2
  have l1 := hp1.length_le
  have l2 := hp2.length_le
  have z1 : am_sz M.1 ≤ am_sz o'.2.1 := by obtain ⟨t, ht⟩ := hp1; rw [← ht, am_sz_app]; omega
  have z2 : am_sz o'.2.1 ≤ am_sz o.2.1 := by obtain ⟨t, ht⟩ := hp2; rw [← ht, am_sz_app]; omega
  have h4 := S.2.2.2.1
  have h5 := S.2.2.2.2
  obtain ⟨-, -, -, -, -, -, -, -, -, -, hce, hse⟩ := C
  obtain ⟨a, hrun⟩ := run o' d' hd' hc1 hlen ⟨by omega, by omega⟩ hM
  refine sd_goon hrun S.2.1 fun H1 locs1 hR1 hl1 => ?_
  have := hk _ _ _ _ ls H1 locs1 (cells + (o'.2.1.length - M.1.length)) (slots + (am_sz o'.2.1 - am_sz M.1)) h2 ⟨hR1, hl1, S.2.2.1, by omega, by omega⟩
  have e1 : (o'.1.toList ++ st.drop x2).map (cV base b) = (o'.1.map (cV base b)).toList ++ (st.drop x2).map (cV base b) := by
    rw [List.map_append]
    congr 1
    cases o'.1 <;> rfl
  rw [← e1]
  exact this
theorem sd_size (S : sd_S D K base b G s nL o ce se L M ls H locs cells slots) : ls.size = nL := by
  obtain ⟨-, lv, hh, -⟩ := S.2.2.1
  exact hh.1
theorem sd_pre {U : State} {as : List Value} (hE : am_E D K s) (hR : am_R D K base b G s M H) (hU : U.heap = H) (hW : s.WarmedH U.vm) : am_Pc D K base b G as M (as.map (cV base b)).toArray U :=
  ⟨rfl, by rw [hU]; exact hR.moved hW.alike, hE.warm hW⟩
theorem sd_stk {x2 a : Nat} {as : List Value} (h : (st.take x2).reverse = .ref a :: as) : st.map (cV base b) = (as.map (cV base b)).reverse ++ Value.ref (base + a) :: (st.drop x2).map (cV base b) := by
  have h1 : st.take x2 = as.reverse ++ [.ref a] := by
    have := congrArg List.reverse h
    rw [List.reverse_reverse] at this
    rw [this]; simp
  have h2 : st = (as.reverse ++ [.ref a]) ++ st.drop x2 := by rw [← h1, List.take_append_drop]
  calc st.map (cV base b) = ((as.reverse ++ [Value.ref a]) ++ st.drop x2).map (cV base b) := by rw [← h2]
    _ = _ := by simp [cV]
theorem sd_room {d' : Nat} {M' : Mm_} {maxL : Nat} (C : sd_X D K base b own cc ini nL d ce se p R s m args meth c) (hd : d = d' + 1) (hm : maxL ≤ 9) : (sd_rm d' M M').frames + 1 ≤ R.frames ∧ 8 + (maxL + 11) + (sd_rm d' M M').locals ≤ R.locals := by
  obtain ⟨-, -, -, -, -, -, -, -, hfr, hlo, -⟩ := C
  constructor
  · show d' + 1 ≤ _
    omega
  · show 8 + (maxL + 11) + (30 * d' + 40) ≤ _
    omega
theorem sd_callV (C : sd_X D K base b own cc ini nL d ce se p R s m args meth c) (hk : sd_K p l e R s m args below meth c Q D K base b G nL o ce se k) (hkm : ∀ pc L st M, k pc L st M = some o → M.1 <+: o.2.1) (hcl : sd_C l D K base b G d call) (S : sd_S D K base b G s nL o ce se L M ls H locs cells slots)
    {i : Instr} {ln x1 x2 x3 idx : Nat} {sw : List (Int × Nat)} (hd : decode cc pc = .ok (.invokevirtual idx, 3)) (hchk : (match miL[x1]?, sw with
      | some y, q :: _ => isW x3 (.methodLink own idx y.1) && Nat.beq y.2.2.2.2.1 1 && Nat.beq y.2.2.2.2.2.1 x2 && decide ((cls_[q.2]?).map (fun z => z.1) = some y.1.cls)
      | _, _ => false) = true) (hrc : am_recv M (pc, i, ln, x1, x2, x3, sw) st = true) (h : am_inv k call (pc, i, ln, x1, x2, x3, sw) L st M = some o) :
    W p l e R s m args below meth c H locs cells slots Q (F0 m pc ls (st.map (cV base b))) := by
  cases hy : miL[x1]? with
  | none => rw [hy] at hchk; cases hchk
  | some y =>
    cases sw with
    | nil => rw [hy] at hchk; cases hchk
    | cons z sw =>
      rw [hy] at hchk
      simp only [Bool.and_eq_true, decide_eq_true_eq] at hchk
      obtain ⟨⟨⟨w1, w2⟩, w3⟩, w4⟩ := hchk
      have w2' := Nat.eq_of_beq_eq_true w2
      have w3' := Nat.eq_of_beq_eq_true w3
      obtain ⟨mt, hmt, hI⟩ := mi_ok x1 y hy
      obtain ⟨yn, yb, yl, yr, yk, ya, ys⟩ := y
      dsimp only at w1 w2' w3' w4
      subst w2'
      simp only [chkI, Bool.and_eq_true, decide_eq_true_eq] at hI
      obtain ⟨⟨⟨⟨⟨⟨⟨⟨⟨⟨v1, v2⟩, ⟨⟨v3, v4⟩, v5⟩⟩, v6⟩, v7⟩, v8⟩, v9⟩, v10⟩, v11⟩, v12⟩, v13⟩ := hI
      obtain ⟨-, -⟩ : True ∧ True := ⟨trivial, trivial⟩
      refine sd_inv C hk hkm hcl S hy w3' h fun o' d' hd' hlen hrev hf hM => ?_
      unfold am_recv at hrc
      dsimp only at hrc
      cases has : (st.take x2).reverse with
      | nil => rw [has] at hrc; cases hrc
      | cons w as =>
        rw [has] at hrc hrev hM
        cases w with
        | ref a =>
          have ha := am_okO_of hrc
          cases hc : cls_[z.2]? with
          | none => rw [hc] at w4; cases w4
          | some r =>
            rw [hc] at w4
            have hr1 : r.1 = yn.cls := Option.some.inj w4
            have hx := C.1
            have hE := C.2.2.2.2.2.1
            have hts := C.2.2.2.2.1
            refine ⟨_, va_runV (C := yn.cls) (As := as.map (cV base b)) (b := base + a) (n := as.length) ⟨hx, C.2.1, C.2.2.1, C.2.2.2.1, hts⟩ hM (cwV as.length hts (good_sub fun w hw => ?_) rfl rfl rfl ⟨rfl, v7, v8, ?_⟩ (sd_room C hd' (Nat.le_of_ble_eq_true v9))) ⟨am_Pc.blind, ?_, fun U hU hW => ?_⟩ rfl (List.length_map ..) (sd_size S) (sd_stk has) (lv_room (by rw [cV_sum]; exact hlen)) hd hf⟩
            · rcases List.mem_append.mp hw with hw | hw
              · simp only [List.mem_cons, List.not_mem_nil, or_false] at hw
                rcases hw with rfl | rfl | rfl | rfl
                · exact isW_mem w1
                · exact isW_mem v3
                · exact isW_mem v4
                · exact isW_mem v2
              · rcases List.mem_cons.mp hw with rfl | hw
                · exact isW_mem v1
                · exact hw
            · cases hp : parseMethodDescriptor yn.desc with
              | none => rw [hp] at v5; cases v5
              | some sg =>
                rw [hp] at v5
                have : sg.parameters.length + 1 = ya := Option.some.inj v5
                have h9 : as.length + 1 = x2 := hrev
                show some sg.parameters.length = some as.length
                congr 1
                omega
            · have := va_recv (q0 := 0) (a := base + a) (fs := cO base (M.2.1 a) (M.2.2 a) z.2) hE.1 (S.1.one ha) hc rfl
              rw [hr1] at this
              exact this
            · exact sd_pre hE S.1 hU hW
        | _ => cases hrc
theorem sd_callS (C : sd_X D K base b own cc ini nL d ce se p R s m args meth c) (hk : sd_K p l e R s m args below meth c Q D K base b G nL o ce se k) (hkm : ∀ pc L st M, k pc L st M = some o → M.1 <+: o.2.1) (hcl : sd_C l D K base b G d call) (S : sd_S D K base b G s nL o ce se L M ls H locs cells slots)
    {i : Instr} {ln x1 x2 x3 idx : Nat} {sw : List (Int × Nat)} (hd : decode cc pc = .ok (.invokestatic idx, 3)) (hchk : (match miL[x1]? with
      | some y => isW x3 (.methodLink own idx y.1) && Nat.beq y.2.2.2.2.1 0 && Nat.beq y.2.2.2.2.2.1 x2
      | none => false) = true) (h : am_inv k call (pc, i, ln, x1, x2, x3, sw) L st M = some o) :
    W p l e R s m args below meth c H locs cells slots Q (F0 m pc ls (st.map (cV base b))) := by
  cases hy : miL[x1]? with
  | none => rw [hy] at hchk; cases hchk
  | some y =>
    rw [hy] at hchk
    simp only [Bool.and_eq_true] at hchk
    obtain ⟨⟨w1, w2⟩, w3⟩ := hchk
    have w2' := Nat.eq_of_beq_eq_true w2
    have w3' := Nat.eq_of_beq_eq_true w3
    obtain ⟨mt, hmt, hI⟩ := mi_ok x1 y hy
    obtain ⟨yn, yb, yl, yr, yk, ya, ys⟩ := y
    dsimp only at w1 w2' w3'
    subst w2'
    simp only [chkI, Bool.and_eq_true, decide_eq_true_eq] at hI
    obtain ⟨⟨⟨⟨⟨⟨⟨⟨⟨⟨v1, v2⟩, ⟨v3, v5⟩⟩, v6⟩, v7⟩, v8⟩, v9⟩, v10⟩, v11⟩, v12⟩, v13⟩ := hI
    refine sd_inv C hk hkm hcl S hy w3' h fun o' d' hd' hlen hrev hf hM => ?_
    have hx := C.1
    have hE := C.2.2.2.2.2.1
    have hts := C.2.2.2.2.1
    refine ⟨_, va_runS (As := (st.take x2).reverse.map (cV base b)) (n := ya) ⟨hx, C.2.1, C.2.2.1, C.2.2.2.1, hts⟩ hM (va_cwS ya hts (good_sub fun w hw => ?_) rfl rfl rfl ⟨v7, v8, v5⟩ (sd_room C hd' (Nat.le_of_ble_eq_true v9))) ⟨am_Pc.blind, fun U hU hW => sd_pre hE S.1 hU hW⟩ rfl ?_ (sd_size S) ?_ (lv_room (by rw [cV_sum]; exact hlen)) hd hf⟩
    · rcases List.mem_append.mp hw with hw | hw
      · simp only [List.mem_cons, List.not_mem_nil, or_false] at hw
        rcases hw with rfl | rfl | rfl
        · exact isW_mem w1
        · exact isW_mem v3
        · exact isW_mem v2
      · rcases List.mem_cons.mp hw with rfl | hw
        · exact isW_mem v1
        · exact hw
    · rw [List.length_map]; exact hrev.trans w3'.symm
    · show st.map (cV base b) = _
      rw [List.map_reverse, List.reverse_reverse, ← List.map_append, List.take_append_drop]
theorem sd_callI (C : sd_X D K base b own cc ini nL d ce se p R s m args meth c) (hk : sd_K p l e R s m args below meth c Q D K base b G nL o ce se k) (hkm : ∀ pc L st M, k pc L st M = some o → M.1 <+: o.2.1) (hcl : sd_C l D K base b G d call) (S : sd_S D K base b G s nL o ce se L M ls H locs cells slots)
    {i : Instr} {ln x1 x2 x3 idx : Nat} {sw : List (Int × Nat)} (hd : decode cc pc = .ok (.invokespecial idx, 3)) (hchk : (match miL[x1]?, sw with
      | some y, q :: _ => (match q.1 with
        | 0 => isW x3 (.methodLink own idx y.1)
        | _ => nsL.any (fun z => decide (z.1 = own ∧ z.2.1 = idx ∧ z.2.2.1 = y.1))) && Nat.beq y.2.2.2.2.1 2 && Nat.beq y.2.2.2.2.2.1 x2
      | _, _ => false) = true) (hrc : am_recv M (pc, i, ln, x1, x2, x3, sw) st = true) (h : am_inv k call (pc, i, ln, x1, x2, x3, sw) L st M = some o) :
    W p l e R s m args below meth c H locs cells slots Q (F0 m pc ls (st.map (cV base b))) := by
  cases hy : miL[x1]? with
  | none => rw [hy] at hchk; cases hchk
  | some y =>
    cases sw with
    | nil => rw [hy] at hchk; cases hchk
    | cons z sw =>
      rw [hy] at hchk
      simp only [Bool.and_eq_true] at hchk
      obtain ⟨⟨w1, w2⟩, w3⟩ := hchk
      have w2' := Nat.eq_of_beq_eq_true w2
      have w3' := Nat.eq_of_beq_eq_true w3
      obtain ⟨mt, hmt, hI⟩ := mi_ok x1 y hy
      obtain ⟨yn, yb, yl, yr, yk, ya, ys⟩ := y
      dsimp only at w1 w2' w3'
      subst w2'
      simp only [chkI, Bool.and_eq_true, decide_eq_true_eq] at hI
      obtain ⟨⟨⟨⟨⟨⟨⟨⟨⟨⟨v1, v2⟩, ⟨⟨⟨v3, v4⟩, v14⟩, v5⟩⟩, v6⟩, v7⟩, v8⟩, v9⟩, v10⟩, v11⟩, v12⟩, v13⟩ := hI
      subst v14
      refine sd_inv C hk hkm hcl S hy w3' h fun o' d' hd' hlen hrev hf hM => ?_
      unfold am_recv at hrc
      dsimp only at hrc
      cases has : (st.take x2).reverse with
      | nil => rw [has] at hrc; cases hrc
      | cons w as =>
        rw [has] at hrc hrev hM
        cases w with
        | ref a =>
          have hx := C.1
          have hE := C.2.2.2.2.2.1
          have hts := C.2.2.2.2.1
          have hg : GoodIn wsG (sd_ws (yn, yb, yl, none, 2, ya, ys)) := good_sub fun w hw => by
            rcases List.mem_cons.mp hw with rfl | hw
            · exact isW_mem v1
            · exact hw
          have hpar : (parseMethodDescriptor yn.desc).map (fun d => d.parameters.length) = some as.length := by
            cases hp : parseMethodDescriptor yn.desc with
            | none => rw [hp] at v5; cases v5
            | some sg =>
              rw [hp] at v5
              have : sg.parameters.length + 1 = ya := Option.some.inj v5
              have h9 : as.length + 1 = x2 := hrev
              show some sg.parameters.length = some as.length
              congr 1
              omega
          have hpre : PreS s H (am_Pc D K base b G (.ref a :: as) M) (Value.ref (base + a) :: as.map (cV base b)) := ⟨am_Pc.blind, fun U hU hW => sd_pre (as := .ref a :: as) hE S.1 hU hW⟩
          have hnest : ∀ q, nsL.any (fun z => decide (z.1 = own ∧ z.2.1 = idx ∧ z.2.2.1 = yn)) = true → q = 0 → ∃ host, va_Nw (.methodLinkNest own idx yn host) s := by
            intro q hn _
            obtain ⟨z, hz, hz2⟩ := List.any_eq_true.mp hn
            obtain ⟨e1, e2, e3⟩ := of_decide_eq_true hz2
            have := hE.2.1 z hz
            rw [e1, e2, e3] at this
            exact ⟨_, this⟩
          by_cases hz : z.1 = 0
          · rw [hz] at w1
            exact ⟨_, va_runI (As := as.map (cV base b)) (b := base + a) (n := as.length) ⟨hx, C.2.1, C.2.2.1, C.2.2.2.1, hts⟩ hM (cwI as.length hts hg rfl rfl rfl (hts _ (isW_mem v2)) (hts _ (isW_mem w1)) (hts _ (isW_mem v3)) v4 ⟨v7, v8, hpar⟩ (sd_room C hd' (Nat.le_of_ble_eq_true v9))) hpre rfl (List.length_map ..) (sd_size S) (sd_stk has) (lv_room (by rw [cV_sum]; exact hlen)) hd hf⟩
          · have w1' : nsL.any (fun z => decide (z.1 = own ∧ z.2.1 = idx ∧ z.2.2.1 = yn)) = true := by
              split at w1
              · next h0 => exact absurd h0 hz
              · exact w1
            obtain ⟨host, hn⟩ := hnest 0 w1' rfl
            exact ⟨_, va_runIN (As := as.map (cV base b)) (b := base + a) (n := as.length) (host := host) ⟨hx, C.2.1, C.2.2.1, C.2.2.2.1, hts⟩ hM ⟨va_cnB as.length hts hg rfl rfl rfl hn (hts _ (isW_mem v2)) ⟨v7, v8, hpar⟩ (sd_room C hd' (Nat.le_of_ble_eq_true v9)), v4, hts _ (isW_mem v3)⟩ hpre rfl (List.length_map ..) (sd_size S) (sd_stk has) (lv_room (by rw [cV_sum]; exact hlen)) hd hf⟩
        | _ => cases hrc
/-- tableswitch -/
theorem am_sw_inv {f : Nat → Option Out_} {x : Int32} {dd : Nat} : ∀ {sw : List (Int × Nat)}, am_sw f x dd sw = some o → (∃ q ∈ sw, x = zI q.1 ∧ f q.2 = some o) ∨ ((∀ q ∈ sw, ¬ x = zI q.1) ∧ f dd = some o)
  | [], h => Or.inr ⟨fun q hq => (by cases hq), h⟩
  | r :: sw, h => by
    unfold am_sw at h
    split at h
    · next e => exact Or.inl ⟨r, List.mem_cons_self, e, h⟩
    · next e =>
      rcases am_sw_inv h with ⟨q, hq, h1, h2⟩ | ⟨h1, h2⟩
      · exact Or.inl ⟨q, List.mem_cons_of_mem _ hq, h1, h2⟩
      · refine Or.inr ⟨fun q hq => ?_, h2⟩
        rcases List.mem_cons.mp hq with rfl | hq
        · exact e
        · exact h1 q hq
theorem sd_switch (C : sd_X D K base b own cc ini nL d ce se p R s m args meth c) (hk : sd_K p l e R s m args below meth c Q D K base b G nL o ce se k) (S : sd_S D K base b G s nL o ce se L M ls H locs cells slots)
    {x1 ln : Nat} {sw : List (Int × Nat)} {dd lo hi : Int} {offs : Array Int} (hd : decode cc pc = .ok (.tableswitch dd lo hi offs, ln)) (hchk : (decide ((pc : Int) + dd = (x1 : Int)) && (sw.all fun q => decide (lo ≤ q.1 ∧ q.1 ≤ hi ∧ (zI q.1).toInt = q.1) && (match offs[(q.1 - lo).toNat]? with
      | some off => decide ((pc : Int) + off = (q.2 : Int))
      | none => false)) && ((List.range (hi - lo + 1).toNat).all fun j => sw.any fun q => decide (q.1 = lo + (j : Int)))) = true) {x : Int32} (h : am_sw (fun t => k t L q M) x x1 sw = some o) :
    W p l e R s m args below meth c H locs cells slots Q (F0 m pc ls ((Value.int x :: q).map (cV base b))) := by
  have hx := C.1
  have hb := C.2.1
  simp only [Bool.and_eq_true, decide_eq_true_eq, List.all_eq_true] at hchk
  obtain ⟨⟨c1, c2⟩, c3⟩ := hchk
  rcases am_sw_inv h with ⟨z, hz, e1, h⟩ | ⟨hn, h⟩
  · obtain ⟨⟨d1, d2, d3⟩, d4⟩ := c2 z hz
    cases ho : offs[(z.1 - lo).toNat]? with
    | none => rw [ho] at d4; cases d4
    | some off =>
      rw [ho] at d4
      have ht : (pc : Int) + off = (z.2 : Int) := of_decide_eq_true d4
      have ex : x.toInt = z.1 := by rw [e1, d3]
      exact lv_tableIn hx hb hd (by omega) (by omega) (by rw [ex]; exact ho) ht (hk _ _ _ _ _ _ _ _ _ h S)
  · refine lv_tableOut hx hb hd ?_ c1 (hk _ _ _ _ _ _ _ _ _ h S)
    by_cases h1 : x.toInt < lo
    · exact Or.inl h1
    · by_cases h2 : hi < x.toInt
      · exact Or.inr h2
      · exfalso
        have hj : (x.toInt - lo).toNat < (hi - lo + 1).toNat := by omega
        obtain ⟨z, hz, e⟩ := List.any_eq_true.mp (c3 _ (List.mem_range.mpr hj))
        have e := of_decide_eq_true e
        refine hn z hz ?_
        have : z.1 = x.toInt := by rw [e]; omega
        rw [this]
        exact (Int32.ofInt_toInt x).symm
end SDC
