/-! SOUNDNESS: one instruction, and the run -/
section SDM
variable {p : Program} {l : Launch} {e : Env} {R : Room} {s : State} {m : MethodId} {args : Array Value} {below : List Frame} {meth : Method} {c : Code} {Q : State → Prop}
variable {D : va_G} {K : Nat → ClassId} {base b : Nat} {G : Nat × (Nat → Int32)} {own : String} {cc : ByteArray} {ini : Bool} {nL d r : Nat} {o : Out_} {ce se : Nat}
variable {k : Kn_} {call : Nat → List Value → Mm_ → Option Out_} {nat : Bool} {pc ln x1 x2 x3 : Nat} {sw : List (Int × Nat)} {L : List (Option Value)} {st : List Value} {M : Mm_} {ls : Array Slot} {H : Heap} {locs : List Loc} {cells slots : Nat}
theorem sd_set {i : Nat} {v : Value} {ls' : Array Slot} (S : sd_S D K base b G s nL o ce se L M ls H locs cells slots) (h : sd_L base b nL (L.set i (some v)) ls') : sd_S D K base b G s nL o ce se (L.set i (some v)) M ls' H locs cells slots :=
  ⟨S.1, S.2.1, h, S.2.2.2.1, S.2.2.2.2⟩
theorem am_ld_inv {i n : Nat} {j : Instr} (h : am_ld k i n (pc, j, ln, x1, x2, x3, sw) L st M = some o) : ∃ x, L[i]? = some (some (.int x)) ∧ k (pc + n) L (.int x :: st) M = some o := by
  unfold am_ld at h
  split at h
  · next x hx => exact ⟨x, hx, h⟩
  · cases h
theorem am_ldA_inv {i n : Nat} {j : Instr} (h : am_ldA k i n (pc, j, ln, x1, x2, x3, sw) L st M = some o) : ∃ v x, L[i]? = some (some v) ∧ cV base b v = .ref x ∧ k (pc + n) L (v :: st) M = some o := by
  unfold am_ldA at h
  split at h
  · next x hx => exact ⟨_, base + x, hx, rfl, h⟩
  · next x hx => exact ⟨_, b, hx, rfl, h⟩
  · cases h
theorem am_stI_inv {i n : Nat} {j : Instr} (h : am_stI k i n (pc, j, ln, x1, x2, x3, sw) L st M = some o) : ∃ x q, st = .int x :: q ∧ i < L.length ∧ k (pc + n) (L.set i (some (.int x))) q M = some o := by
  obtain ⟨x, q, rfl, h⟩ := sI_inv h
  obtain ⟨h1, h⟩ := cond_inv h
  exact ⟨x, q, rfl, Nat.le_of_ble_eq_true h1, h⟩
theorem am_stA_inv {i n : Nat} {j : Instr} (h : am_stA k i n (pc, j, ln, x1, x2, x3, sw) L st M = some o) : ∃ x q, st = .ref x :: q ∧ i < L.length ∧ k (pc + n) (L.set i (some (.ref x))) q M = some o := by
  obtain ⟨x, q, rfl, h⟩ := sR_inv h
  obtain ⟨h1, h⟩ := cond_inv h
  exact ⟨x, q, rfl, Nat.le_of_ble_eq_true h1, h⟩
theorem sd_bin {f : Int32 → Int32 → Int32} {j : Instr} (h : am_bin k f (pc, j, ln, x1, x2, x3, sw) L st M = some o) : ∃ x y q, st = .int y :: .int x :: q ∧ k (pc + 1) L (.int (f x y) :: q) M = some o := sII_inv h
theorem am_ite {P : Prop} {hP : Decidable P} {u v : Option Out_} (h : (if P then u else v) = some o) : (P → u = some o) ∧ (¬ P → v = some o) := by
  split at h
  · next q => exact ⟨fun _ => h, fun n => absurd q n⟩
  · next q => exact ⟨fun n => absurd n q, fun _ => h⟩
set_option maxHeartbeats 4000000 in
theorem sd_step {i : Instr} (C : sd_X D K base b own cc ini nL d ce se p R s m args meth c) (hk : sd_K p l e R s m args below meth c Q D K base b G nL o ce se k) (hkm : ∀ pc L st M, k pc L st M = some o → M.1 <+: o.2.1) (hcl : sd_C l D K base b G d call) (hnat : nat = true → ∃ d', d = d' + 1)
    (hrt : sd_Rt p l e R s m args below meth c Q D K base b G cc r o ce se) (hchk : chkE own cc ini (pc, i, ln, x1, x2, x3, sw) = true) (S : sd_S D K base b G s nL o ce se L M ls H locs cells slots)
    (h : am_step G r k call nat (pc, i, ln, x1, x2, x3, sw) L st M = some o) : W p l e R s m args below meth c H locs cells slots Q (F0 m pc ls (st.map (cV base b))) := by
  have hx := C.1
  have hb := C.2.1
  have hE := C.2.2.2.2.2.1
  have hts := C.2.2.2.2.1
  have hown := C.2.2.2.1
  have hbb := C.2.2.2.2.2.2.1
  unfold chkE at hchk
  simp only [Bool.and_eq_true, decide_eq_true_eq] at hchk
  obtain ⟨⟨hd, hln⟩, hc⟩ := hchk
  have hR := S.1
  obtain ⟨hLl, lv, hlv, hcat, hmem⟩ := S.2.2.1
  have store : ∀ (v : Value) (j : Nat) (ls' : Array Slot), lv_has ls' nL ((j, cV base b v) :: lv.filter (fun q => !(q.1 == j) && !(q.1 + 1 == j && q.2.category == 2))) → sd_S D K base b G s nL o ce se (L.set j (some v)) M ls' H locs cells slots := fun v j ls' hh => sd_set S (sd_L.put hLl hcat hmem hh)
  cases i with
  | iconst n =>
    obtain rfl : ln = 1 := Nat.eq_of_beq_eq_true hln
    exact lv_iconst hx hb hd rfl (hk _ _ _ _ _ _ _ _ _ h S)
  | bipush n =>
    obtain rfl : ln = 2 := Nat.eq_of_beq_eq_true hln
    exact lv_bipush hx hb hd (of_decide_eq_true hc) (hk _ _ _ _ _ _ _ _ _ h S)
  | sipush n =>
    obtain rfl : ln = 3 := Nat.eq_of_beq_eq_true hln
    exact lv_sipush hx hb hd (of_decide_eq_true hc) (hk _ _ _ _ _ _ _ _ _ h S)
  | ldc n =>
    obtain rfl : ln = 2 := Nat.eq_of_beq_eq_true hln
    cases sw with
    | nil => cases hc
    | cons z sw => exact lv_ldc hx hb hown (hts _ (isW_mem hc)) hd (hk _ _ _ _ _ _ _ _ _ h S)
  | iload n =>
    obtain rfl : ln = 2 := Nat.eq_of_beq_eq_true hln
    obtain ⟨x, h1, h⟩ := am_ld_inv h
    exact lv_iload hx hb hd (S.2.2.1.get h1) (hk _ _ _ _ _ _ _ _ _ h S)
  | iload_n n =>
    obtain rfl : ln = 1 := Nat.eq_of_beq_eq_true hln
    obtain ⟨x, h1, h⟩ := am_ld_inv h
    exact lv_iload_n hx hb hd rfl (S.2.2.1.get h1) (hk _ _ _ _ _ _ _ _ _ h S)
  | aload n =>
    obtain rfl : ln = 2 := Nat.eq_of_beq_eq_true hln
    obtain ⟨v, x, h1, h2, h⟩ := am_ldA_inv (base := base) (b := b) h
    have hh := hk _ _ _ _ _ _ _ _ _ h S
    rw [List.map_cons, h2] at hh
    exact lv_aload hx hb hd (by rw [S.2.2.1.get h1, h2]) hh
  | aload_n n =>
    obtain rfl : ln = 1 := Nat.eq_of_beq_eq_true hln
    obtain ⟨v, x, h1, h2, h⟩ := am_ldA_inv (base := base) (b := b) h
    have hh := hk _ _ _ _ _ _ _ _ _ h S
    rw [List.map_cons, h2] at hh
    exact lv_aload_n hx hb hd rfl (by rw [S.2.2.1.get h1, h2]) hh
  | istore n =>
    obtain rfl : ln = 2 := Nat.eq_of_beq_eq_true hln
    obtain ⟨x, q, rfl, h1, h⟩ := am_stI_inv h
    exact lv_istore hx hb hd hlv (by omega) rfl fun ls' hh => hk _ _ _ _ _ _ _ _ _ h (store (.int x) _ ls' hh)
  | istore_n n =>
    obtain rfl : ln = 1 := Nat.eq_of_beq_eq_true hln
    obtain ⟨x, q, rfl, h1, h⟩ := am_stI_inv h
    exact lv_istore_n hx hb hd rfl hlv (by omega) rfl fun ls' hh => hk _ _ _ _ _ _ _ _ _ h (store (.int x) _ ls' hh)
  | astore n =>
    obtain rfl : ln = 2 := Nat.eq_of_beq_eq_true hln
    obtain ⟨x, q, rfl, h1, h⟩ := am_stA_inv h
    exact lv_astore hx hb hd hlv (by omega) rfl fun ls' hh => hk _ _ _ _ _ _ _ _ _ h (store (.ref x) _ ls' hh)
  | astore_n n =>
    obtain rfl : ln = 1 := Nat.eq_of_beq_eq_true hln
    obtain ⟨x, q, rfl, h1, h⟩ := am_stA_inv h
    exact lv_astore_n hx hb hd rfl hlv (by omega) rfl fun ls' hh => hk _ _ _ _ _ _ _ _ _ h (store (.ref x) _ ls' hh)
  | iinc n z =>
    obtain rfl : ln = 3 := Nat.eq_of_beq_eq_true hln
    have h : am_iinc k n z (pc, .iinc n z, 3, x1, x2, x3, sw) L st M = some o := h
    unfold am_iinc at h
    split at h
    · next x h1 =>
      obtain ⟨t, ht⟩ := List.getElem?_of_mem (hmem _ _ h1)
      have hlt := (List.getElem?_eq_some_iff.mp h1).1
      exact lv_iinc hx hb hd hlv ht rfl (by omega) rfl fun ls' hh => hk _ _ _ _ _ _ _ _ _ h (store (.int (x + zI z)) _ ls' hh)
    · cases h
  | iadd =>
    obtain rfl : ln = 1 := Nat.eq_of_beq_eq_true hln
    obtain ⟨x, y, q, rfl, h⟩ := sd_bin h
    exact lv_iadd hx hb hd (hk _ _ _ _ _ _ _ _ _ h S)
  | isub =>
    obtain rfl : ln = 1 := Nat.eq_of_beq_eq_true hln
    obtain ⟨x, y, q, rfl, h⟩ := sd_bin h
    exact lv_isub hx hb hd (hk _ _ _ _ _ _ _ _ _ h S)
  | imul =>
    obtain rfl : ln = 1 := Nat.eq_of_beq_eq_true hln
    obtain ⟨x, y, q, rfl, h⟩ := sd_bin h
    exact lv_imul hx hb hd (hk _ _ _ _ _ _ _ _ _ h S)
  | iand =>
    obtain rfl : ln = 1 := Nat.eq_of_beq_eq_true hln
    obtain ⟨x, y, q, rfl, h⟩ := sd_bin h
    exact lv_iand hx hb hd (hk _ _ _ _ _ _ _ _ _ h S)
  | ior =>
    obtain rfl : ln = 1 := Nat.eq_of_beq_eq_true hln
    obtain ⟨x, y, q, rfl, h⟩ := sd_bin h
    exact lv_ior hx hb hd (hk _ _ _ _ _ _ _ _ _ h S)
  | ishl =>
    obtain rfl : ln = 1 := Nat.eq_of_beq_eq_true hln
    obtain ⟨x, y, q, rfl, h⟩ := sd_bin h
    exact lv_ishl hx hb hd (hk _ _ _ _ _ _ _ _ _ h S)
  | ishr =>
    obtain rfl : ln = 1 := Nat.eq_of_beq_eq_true hln
    obtain ⟨x, y, q, rfl, h⟩ := sd_bin h
    exact lv_ishr hx hb hd (hk _ _ _ _ _ _ _ _ _ h S)
  | iushr =>
    obtain rfl : ln = 1 := Nat.eq_of_beq_eq_true hln
    obtain ⟨x, y, q, rfl, h⟩ := sd_bin h
    exact lv_iushr hx hb hd rfl (hk _ _ _ _ _ _ _ _ _ h S)
  | i2s =>
    obtain rfl : ln = 1 := Nat.eq_of_beq_eq_true hln
    obtain ⟨x, q, rfl, h⟩ := sI_inv h
    exact lv_i2s hx hb hd rfl (hk _ _ _ _ _ _ _ _ _ h S)
  | dup =>
    obtain rfl : ln = 1 := Nat.eq_of_beq_eq_true hln
    have h : am_dup k (pc, .dup, 1, x1, x2, x3, sw) L st M = some o := h
    unfold am_dup at h
    split at h
    · exact lv_dup hx hb hd rfl (hk _ _ _ _ _ _ _ _ _ h S)
    · exact lv_dup hx hb hd rfl (hk _ _ _ _ _ _ _ _ _ h S)
    · cases h
  | dup2 =>
    obtain rfl : ln = 1 := Nat.eq_of_beq_eq_true hln
    obtain ⟨x, a, q, rfl, h⟩ := sIR_inv h
    exact lv_dup2_11 hx hb hd rfl rfl (hk _ _ _ _ _ _ _ _ _ h S)
  | pop =>
    obtain rfl : ln = 1 := Nat.eq_of_beq_eq_true hln
    obtain ⟨x, q, rfl, h⟩ := sI_inv h
    exact lv_pop hx hb hd rfl (hk _ _ _ _ _ _ _ _ _ h S)
  | goto n =>
    obtain rfl : ln = 3 := Nat.eq_of_beq_eq_true hln
    exact lv_goto hx hb hd (of_decide_eq_true hc) (hk _ _ _ _ _ _ _ _ _ h S)
  | ifCond z n =>
    obtain rfl : ln = 3 := Nat.eq_of_beq_eq_true hln
    have ht := of_decide_eq_true hc
    obtain ⟨x, q, rfl, h⟩ := sI_inv h
    cases z with
    | eq => exact lv_if_eq hx hb hd ht (fun g => hk _ _ _ _ _ _ _ _ _ ((am_ite h).1 g) S) (fun g => hk _ _ _ _ _ _ _ _ _ ((am_ite h).2 g) S)
    | ne => exact lv_if_ne hx hb hd ht (fun g => hk _ _ _ _ _ _ _ _ _ ((am_ite h).2 g) S) (fun g => hk _ _ _ _ _ _ _ _ _ ((am_ite h).1 g) S)
    | lt => exact lv_if_lt hx hb hd ht (fun g => hk _ _ _ _ _ _ _ _ _ ((am_ite h).1 g) S) (fun g => hk _ _ _ _ _ _ _ _ _ ((am_ite h).2 g) S)
    | ge => exact lv_if_ge hx hb hd ht (fun g => hk _ _ _ _ _ _ _ _ _ ((am_ite h).2 (Int32.not_lt.mpr g)) S) (fun g => hk _ _ _ _ _ _ _ _ _ ((am_ite h).1 (Int32.not_le.mp g)) S)
    | gt => exact lv_if_gt hx hb hd ht (fun g => hk _ _ _ _ _ _ _ _ _ ((am_ite h).1 g) S) (fun g => hk _ _ _ _ _ _ _ _ _ ((am_ite h).2 g) S)
    | le => exact lv_if_le hx hb hd ht (fun g => hk _ _ _ _ _ _ _ _ _ ((am_ite h).2 (Int32.not_lt.mpr g)) S) (fun g => hk _ _ _ _ _ _ _ _ _ ((am_ite h).1 (Int32.not_le.mp g)) S)
  | if_icmp z n =>
    obtain rfl : ln = 3 := Nat.eq_of_beq_eq_true hln
    have ht := of_decide_eq_true hc
    obtain ⟨x, y, q, rfl, h⟩ := sII_inv h
    cases z with
    | eq => exact lv_icmp_eq hx hb hd ht (fun g => hk _ _ _ _ _ _ _ _ _ ((am_ite h).1 g) S) (fun g => hk _ _ _ _ _ _ _ _ _ ((am_ite h).2 g) S)
    | ne => exact lv_icmp_ne hx hb hd ht (fun g => hk _ _ _ _ _ _ _ _ _ ((am_ite h).2 g) S) (fun g => hk _ _ _ _ _ _ _ _ _ ((am_ite h).1 g) S)
    | lt => exact lv_icmp_lt hx hb hd ht (fun g => hk _ _ _ _ _ _ _ _ _ ((am_ite h).1 g) S) (fun g => hk _ _ _ _ _ _ _ _ _ ((am_ite h).2 g) S)
    | ge => exact lv_icmp_ge hx hb hd ht (fun g => hk _ _ _ _ _ _ _ _ _ ((am_ite h).2 (Int32.not_lt.mpr g)) S) (fun g => hk _ _ _ _ _ _ _ _ _ ((am_ite h).1 (Int32.not_le.mp g)) S)
    | gt => exact lv_icmp_gt hx hb hd ht (fun g => hk _ _ _ _ _ _ _ _ _ ((am_ite h).1 g) S) (fun g => hk _ _ _ _ _ _ _ _ _ ((am_ite h).2 g) S)
    | le => exact lv_icmp_le hx hb hd ht (fun g => hk _ _ _ _ _ _ _ _ _ ((am_ite h).2 (Int32.not_lt.mpr g)) S) (fun g => hk _ _ _ _ _ _ _ _ _ ((am_ite h).1 (Int32.not_le.mp g)) S)
  | tableswitch a1 a2 a3 a4 =>
    obtain ⟨x, q, rfl, h⟩ := sI_inv h
    exact sd_switch C hk S hd hc h
  | getfield n =>
    obtain rfl : ln = 3 := Nat.eq_of_beq_eq_true hln
    obtain ⟨a, q, rfl, h⟩ := sR_inv h
    obtain ⟨h1, h⟩ := cond_inv h
    exact sd_getf C hk hc hd S h1 h
  | putfield n =>
    obtain rfl : ln = 3 := Nat.eq_of_beq_eq_true hln
    have h : am_put k (pc, .putfield n, 3, x1, x2, x3, sw) L st M = some o := h
    have hcls : ∀ {a : Nat}, am_okO M a x1 = true → x2 < nfT x1 := by
      intro a _
      have hc : (match cls_[x1]? with
        | some q => decide (x2 < q.2.2) && decide ((q.2.1 x2).1 = q.1) && isW x3 (.fieldLink own n q.1 (q.2.1 x2).2.1 (q.2.1 x2).2.2.1) && (!(q.2.1 x2).2.2.2 || (ini && decide (q.1 = own)))
        | none => false) = true := hc
      cases hq : cls_[x1]? with
      | none => rw [hq] at hc; cases hc
      | some q =>
        rw [hq] at hc
        simp only [Bool.and_eq_true, decide_eq_true_eq] at hc
        simp only [nfT, hq, Option.map_some, Option.getD_some]
        exact hc.1.1.1
    unfold am_put at h
    split at h
    · next x a q _ =>
      obtain ⟨h1, h⟩ := cond_inv h
      unfold am_okP at h1
      rw [Bool.and_eq_true] at h1
      have hf : fkT x1 x2 = 0 := by
        have := Nat.eq_of_beq_eq_true h1.2
        dsimp only at this
        omega
      have hj := hcls h1.1
      refine sd_putf C hk hc hd S (v := .int x) (M' := am_setI M a x2 x) (am_okO_of h1.1) rfl (fun q hq => ?_) (fun q hq => rfl) (fun t ht => ?_) (yT_int hj hf x) h
      · funext t; simp [am_setI, up2, hq]
      · by_cases et : t = x2
        · subst et; simp [cF, hf, am_setI, up2, cV]
        · simp [cF, am_setI, up2, et]
    · next v a q _ =>
      obtain ⟨h1, h⟩ := cond_inv h
      unfold am_okP at h1
      rw [Bool.and_eq_true] at h1
      have hf : ¬ fkT x1 x2 = 0 := by
        have := Nat.eq_of_beq_eq_true h1.2
        dsimp only at this
        omega
      have hj := hcls h1.1
      refine sd_putf C hk hc hd S (v := .ref v) (M' := am_setR M a x2 v) (am_okO_of h1.1) rfl (fun q hq => rfl) (fun q hq => ?_) (fun t ht => ?_) (yT_ref hj hf (base + v)) h
      · funext t; simp [am_setR, up2, hq]
      · by_cases et : t = x2
        · subst et; simp [cF, hf, am_setR, up2, cV, cR, va_rf]
        · simp [cF, am_setR, up2, et]
    · cases h
  | iaload =>
    obtain rfl : ln = 1 := Nat.eq_of_beq_eq_true hln
    have h : am_iald G k (pc, .iaload, 1, x1, x2, x3, sw) L st M = some o := h
    unfold am_iald at h
    split at h
    · next j a q _ =>
      obtain ⟨h1, h⟩ := cond_inv h
      obtain ⟨n, ha, hi⟩ := am_okA_of h1
      exact va_iald (n := n) (f := M.2.1 a) hx hb hE.1 (hR.one ha) 0 0 rfl rfl (am_in_of hi) hd (hk _ _ _ _ _ _ _ _ _ h S)
    · next j z q _ =>
      obtain ⟨h1, h⟩ := cond_inv h
      exact va_sld (A := fun q => base ≤ q) (H0 := H) hx hb hR.2.2 (by rw [hR.1]; omega) (by omega) ⟨Nat.le_refl _, fun _ _ _ => rfl, S.2.1⟩ (am_in_of h1) hd (hk _ _ _ _ _ _ _ _ _ h S)
    · cases h
  | baload =>
    obtain rfl : ln = 1 := Nat.eq_of_beq_eq_true hln
    obtain ⟨j, a, q, rfl, h⟩ := sIR_inv h
    obtain ⟨h1, h⟩ := cond_inv h
    obtain ⟨n, ha, hi⟩ := am_okA_of h1
    exact va_zald (n := n) (f := M.2.1 a) hx hb hE.1 (hR.one ha) 0 1 rfl rfl (am_in_of hi) hd (hk _ _ _ _ _ _ _ _ _ h S)
  | aaload =>
    obtain rfl : ln = 1 := Nat.eq_of_beq_eq_true hln
    obtain ⟨j, a, q, rfl, h⟩ := sIR_inv h
    obtain ⟨h1, h⟩ := cond_inv h
    obtain ⟨t, n, tj, ha, hkq, hi⟩ := am_okQ_of h1
    obtain ⟨hs, h⟩ := cond_inv h
    obtain ⟨z, hz⟩ := Option.isSome_iff_exists.mp hs
    rw [hz] at h
    obtain ⟨ci, rfl⟩ : ∃ ci, t = ci + 2 := kq_two hkq
    obtain ⟨rr, hc', hty⟩ := kq_ok K hkq
    refine va_aldq (n := n) (f := fun t => cR base (M.2.2 a t)) hx hb hE.1 (hR.one ha) 0 tj rfl hty (am_in_of hi) hd ?_
    have e1 : va_rf (cR base (M.2.2 a j.toNatClampNeg)) = cV base b (.ref z) := by rw [hz]; rfl
    rw [e1]
    exact hk _ _ _ _ _ _ _ _ _ h S
  | iastore =>
    obtain rfl : ln = 1 := Nat.eq_of_beq_eq_true hln
    obtain ⟨x, j, a, q, rfl, h⟩ := sIIR_inv h
    obtain ⟨h1, h⟩ := cond_inv h
    exact sd_iast C hk hd S h1 h
  | bastore =>
    obtain rfl : ln = 1 := Nat.eq_of_beq_eq_true hln
    obtain ⟨x, j, a, q, rfl, h⟩ := sIIR_inv h
    obtain ⟨h1, h⟩ := cond_inv h
    exact sd_zast C hk hd S h1 h
  | aastore =>
    obtain rfl : ln = 1 := Nat.eq_of_beq_eq_true hln
    obtain ⟨v, j, a, q, rfl, h⟩ := sRIR_inv h
    obtain ⟨h1, h⟩ := cond_inv h
    exact sd_aast C hk hd S h1 h
  | arraylength =>
    obtain rfl : ln = 1 := Nat.eq_of_beq_eq_true hln
    have h : am_alen G k (pc, .arraylength, 1, x1, x2, x3, sw) L st M = some o := h
    unfold am_alen at h
    split at h
    · next a q _ =>
      obtain ⟨hs, h⟩ := cond_inv h
      obtain ⟨n, h1⟩ := Option.isSome_iff_exists.mp hs
      rw [h1] at h
      obtain ⟨t, ha, ht⟩ := am_len_of h1
      have hh := hk _ _ _ _ _ _ _ _ _ h S
      rcases ht with rfl | rfl | ⟨tj, hkq⟩
      · exact va_alen (x := (n, .inl (M.2.1 a))) hx hb hE.1 (hR.one ha) 0 0 rfl rfl Int32.ofInt_eq_ofNat.symm hd hh
      · exact va_alen (x := (n, .inl (M.2.1 a))) hx hb hE.1 (hR.one ha) 0 1 rfl rfl Int32.ofInt_eq_ofNat.symm hd hh
      · obtain ⟨ci, rfl⟩ : ∃ ci, t = ci + 2 := kq_two hkq
        obtain ⟨rr, hc', hty⟩ := kq_ok K hkq
        exact va_alen (x := (n, .inr (.inr (.inr (.inr (fun t => cR base (M.2.2 a t))))))) hx hb hE.1 (hR.one ha) 0 tj rfl hty Int32.ofInt_eq_ofNat.symm hd hh
    · next z q _ =>
      have hh := hk _ _ _ _ _ _ _ _ _ h S
      rw [List.map_cons, show cV base b (.int (zI (G.1 : Int))) = .int (Int32.ofNat G.1) from congrArg Value.int Int32.ofInt_eq_ofNat] at hh
      exact va_slen (A := fun q => base ≤ q) (H0 := H) hx hb hR.2.2 (by rw [hR.1]; omega) (by omega) ⟨Nat.le_refl _, fun _ _ _ => rfl, S.2.1⟩ hd hh
    · cases h
  | new n =>
    obtain rfl : ln = 3 := Nat.eq_of_beq_eq_true hln
    exact sd_new C hk hkm hc hd S h
  | newarray t =>
    obtain rfl : ln = 2 := Nat.eq_of_beq_eq_true hln
    obtain ⟨x, q, rfl, h⟩ := sI_inv h
    obtain ⟨h1, h⟩ := cond_inv h
    exact sd_newa C hk hkm hc hd S h1 h
  | anewarray n =>
    obtain rfl : ln = 3 := Nat.eq_of_beq_eq_true hln
    obtain ⟨x, q, rfl, h⟩ := sI_inv h
    obtain ⟨h1, h⟩ := cond_inv h
    exact sd_anew C hk hkm hc hd S h1 h
  | invokevirtual n =>
    obtain rfl : ln = 3 := Nat.eq_of_beq_eq_true hln
    obtain ⟨h1, h⟩ := cond_inv h
    exact sd_callV C hk hkm hcl S hd hc h1 h
  | invokespecial n =>
    obtain rfl : ln = 3 := Nat.eq_of_beq_eq_true hln
    have h : cond (Nat.beq x1 900) (sR st fun _ q => cond (nat && Nat.ble q.length 8) (k (pc + 3) L q M) none) (cond (am_recv M (pc, .invokespecial n, 3, x1, x2, x3, sw) st) (am_inv k call (pc, .invokespecial n, 3, x1, x2, x3, sw) L st M) none) = some o := h
    have hc : cond (Nat.beq x1 900) (isW x3 (.methodLink own n Lib.objectInit) && Nat.beq x2 1) _ = true := hc
    cases e9 : Nat.beq x1 900 with
    | true =>
      rw [e9] at h hc
      obtain ⟨a, q, rfl, h⟩ := sR_inv h
      obtain ⟨h1, h⟩ := cond_inv h
      rw [Bool.and_eq_true] at h1
      obtain ⟨d', hd'⟩ := hnat h1.1
      have hq := Nat.le_of_ble_eq_true h1.2
      have hc : (isW x3 (.methodLink own n Lib.objectInit) && Nat.beq x2 1) = true := hc
      rw [Bool.and_eq_true] at hc
      have hfr := C.2.2.2.2.2.2.2.2.1
      have hlo := C.2.2.2.2.2.2.2.2.2.1
      refine W.objInit hx hb hown (hts _ (isW_mem hc.1)) (hts _ (isW_mem ok_objI)) (hts _ (isW_mem ok_objC)) rfl ((sd_size S).trans C.2.2.1.symm) rfl hd (by omega) ?_ (hk _ _ _ _ _ _ _ _ _ h S)
      show 2 * 0 + ((q.map (cV base b)).map fun v => v.category).sum + 12 ≤ R.locals
      rw [cV_sum]
      omega
    | false =>
      rw [e9] at h hc
      obtain ⟨h1, h⟩ := cond_inv h
      exact sd_callI C hk hkm hcl S hd hc h1 h
  | invokestatic n =>
    obtain rfl : ln = 3 := Nat.eq_of_beq_eq_true hln
    have h : cond (Nat.beq x1 901) (am_cpy k nat (pc, .invokestatic n, 3, x1, x2, x3, sw) L st M) (am_inv k call (pc, .invokestatic n, 3, x1, x2, x3, sw) L st M) = some o := h
    have hc : cond (Nat.beq x1 901) (isW x3 (.methodLink own n arraycopyName)) (match miL[x1]? with
      | some y => isW x3 (.methodLink own n y.1) && Nat.beq y.2.2.2.2.1 0 && Nat.beq y.2.2.2.2.2.1 x2
      | none => false) = true := hc
    cases e9 : Nat.beq x1 901 with
    | true =>
      rw [e9] at h hc
      have h : am_cpy k nat (pc, .invokestatic n, 3, x1, x2, x3, sw) L st M = some o := h
      have hc : isW x3 (.methodLink own n arraycopyName) = true := hc
      unfold am_cpy at h
      split at h
      · obtain ⟨h1, h⟩ := cond_inv h
        simp only [Bool.and_eq_true] at h1
        obtain ⟨d', rfl⟩ := hnat h1.1.1
        exact sd_copy C hk hc hd S (Nat.le_of_ble_eq_true h1.1.2) h1.2 h
      · cases h
    | false =>
      rw [e9] at h hc
      exact sd_callS C hk hkm hcl S hd hc h
  | ireturn =>
    obtain rfl : ln = 1 := Nat.eq_of_beq_eq_true hln
    have h : am_iret r st M = some o := h
    unfold am_iret at h
    split at h
    · next x _ =>
      obtain ⟨h1, h⟩ := cond_inv h
      have h := Option.some.inj h
      subst h
      have h4 := S.2.2.2.1
      have h5 := S.2.2.2.2
      dsimp only at h4 h5
      have c1 : cells = ce := by omega
      have c2 : slots = se := by omega
      subst c1
      subst c2
      refine ((hrt pc ls H locs hR S.2.1).2 hd x rfl ?_)
      rw [Bool.or_eq_true, Bool.and_eq_true] at h1
      rcases h1 with h1 | h1
      · exact Or.inl (Nat.eq_of_beq_eq_true h1)
      · exact Or.inr ⟨Nat.eq_of_beq_eq_true h1.1, h1.2⟩
    · cases h
  | return_ =>
    obtain rfl : ln = 1 := Nat.eq_of_beq_eq_true hln
    have h : am_vret r st M = some o := h
    unfold am_vret at h
    split at h
    · obtain ⟨h1, h⟩ := cond_inv h
      have h := Option.some.inj h
      subst h
      have h4 := S.2.2.2.1
      have h5 := S.2.2.2.2
      dsimp only at h4 h5
      have c1 : cells = ce := by omega
      have c2 : slots = se := by omega
      subst c1
      subst c2
      exact (hrt pc ls H locs hR S.2.1).1 hd (Nat.eq_of_beq_eq_true h1) rfl
    · cases h
  | _ =>
    have h : (none : Option Out_) = some o := h
    cases h
end SDM
theorem am_fd_mem {pc : Nat} {en : En_} : ∀ {code : List En_}, am_fd pc code = some en → en ∈ code ∧ en.1 = pc
  | [], h => by cases h
  | x :: r, h => by
    unfold am_fd at h
    cases e : Nat.beq x.1 pc with
    | true =>
      rw [e] at h
      cases h
      exact ⟨List.mem_cons_self, Nat.eq_of_beq_eq_true e⟩
    | false =>
      rw [e] at h
      obtain ⟨h1, h2⟩ := am_fd_mem h
      exact ⟨List.mem_cons_of_mem _ h1, h2⟩
/-- THE SOUNDNESS: what the abstract machine answers, the machine does -/
theorem sd_run (l : Launch) (D : va_G) (K : Nat → ClassId) (base b : Nat) (G : Nat × (Nat → Int32)) (hbb : b < base) : ∀ (n d : Nat) (mt : Mt_) (pc : Nat) (L : List (Option Value)) (st : List Value) (M : Mm_) (o : Out_), am_run G n d mt pc L st M = some o →
    ∀ (p : Program) (e : Env) (R : Room) (s : State) (m : MethodId) (args : Array Value) (below : List Frame) (meth : Method) (c : Code) (Q : State → Prop) (own : String) (cc : ByteArray) (ini : Bool) (nL ce se : Nat) (ls : Array Slot) (H : Heap) (locs : List Loc) (cells slots : Nat),
      chkM own cc ini mt.1 = true → sd_X D K base b own cc ini nL d ce se p R s m args meth c → sd_Rt p l e R s m args below meth c Q D K base b G cc mt.2 o ce se → sd_S D K base b G s nL o ce se L M ls H locs cells slots →
      W p l e R s m args below meth c H locs cells slots Q (F0 m pc ls (st.map (cV base b))) := by
  intro n
  induction n with
  | zero => intro d mt pc L st M o h; cases h
  | succ n ih =>
    intro d mt pc L st M o h p e R s m args below meth c Q own cc ini nL ce se ls H locs cells slots hchk C hrt S
    obtain ⟨⟨pc', i, ln, x1, x2, x3, sw⟩, hfd, h2⟩ := Option.bind_eq_some_iff.mp h
    obtain ⟨hmem, hpc⟩ := am_fd_mem hfd
    dsimp only at hpc
    subst hpc
    refine sd_step (d := d) C (fun pc L st M ls H locs cells slots h S => ih _ _ _ _ _ _ _ h _ _ _ _ _ _ _ _ _ _ _ _ _ _ _ _ _ _ _ _ _ hchk C hrt S) (fun pc L st M h => am_run_mono _ _ _ _ _ _ _ _ h) ?_ (fun hn => ?_) hrt (List.all_eq_true.mp hchk _ hmem) S h2
    · intro y as M1 o1 q hc hq hlen
      cases d with
      | zero => cases hc
      | succ d =>
        obtain ⟨mt1, hmt1, hc⟩ := Option.bind_eq_some_iff.mp hc
        refine ⟨am_run_mono _ _ _ _ _ _ _ _ hc, d, rfl, ?_⟩
        have hpre := am_run_mono _ _ _ _ _ _ _ _ hc
        obtain ⟨mt2, hmt2, hI⟩ := mi_ok y q hq
        have : mt2 = mt1 := Option.some.inj (hmt2.symm.trans hmt1)
        subst this
        obtain ⟨yn, yb, yl, yr, yk, ya, ys⟩ := q
        simp only [chkI, Bool.and_eq_true, decide_eq_true_eq] at hI
        obtain ⟨⟨⟨⟨⟨⟨⟨⟨⟨⟨v1, v2⟩, v3⟩, v6⟩, v7⟩, v8⟩, v9⟩, v10⟩, v11⟩, v12⟩, v13⟩ := hI
        have hyl : mt2.2.2 = yl := Nat.eq_of_beq_eq_true v11
        rw [hyl] at hc
        refine Met.ofW (cc := yb) (maxL := yl) (ret := yr) v6 rfl ?_
        intro p e s m args below meth c s₁ B hml hP
        obtain ⟨rfl, hR, hE⟩ := hP
        have hts := atoms_spec (ws := sd_ws (yn, yb, yl, yr, yk, ya, ys)) B.pre
        have hown : s.vm.findClass yn.cls = some m.cls := findClass_of_methodNamed B.named
        have hle : as.length ≤ yl := by rw [hlen]; exact Nat.le_of_ble_eq_true v10
        obtain ⟨ls1, he1, hl1⟩ := sd_entry m base b as hle
        rw [he1]
        have hr := B.returns
        have hlocks := B.notSynchronized
        have z1 : am_sz M1.1 ≤ am_sz o1.2.1 := by obtain ⟨t, ht⟩ := hpre; rw [← ht, am_sz_app]; omega
        have l1 := hpre.length_le
        refine ih _ _ _ _ _ _ _ hc p e (headSpec (sd_ws (yn, yb, yl, yr, yk, ya, ys)) (sd_rm d M1 o1.2)).room s m _ below meth c _ yn.cls yb (decide (yn.name = "<init>")) yl (o1.2.1.length - M1.1.length) (am_sz o1.2.1 - am_sz M1.1) ls1 s.heap [] 0 0 v13
          ⟨B.exec, B.bytes, hml, hown, fun w hw => hts w (List.mem_cons_of_mem _ hw), hE, hbb, fun hi => (name_of_methodNamed B.named B.method).1.trans (of_decide_eq_true hi), Nat.le_refl _, Nat.le_refl _, Nat.le_refl _, Nat.le_refl _⟩ ?_
          ⟨hR, fun q hq => (by cases hq), hl1, by omega, by omega⟩
        intro pc ls H locs hR1 hl
        refine ⟨fun hd h0 ho => ?_, fun hd x ho h0 => ?_⟩
        · have hyr : yr = none := by
            rw [h0] at v12
            exact of_decide_eq_true v12
          exact W.vret (Qc := am_Qc D K base b G o1) B.exec B.bytes (by rw [hr, hyr]) (fun t ht hW => ⟨by rw [ho]; rfl, by rw [ht]; exact hR1.moved hW.alike⟩) hl hd hlocks
        · rcases h0 with h0 | ⟨h0, hbit⟩
          · have hyr : yr = some .int := by
              rw [h0] at v12
              exact of_decide_eq_true v12
            exact W.iret (Qc := am_Qc D K base b G o1) B.exec B.bytes (by rw [hr, hyr]) (fun t ht hW => ⟨by rw [ho]; rfl, by rw [ht]; exact hR1.moved hW.alike⟩) hl hd hlocks
          · have hyr : yr = some .boolean := by
              rw [h0] at v12
              exact of_decide_eq_true v12
            have hnar : narrow .boolean (.int x) = .int x := by
              unfold am_bit at hbit
              rw [Bool.or_eq_true] at hbit
              rcases hbit with hbit | hbit
              · have := of_decide_eq_true hbit; subst this; rfl
              · have := of_decide_eq_true hbit; subst this; rfl
            exact W.zret (Qc := am_Qc D K base b G o1) B.exec B.bytes (by rw [hr, hyr]) hnar (fun t ht hW => ⟨by rw [ho]; rfl, by rw [ht]; exact hR1.moved hW.alike⟩) hl hd hlocks
    · cases d with
      | zero => cases hn
      | succ d => exact ⟨d, rfl⟩
