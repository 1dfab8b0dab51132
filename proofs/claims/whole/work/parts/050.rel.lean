/-! THE RELATION of the abstract memory to the machine's heap -/
def cV (base b : Nat) : Value → Value
  | .int x => .int x
  | .ref a => .ref (base + a)
  | .retAddr _ => .ref b
  | _ => .null
theorem cV_cat (base b : Nat) (v : Value) : (cV base b v).category = 1 := by cases v <;> rfl
theorem cV_sum (base b : Nat) (q : List Value) : ((q.map (cV base b)).map fun v => v.category).sum = q.length := by
  induction q with
  | nil => rfl
  | cons v q ih => simp only [List.map_cons, List.sum_cons, cV_cat, ih, List.length_cons]; omega
def cR (base : Nat) (r : Option Nat) : Option Nat := r.map (fun a => base + a)
def nfT (c : Nat) : Nat := ((cls_[c]?).map (fun q => q.2.2)).getD 0
def cF (base : Nat) (I : Nat → Int32) (F : Nat → Option Nat) (c j : Nat) : Value := if fkT c j = 0 then .int (I j) else va_rf (cR base (F j))
def cO (base : Nat) (I : Nat → Int32) (F : Nat → Option Nat) (c : Nat) : List Value := (List.range (nfT c)).map (cF base I F c)
def cE (K : Nat → ClassId) (base : Nat) (I : Nat → Int32) (F : Nat → Option Nat) : Sh_ → va_E
  | .inl c => .inr (c, cO base I F c)
  | .inr (0, n) => .inl (K 0, n, .inl I)
  | .inr (1, n) => .inl (K 1, n, .inl I)
  | .inr (t + 2, n) => .inl (K (t + 2), n, .inr (.inr (.inr (.inr (fun j => cR base (F j))))))
def am_szh : Sh_ → Nat
  | .inl c => nfT c
  | .inr q => q.2
def am_sz (l : List Sh_) : Nat := (l.map am_szh).sum
theorem am_sz_app (l r : List Sh_) : am_sz (l ++ r) = am_sz l + am_sz r := by simp [am_sz]
theorem am_sz_one (x : Sh_) : am_sz [x] = am_szh x := by simp [am_sz]
theorem cO_get {base c j : Nat} {I : Nat → Int32} {F : Nat → Option Nat} (h : j < nfT c) : (cO base I F c)[j]? = some (cF base I F c j) := by
  simp [cO, List.getElem?_map, List.getElem?_range h]
theorem cO_len {base c : Nat} {I : Nat → Int32} {F : Nat → Option Nat} : (cO base I F c).length = nfT c := by simp [cO]
theorem cO_V {base c j : Nat} {I : Nat → Int32} {F : Nat → Option Nat} (h : j < nfT c) : vp_V (cO base I F c) j = cF base I F c j := by
  simp [vp_V, List.getD_eq_getElem?_getD, cO_get h]
def am_R (D : va_G) (K : Nat → ClassId) (base b : Nat) (G : Nat × (Nat → Int32)) (s : State) (M : Mm_) (H : Heap) : Prop :=
  H.size = base + M.1.length ∧ (∀ (a : Nat) (x : Sh_), M.1[a]? = some x → va_at D cls_ (base + a, cE K base (M.2.1 a) (M.2.2 a) x) H) ∧ va_X b G.1 G.2 s H
section SDR
variable {D : va_G} {K : Nat → ClassId} {base b : Nat} {G : Nat × (Nat → Int32)} {s : State} {M : Mm_} {H : Heap}
theorem am_R.one (h : am_R D K base b G s M H) {a : Nat} {x : Sh_} (ha : M.1[a]? = some x) : va_P D cls_ [(base + a, cE K base (M.2.1 a) (M.2.2 a) x)] H := by
  intro k q hk
  cases k with
  | zero => cases hk; exact h.2.1 a x ha
  | succ k => simp at hk
theorem am_R.two (h : am_R D K base b G s M H) {a a' : Nat} {x x' : Sh_} (ha : M.1[a]? = some x) (ha' : M.1[a']? = some x') : va_P D cls_ [(base + a, cE K base (M.2.1 a) (M.2.2 a) x), (base + a', cE K base (M.2.1 a') (M.2.2 a') x')] H := by
  intro k q hk
  rcases k with _ | _ | k
  · cases hk; exact h.2.1 a x ha
  · cases hk; exact h.2.1 a' x' ha'
  · simp at hk
theorem am_R.moved {U : State} (hvm : s.vm.Alike U.vm) (h : am_R D K base b G s M H) : am_R D K base b G U M H := ⟨h.1, h.2.1, h.2.2.moved hvm⟩
theorem am_R.write {M' : Mm_} {H' : Heap} {a : Nat} {x : Sh_} (h : am_R D K base b G s M H) (hb : b < base) (ha : M.1[a]? = some x) (hsh : M'.1 = M.1) (hI : ∀ q, q ≠ a → M'.2.1 q = M.2.1 q) (hF : ∀ q, q ≠ a → M'.2.2 q = M.2.2 q)
    (hz : H'.size = H.size) (ho : ∀ q : Nat, q ≠ base + a → H'[q]? = H[q]?) (hn : va_at D cls_ (base + a, cE K base (M'.2.1 a) (M'.2.2 a) x) H') : am_R D K base b G s M' H' := by
  refine ⟨by rw [hz, h.1, hsh], fun q y hq => ?_, h.2.2.kept (ho b (by omega))⟩
  rw [hsh] at hq
  by_cases e : q = a
  · subst e
    rw [ha] at hq
    cases hq
    exact hn
  · rw [hI q e, hF q e]
    exact (h.2.1 q y hq).kept (ho (base + q) (by omega))
theorem am_R.push {H' : Heap} {x : Sh_} (h : am_R D K base b G s M H) (hb : b < base) (hz : H'.size = H.size + 1) (ho : ∀ q : Nat, q < H.size → H'[q]? = H[q]?) (hn : va_at D cls_ (H.size, cE K base (fun _ => 0) (fun _ => none) x) H') : am_R D K base b G s (am_new M x) H' := by
  have hs := h.1
  refine ⟨by rw [hz, hs]; simp [am_new]; omega, fun q y hq => ?_, h.2.2.kept (ho b (by omega))⟩
  by_cases e : q < M.1.length
  · have e0 : q ≠ M.1.length := Nat.ne_of_lt e
    have e1 : (am_new M x).1[q]? = M.1[q]? := List.getElem?_append_left e
    have e2 : (am_new M x).2.1 q = M.2.1 q := by funext j; simp [am_new, rw1, e0]
    have e3 : (am_new M x).2.2 q = M.2.2 q := by funext j; simp [am_new, rw1, e0]
    rw [e1] at hq
    rw [e2, e3]
    exact (h.2.1 q y hq).kept (ho (base + q) (by rw [hs]; omega))
  · have e1 : (am_new M x).1[q]? = [x][q - M.1.length]? := List.getElem?_append_right (by omega)
    rw [e1] at hq
    have hl : q - M.1.length < 1 := (List.getElem?_eq_some_iff.mp hq).1
    have e0 : q = M.1.length := by omega
    subst e0
    rw [Nat.sub_self] at hq
    cases hq
    have e2 : (am_new M x).2.1 M.1.length = fun _ => 0 := by funext j; simp [am_new, rw1]
    have e3 : (am_new M x).2.2 M.1.length = fun _ => none := by funext j; simp [am_new, rw1]
    rw [e2, e3, ← hs]
    exact hn
theorem am_R.lt (h : am_R D K base b G s M H) {a : Nat} {x : Sh_} (ha : M.1[a]? = some x) : base + a < H.size := by
  have := (List.getElem?_eq_some_iff.mp ha).1
  rw [h.1]; omega
end SDR
/-! indices -/
theorem am_in_of {i : Int32} {n : Nat} (h : am_in i n = true) : vp_in i n := by
  have h' : 0 ≤ i.toInt ∧ i.toInt < (n : Int) := of_decide_eq_true h
  rintro (q | q)
  · rw [Int32.lt_iff_toInt_lt, Int32.toInt_zero] at q
    omega
  · have : (i.toNatClampNeg : Int) = ((i.toInt.toNat : Nat) : Int) := rfl
    omega
theorem am_in_nn {i : Int32} {n : Nat} (h : am_in i n = true) : ¬ i < 0 := fun q => am_in_of h (Or.inl q)
theorem am_in_lt {i : Int32} {n : Nat} (h : am_in i n = true) : i.toNatClampNeg < n := Nat.not_le.mp fun q => am_in_of h (Or.inr q)
theorem am_okO_of {M : Mm_} {a c : Nat} (h : am_okO M a c = true) : M.1[a]? = some (.inl c) := of_decide_eq_true h
theorem am_okA_of {M : Mm_} {a t : Nat} {i : Int32} (h : am_okA M a t i = true) : ∃ n, M.1[a]? = some (.inr (t, n)) ∧ am_in i n = true := by
  unfold am_okA at h
  split at h
  · next t' n e =>
    rw [Bool.and_eq_true] at h
    have := Nat.eq_of_beq_eq_true h.1
    subst this
    exact ⟨n, e, h.2⟩
  · cases h
theorem am_okQ_of {M : Mm_} {a : Nat} {i : Int32} (h : am_okQ M a i = true) : ∃ t n j, M.1[a]? = some (.inr (t, n)) ∧ kqT t = some j ∧ am_in i n = true := by
  unfold am_okQ at h
  split at h
  · next t' n e =>
    rw [Bool.and_eq_true] at h
    obtain ⟨j, hj⟩ := Option.isSome_iff_exists.mp h.1
    exact ⟨t', n, j, e, hj, h.2⟩
  · cases h
theorem am_okS_of {M : Mm_} {a v : Nat} {i : Int32} (h : am_okS M a v i = true) : ∃ n c j, M.1[a]? = some (.inr (c + 2, n)) ∧ M.1[v]? = some (.inl c) ∧ kqT (c + 2) = some j ∧ am_in i n = true := by
  unfold am_okS at h
  split at h
  · next t' n c e e' =>
    rw [Bool.and_eq_true, Bool.and_eq_true] at h
    have := Nat.eq_of_beq_eq_true h.1.1
    subst this
    obtain ⟨j, hj⟩ := Option.isSome_iff_exists.mp h.1.2
    exact ⟨n, c, j, e, e', hj, h.2⟩
  · cases h
theorem am_okC_of {M : Mm_} {a b : Nat} {sp dp n : Int32} (h : am_okC M a b sp dp n = true) : ∃ x y, M.1[a]? = some (.inr (0, x)) ∧ M.1[b]? = some (.inr (0, y)) ∧ 0 ≤ sp.toInt ∧ 0 ≤ dp.toInt ∧ 0 ≤ n.toInt ∧ sp.toInt + n.toInt ≤ (x : Int) ∧ dp.toInt + n.toInt ≤ (y : Int) := by
  unfold am_okC at h
  split at h
  · next x y e e' => exact ⟨x, y, e, e', of_decide_eq_true h⟩
  · cases h
theorem am_len_of {M : Mm_} {a n : Nat} (h : am_len M a = some n) : ∃ t, M.1[a]? = some (.inr (t, n)) ∧ (t = 0 ∨ t = 1 ∨ ∃ j, kqT t = some j) := by
  unfold am_len at h
  split at h
  · next t n' e =>
    obtain ⟨h1, h2⟩ := cond_inv h
    cases h2
    refine ⟨t, e, ?_⟩
    rw [Bool.or_eq_true] at h1
    rcases h1 with h1 | h1
    · have := Nat.le_of_ble_eq_true h1
      omega
    · exact Or.inr (Or.inr (Option.isSome_iff_exists.mp h1))
  · cases h
/-! prefix: no run loses a cell -/
theorem am_step_mono {G : Nat × (Nat → Int32)} {r : Nat} {k : Kn_} {call : Nat → List Value → Mm_ → Option Out_} {nat : Bool} {L : List (Option Value)} {st : List Value} {M : Mm_} {o : Out_}
    {pc ln x1 x2 x3 : Nat} {i : Instr} {sw : List (Int × Nat)}
    (hk : ∀ pc L st M, k pc L st M = some o → M.1 <+: o.2.1) (hc : ∀ y as M o', call y as M = some o' → M.1 <+: o'.2.1)
    (h : am_step G r k call nat (pc, i, ln, x1, x2, x3, sw) L st M = some o) : M.1 <+: o.2.1 := by
  have ld : ∀ {j : Instr} {i n : Nat}, am_ld k i n (pc, j, ln, x1, x2, x3, sw) L st M = some o → M.1 <+: o.2.1 := fun h => by
    unfold am_ld at h
    split at h
    · exact hk _ _ _ _ h
    · cases h
  have ldA : ∀ {j : Instr} {i n : Nat}, am_ldA k i n (pc, j, ln, x1, x2, x3, sw) L st M = some o → M.1 <+: o.2.1 := fun h => by
    unfold am_ldA at h
    split at h
    · exact hk _ _ _ _ h
    · exact hk _ _ _ _ h
    · cases h
  have stI : ∀ {j : Instr} {i n : Nat}, am_stI k i n (pc, j, ln, x1, x2, x3, sw) L st M = some o → M.1 <+: o.2.1 := fun h => by
    obtain ⟨x, q, -, h⟩ := sI_inv h
    exact hk _ _ _ _ (cond_inv h).2
  have stA : ∀ {j : Instr} {i n : Nat}, am_stA k i n (pc, j, ln, x1, x2, x3, sw) L st M = some o → M.1 <+: o.2.1 := fun h => by
    obtain ⟨x, q, -, h⟩ := sR_inv h
    exact hk _ _ _ _ (cond_inv h).2
  have bin : ∀ {j : Instr} {f : Int32 → Int32 → Int32}, am_bin k f (pc, j, ln, x1, x2, x3, sw) L st M = some o → M.1 <+: o.2.1 := fun h => by
    obtain ⟨x, y, q, -, h⟩ := sII_inv h
    exact hk _ _ _ _ h
  have ite : ∀ (P : Prop) (_ : Decidable P) (u v : Option Out_), (if P then u else v) = some o → (u = some o → M.1 <+: o.2.1) → (v = some o → M.1 <+: o.2.1) → M.1 <+: o.2.1 := fun P _ u v h h1 h2 => by
    split at h
    · exact h1 h
    · exact h2 h
  have inv : ∀ {j : Instr}, am_inv k call (pc, j, ln, x1, x2, x3, sw) L st M = some o → M.1 <+: o.2.1 := fun h => by
    obtain ⟨-, h⟩ := cond_inv h
    obtain ⟨o', h1, h2⟩ := Option.bind_eq_some_iff.mp h
    exact (hc _ _ _ _ h1).trans (hk _ _ _ _ h2)
  have nw : ∀ {pc L st x}, k pc L st (am_new M x) = some o → M.1 <+: o.2.1 := fun h => (List.prefix_append _ _).trans (hk _ _ _ _ h)
  have sww : ∀ (x : Int32) (q : List Value) (d : Nat) (sw : List (Int × Nat)), am_sw (fun t => k t L q M) x d sw = some o → M.1 <+: o.2.1 := by
    intro x q d sw
    induction sw with
    | nil => exact fun h => hk _ _ _ _ h
    | cons a r ih => exact fun h => ite _ _ _ _ h (fun h => hk _ _ _ _ h) ih
  cases i with
  | iconst n => exact hk _ _ _ _ h
  | bipush n => exact hk _ _ _ _ h
  | sipush n => exact hk _ _ _ _ h
  | ldc n =>
    have h : am_ldc k (pc, .ldc n, ln, x1, x2, x3, sw) L st M = some o := h
    unfold am_ldc at h
    split at h
    · exact hk _ _ _ _ h
    · cases h
  | iload n => exact ld h
  | iload_n n => exact ld h
  | aload n => exact ldA h
  | aload_n n => exact ldA h
  | istore n => exact stI h
  | istore_n n => exact stI h
  | astore n => exact stA h
  | astore_n n => exact stA h
  | iinc n c =>
    have h : am_iinc k n c (pc, .iinc n c, ln, x1, x2, x3, sw) L st M = some o := h
    unfold am_iinc at h
    split at h
    · exact hk _ _ _ _ h
    · cases h
  | iadd => exact bin h
  | isub => exact bin h
  | imul => exact bin h
  | iand => exact bin h
  | ior => exact bin h
  | ishl => exact bin h
  | ishr => exact bin h
  | iushr => exact bin h
  | i2s => obtain ⟨x, q, -, h⟩ := sI_inv h; exact hk _ _ _ _ h
  | dup =>
    have h : am_dup k (pc, .dup, ln, x1, x2, x3, sw) L st M = some o := h
    unfold am_dup at h
    split at h
    · exact hk _ _ _ _ h
    · exact hk _ _ _ _ h
    · cases h
  | dup2 => obtain ⟨x, a, q, -, h⟩ := sIR_inv h; exact hk _ _ _ _ h
  | pop => obtain ⟨x, q, -, h⟩ := sI_inv h; exact hk _ _ _ _ h
  | goto n => exact hk _ _ _ _ h
  | ifCond c n =>
    obtain ⟨x, q, -, h⟩ := sI_inv h
    cases c <;> exact ite _ _ _ _ h (fun h => hk _ _ _ _ h) (fun h => hk _ _ _ _ h)
  | if_icmp c n =>
    obtain ⟨x, y, q, -, h⟩ := sII_inv h
    cases c <;> exact ite _ _ _ _ h (fun h => hk _ _ _ _ h) (fun h => hk _ _ _ _ h)
  | tableswitch a1 a2 a3 a4 => obtain ⟨x, q, -, h⟩ := sI_inv h; exact sww _ _ _ _ h
  | getfield n =>
    obtain ⟨a, q, -, h⟩ := sR_inv h
    obtain ⟨-, h⟩ := cond_inv h
    unfold am_get at h
    split at h
    · exact hk _ _ _ _ h
    · exact hk _ _ _ _ h
    · exact hk _ _ _ _ (cond_inv h).2
  | putfield n =>
    have h : am_put k (pc, .putfield n, ln, x1, x2, x3, sw) L st M = some o := h
    unfold am_put at h
    split at h
    · exact hk _ _ _ (am_setI M _ _ _) (cond_inv h).2
    · exact hk _ _ _ (am_setR M _ _ _) (cond_inv h).2
    · cases h
  | iaload =>
    have h : am_iald G k (pc, .iaload, ln, x1, x2, x3, sw) L st M = some o := h
    unfold am_iald at h
    split at h
    · exact hk _ _ _ _ (cond_inv h).2
    · exact hk _ _ _ _ (cond_inv h).2
    · cases h
  | baload => obtain ⟨i, a, q, -, h⟩ := sIR_inv h; exact hk _ _ _ _ (cond_inv h).2
  | aaload =>
    obtain ⟨i, a, q, -, h⟩ := sIR_inv h
    exact hk _ _ _ _ (cond_inv (cond_inv h).2).2
  | iastore => obtain ⟨x, i, a, q, -, h⟩ := sIIR_inv h; exact hk _ _ _ (am_setI M _ _ _) (cond_inv h).2
  | bastore => obtain ⟨x, i, a, q, -, h⟩ := sIIR_inv h; exact hk _ _ _ (am_setI M _ _ _) (cond_inv h).2
  | aastore => obtain ⟨x, i, a, q, -, h⟩ := sRIR_inv h; exact hk _ _ _ (am_setR M _ _ _) (cond_inv h).2
  | arraylength =>
    have h : am_alen G k (pc, .arraylength, ln, x1, x2, x3, sw) L st M = some o := h
    unfold am_alen at h
    split at h
    · exact hk _ _ _ _ (cond_inv h).2
    · exact hk _ _ _ _ h
    · cases h
  | new n => exact nw h
  | newarray n => obtain ⟨x, q, -, h⟩ := sI_inv h; exact nw (cond_inv h).2
  | anewarray n => obtain ⟨x, q, -, h⟩ := sI_inv h; exact nw (cond_inv h).2
  | invokevirtual n => exact inv (cond_inv h).2
  | invokespecial n =>
    have h : cond (Nat.beq x1 900) (sR st fun _ q => cond (nat && Nat.ble q.length 8) (k (pc + 3) L q M) none) (cond (am_recv M (pc, .invokespecial n, ln, x1, x2, x3, sw) st) (am_inv k call (pc, .invokespecial n, ln, x1, x2, x3, sw) L st M) none) = some o := h
    cases e : Nat.beq x1 900 with
    | true => rw [e] at h; obtain ⟨a, q, -, h⟩ := sR_inv h; exact hk _ _ _ _ (cond_inv h).2
    | false => rw [e] at h; exact inv (cond_inv h).2
  | invokestatic n =>
    have h : cond (Nat.beq x1 901) (am_cpy k nat (pc, .invokestatic n, ln, x1, x2, x3, sw) L st M) (am_inv k call (pc, .invokestatic n, ln, x1, x2, x3, sw) L st M) = some o := h
    cases e : Nat.beq x1 901 with
    | true =>
      rw [e] at h
      have h : am_cpy k nat (pc, .invokestatic n, ln, x1, x2, x3, sw) L st M = some o := h
      unfold am_cpy at h
      split at h
      · exact hk _ _ _ (am_copy M _ _ _ _ _) (cond_inv h).2
      · cases h
    | false => rw [e] at h; exact inv h
  | ireturn =>
    have h : am_iret r st M = some o := h
    unfold am_iret at h
    split at h
    · obtain ⟨-, h⟩ := cond_inv h
      cases h
      exact List.prefix_refl _
    · cases h
  | return_ =>
    have h : am_vret r st M = some o := h
    unfold am_vret at h
    split at h
    · obtain ⟨-, h⟩ := cond_inv h
      cases h
      exact List.prefix_refl _
    · cases h
  | _ =>
    have h : (none : Option Out_) = some o := h
    cases h
theorem am_run_mono {G : Nat × (Nat → Int32)} : ∀ (n d : Nat) (mt : Mt_) (pc : Nat) (L : List (Option Value)) (st : List Value) (M : Mm_) (o : Out_), am_run G n d mt pc L st M = some o → M.1 <+: o.2.1 := by
  intro n
  induction n with
  | zero => intro d mt pc L st M o h; cases h
  | succ n ih =>
    intro d mt pc L st M o h
    obtain ⟨⟨pc', i, ln, x1, x2, x3, sw⟩, -, h⟩ := Option.bind_eq_some_iff.mp h
    refine am_step_mono (fun pc L st M h => ih _ _ _ _ _ _ _ h) ?_ h
    intro y as M o' h
    cases d with
    | zero => cases h
    | succ d =>
      obtain ⟨q, -, h⟩ := Option.bind_eq_some_iff.mp h
      exact ih _ _ _ _ _ _ _ h
