/-! SOUNDNESS of the abstract machine: the words, the checks of the tables, the rows -/
def wsG : List Cond := lw_tbl.filter goodWord
def isW (i : Nat) (w : Cond) : Bool := decide (lw_tbl[i]? = some w) && goodWord w
theorem isW_mem {i : Nat} {w : Cond} (h : isW i w = true) : w ∈ wsG := by
  unfold isW at h
  rw [Bool.and_eq_true] at h
  exact List.mem_filter.mpr ⟨List.mem_of_getElem? (of_decide_eq_true h.1), h.2⟩
theorem good_wsG : GoodIn wsG wsG := fun w h => ⟨h, good_of_word (List.mem_filter.mp h).2⟩
theorem good_sub {ws : List Cond} (h : ∀ w ∈ ws, w ∈ wsG) : GoodIn wsG ws := fun w hw => good_wsG w (h w hw)
/-- one instruction's links and targets -/
def chkK (own : String) (ini : Bool) (e : En_) : Bool := match e.2.1 with
  | .bipush n => decide ((Int8.ofInt n).toInt32 = zI n)
  | .sipush n => decide ((Int16.ofInt n).toInt32 = zI n)
  | .ldc i => match e.2.2.2.2.2.2 with
    | q :: _ => isW e.2.2.2.2.2.1 (.constant own i (zI q.1))
    | [] => false
  | .goto off => decide ((e.1 : Int) + off = (e.2.2.2.1 : Int))
  | .ifCond _ off => decide ((e.1 : Int) + off = (e.2.2.2.1 : Int))
  | .if_icmp _ off => decide ((e.1 : Int) + off = (e.2.2.2.1 : Int))
  | .tableswitch d lo hi offs => decide ((e.1 : Int) + d = (e.2.2.2.1 : Int)) && (e.2.2.2.2.2.2.all fun q => decide (lo ≤ q.1 ∧ q.1 ≤ hi ∧ (zI q.1).toInt = q.1) && (match offs[(q.1 - lo).toNat]? with
      | some off => decide ((e.1 : Int) + off = (q.2 : Int))
      | none => false)) && ((List.range (hi - lo + 1).toNat).all fun j => e.2.2.2.2.2.2.any fun q => decide (q.1 = lo + (j : Int)))
  | .getfield i => match cls_[e.2.2.2.1]? with
    | some q => decide (e.2.2.2.2.1 < q.2.2) && decide ((q.2.1 e.2.2.2.2.1).1 = q.1) && isW e.2.2.2.2.2.1 (.fieldLink own i q.1 (q.2.1 e.2.2.2.2.1).2.1 (q.2.1 e.2.2.2.2.1).2.2.1)
    | none => false
  | .putfield i => match cls_[e.2.2.2.1]? with
    | some q => decide (e.2.2.2.2.1 < q.2.2) && decide ((q.2.1 e.2.2.2.2.1).1 = q.1) && isW e.2.2.2.2.2.1 (.fieldLink own i q.1 (q.2.1 e.2.2.2.2.1).2.1 (q.2.1 e.2.2.2.2.1).2.2.1) && (!(q.2.1 e.2.2.2.2.1).2.2.2 || (ini && decide (q.1 = own)))
    | none => false
  | .new i => match cls_[e.2.2.2.1]? with
    | some q => isW e.2.2.2.2.2.1 (.classLink own i q.1) && isW e.2.2.2.2.1 (.instantiable q.1 q.2.2) && isW (ciL.getD e.2.2.2.1 0) (.initialized q.1)
    | none => false
  | .newarray t => (match e.2.2.2.1 with
    | 0 => decide (newarray.typeOf t = .int)
    | 1 => decide (newarray.typeOf t = .boolean)
    | _ => false) && isW e.2.2.2.2.2.1 (.arrayClass (newarray.typeOf t))
  | .anewarray i => match cls_[e.2.2.2.1]? with
    | some q => isW e.2.2.2.2.2.1 (.classLink own i q.1) && decide (q.1 ∈ aoL) && (kqT (e.2.2.2.1 + 2)).isSome
    | none => false
  | .invokevirtual i => match miL[e.2.2.2.1]?, e.2.2.2.2.2.2 with
    | some y, q :: _ => isW e.2.2.2.2.2.1 (.methodLink own i y.1) && Nat.beq y.2.2.2.2.1 1 && Nat.beq y.2.2.2.2.2.1 e.2.2.2.2.1 && decide ((cls_[q.2]?).map (fun z => z.1) = some y.1.cls)
    | _, _ => false
  | .invokespecial i => cond (Nat.beq e.2.2.2.1 900) (isW e.2.2.2.2.2.1 (.methodLink own i Lib.objectInit) && Nat.beq e.2.2.2.2.1 1) (match miL[e.2.2.2.1]?, e.2.2.2.2.2.2 with
    | some y, q :: _ => (match q.1 with
      | 0 => isW e.2.2.2.2.2.1 (.methodLink own i y.1)
      | _ => nsL.any (fun z => decide (z.1 = own ∧ z.2.1 = i ∧ z.2.2.1 = y.1))) && Nat.beq y.2.2.2.2.1 2 && Nat.beq y.2.2.2.2.2.1 e.2.2.2.2.1
    | _, _ => false)
  | .invokestatic i => cond (Nat.beq e.2.2.2.1 901) (isW e.2.2.2.2.2.1 (.methodLink own i arraycopyName)) (match miL[e.2.2.2.1]? with
    | some y => isW e.2.2.2.2.2.1 (.methodLink own i y.1) && Nat.beq y.2.2.2.2.1 0 && Nat.beq y.2.2.2.2.2.1 e.2.2.2.2.1
    | none => false)
  | _ => true
/-- the length that the row expects -/
def lenK : Instr → Nat
  | .bipush _ | .ldc _ | .iload _ | .aload _ | .istore _ | .astore _ | .newarray _ => 2
  | .sipush _ | .iinc _ _ | .goto _ | .ifCond _ _ | .if_icmp _ _ | .getfield _ | .putfield _ | .new _ | .anewarray _ | .invokevirtual _ | .invokespecial _ | .invokestatic _ => 3
  | _ => 1
def isSw : Instr → Bool
  | .tableswitch _ _ _ _ => true
  | _ => false
def chkE (own : String) (cc : ByteArray) (ini : Bool) (e : En_) : Bool := decide (decode cc e.1 = .ok (e.2.1, e.2.2.1)) && (isSw e.2.1 || Nat.beq e.2.2.1 (lenK e.2.1)) && chkK own ini e
def chkM (own : String) (cc : ByteArray) (ini : Bool) (code : List En_) : Bool := code.all (chkE own cc ini)
def retOk (ret : Option FieldType) (r : Nat) : Bool := match r with
  | 0 => decide (ret = none)
  | 1 => decide (ret = some .int)
  | 2 => decide (ret = some .boolean)
  | _ => false
def chkI (y : Mi_) (mt : Mt_ × Nat × Nat) : Bool :=
  isW (y.2.2.2.2.2.2.getD 0 0) (.code y.1 y.2.1 y.2.2.1 y.2.2.2.1) && isW (y.2.2.2.2.2.2.getD 3 0) (.initialized y.1.cls) &&
  (match y.2.2.2.2.1 with
    | 0 => isW (y.2.2.2.2.2.2.getD 1 0) (.static y.1) && decide ((parseMethodDescriptor y.1.desc).map (fun d => d.parameters.length) = some y.2.2.2.2.2.1)
    | 1 => isW (y.2.2.2.2.2.2.getD 1 0) (.instanceMethod y.1) && isW (y.2.2.2.2.2.2.getD 2 0) (.selects y.1.cls y.1 y.1) && decide ((parseMethodDescriptor y.1.desc).map (fun d => d.parameters.length + 1) = some y.2.2.2.2.2.1)
    | _ => isW (y.2.2.2.2.2.2.getD 1 0) (.instanceMethod y.1) && decide (y.1.name = "<init>") && decide (y.2.2.2.1 = none) && decide ((parseMethodDescriptor y.1.desc).map (fun d => d.parameters.length + 1) = some y.2.2.2.2.2.1)) &&
  plainName y.1.cls && decide (y.1.cls ≠ "java/lang/invoke/MethodHandle") && decide (y.1.cls ≠ "java/lang/invoke/VarHandle") && Nat.ble y.2.2.1 9 && Nat.ble y.2.2.2.2.2.1 y.2.2.1 && Nat.beq mt.2.2 y.2.2.1 && retOk y.2.2.2.1 mt.1.2 &&
  chkM y.1.cls y.2.1 (decide (y.1.name = "<init>")) mt.1.1
/-! the standing facts of a method's walk -/
def am_E (D : va_G) (K : Nat → ClassId) (s : State) : Prop := va_K D cls_ (am_tys K) s ∧ (∀ q ∈ nsL, va_Nw (.methodLinkNest q.1 q.2.1 q.2.2.1 q.2.2.2) s) ∧ ∀ C ∈ aoL, va_AO C s
theorem am_E.warm {D : va_G} {K : Nat → ClassId} {s U : State} (hW : s.WarmedH U.vm) (h : am_E D K s) : am_E D K U :=
  ⟨va_K.moved hW.alike h.1, fun q hq => va_Nw.warmM hW (h.2.1 q hq), fun C hC => va_AO.moved hW.alike (h.2.2 C hC)⟩
theorem am_E.same {D : va_G} {K : Nat → ClassId} {s U : State} (hv : s.vm = U.vm) (h : am_E D K s) : am_E D K U :=
  ⟨va_K.moved (by rw [hv]; exact Vm.Alike.refl _) h.1, fun q hq => va_Nw.same rfl hv (h.2.1 q hq), fun C hC => va_AO.moved (by rw [hv]; exact Vm.Alike.refl _) (h.2.2 C hC)⟩
def am_Pc (D : va_G) (K : Nat → ClassId) (base b : Nat) (G : Nat × (Nat → Int32)) (as : List Value) (M : Mm_) : Array Value → State → Prop := fun v U => v = (as.map (cV base b)).toArray ∧ am_R D K base b G U M U.heap ∧ am_E D K U
def am_Qc (D : va_G) (K : Nat → ClassId) (base b : Nat) (G : Nat × (Nat → Int32)) (o : Out_) : Array Value → State → Outcome → State → Prop := fun _ _ oc t => oc = .returned (o.1.map (cV base b)) ∧ am_R D K base b G t o.2 t.heap
theorem am_Pc.blind {D : va_G} {K : Nat → ClassId} {base b : Nat} {G : Nat × (Nat → Int32)} {as : List Value} {M : Mm_} : FrameBlind (am_Pc D K base b G as M) := fun a U g mk q =>
  ⟨q.1, am_R.moved (s := U) (U := U.calling g mk a) (Vm.Alike.refl U.vm) q.2.1, am_E.same (s := U) (U := U.calling g mk a) rfl q.2.2⟩
def sd_ws (y : Mi_) : List Cond := Cond.code y.1 y.2.1 y.2.2.1 y.2.2.2.1 :: wsG
def sd_rm (d : Nat) (M M' : Mm_) : Room := { frames := d, cells := M'.1.length - M.1.length, slots := am_sz M'.1 - am_sz M.1, locals := 30 * d + 40 }
def sd_L (base b nL : Nat) (L : List (Option Value)) (ls : Array Slot) : Prop := L.length = nL ∧ ∃ lv, lv_has ls nL lv ∧ (∀ q ∈ lv, q.2.category = 1) ∧ ∀ (i : Nat) (v : Value), L[i]? = some (some v) → (i, cV base b v) ∈ lv
def sd_X (D : va_G) (K : Nat → ClassId) (base b : Nat) (own : String) (cc : ByteArray) (ini : Bool) (nL d ce se : Nat) (p : Program) (R : Room) (s : State) (m : MethodId) (args : Array Value) (meth : Method) (c : Code) : Prop :=
  p.tables.exec = Jvm.exec ∧ c.code = cc ∧ c.maxLocals = nL ∧ s.vm.findClass own = some m.cls ∧ (∀ w ∈ wsG, w.before args s = true) ∧ am_E D K s ∧ b < base ∧ (ini = true → meth.name = "<init>") ∧ d ≤ R.frames ∧ 30 * d + 40 ≤ R.locals ∧ ce ≤ R.cells ∧ se ≤ R.slots
def sd_S (D : va_G) (K : Nat → ClassId) (base b : Nat) (G : Nat × (Nat → Int32)) (s : State) (nL : Nat) (o : Out_) (ce se : Nat) (L : List (Option Value)) (M : Mm_) (ls : Array Slot) (H : Heap) (locs : List Loc) (cells slots : Nat) : Prop :=
  am_R D K base b G s M H ∧ (∀ q ∈ locs, base ≤ q.base) ∧ sd_L base b nL L ls ∧ cells + o.2.1.length = ce + M.1.length ∧ slots + am_sz o.2.1 = se + am_sz M.1
def sd_K (p : Program) (l : Launch) (e : Env) (R : Room) (s : State) (m : MethodId) (args : Array Value) (below : List Frame) (meth : Method) (c : Code) (Q : State → Prop) (D : va_G) (K : Nat → ClassId) (base b : Nat) (G : Nat × (Nat → Int32)) (nL : Nat) (o : Out_) (ce se : Nat) (k : Kn_) : Prop :=
  ∀ (pc : Nat) (L : List (Option Value)) (st : List Value) (M : Mm_) (ls : Array Slot) (H : Heap) (locs : List Loc) (cells slots : Nat), k pc L st M = some o → sd_S D K base b G s nL o ce se L M ls H locs cells slots → W p l e R s m args below meth c H locs cells slots Q (F0 m pc ls (st.map (cV base b)))
def sd_C (l : Launch) (D : va_G) (K : Nat → ClassId) (base b : Nat) (G : Nat × (Nat → Int32)) (d : Nat) (call : Nat → List Value → Mm_ → Option Out_) : Prop :=
  ∀ (y : Nat) (as : List Value) (M : Mm_) (o : Out_) (q : Mi_), call y as M = some o → miL[y]? = some q → as.length = q.2.2.2.2.2.1 → M.1 <+: o.2.1 ∧ ∃ d', d = d' + 1 ∧ Met l q.1 (sd_ws q) (sd_rm d' M o.2) (am_Pc D K base b G as M) (am_Qc D K base b G o) (o.2.1.length - M.1.length) (am_sz o.2.1 - am_sz M.1) (fun q => base ≤ q)
def sd_Rt (p : Program) (l : Launch) (e : Env) (R : Room) (s : State) (m : MethodId) (args : Array Value) (below : List Frame) (meth : Method) (c : Code) (Q : State → Prop) (D : va_G) (K : Nat → ClassId) (base b : Nat) (G : Nat × (Nat → Int32)) (cc : ByteArray) (r : Nat) (o : Out_) (ce se : Nat) : Prop :=
  ∀ (pc : Nat) (ls : Array Slot) (H : Heap) (locs : List Loc), am_R D K base b G s o.2 H → (∀ q ∈ locs, base ≤ q.base) →
    (decode cc pc = .ok (.return_, 1) → r = 0 → o.1 = none → W p l e R s m args below meth c H locs ce se Q (F0 m pc ls [])) ∧
    (decode cc pc = .ok (.ireturn, 1) → ∀ x : Int32, o.1 = some (.int x) → (r = 1 ∨ (r = 2 ∧ am_bit x = true)) → W p l e R s m args below meth c H locs ce se Q (F0 m pc ls [.int x]))
/-! locals -/
theorem sd_L.get {base b nL : Nat} {L : List (Option Value)} {ls : Array Slot} (h : sd_L base b nL L ls) {i : Nat} {v : Value} (hi : L[i]? = some (some v)) : ls[i]? = some (.val (cV base b v)) := by
  obtain ⟨-, lv, h1, -, h3⟩ := h
  exact h1.2.2 _ (h3 i v hi)
theorem sd_L.put {base b nL : Nat} {L : List (Option Value)} {ls' : Array Slot} {lv : List (Nat × Value)} {i : Nat} {v : Value} (hl : L.length = nL) (hc : ∀ q ∈ lv, q.2.category = 1) (h3 : ∀ (i : Nat) (v : Value), L[i]? = some (some v) → (i, cV base b v) ∈ lv)
    (h : lv_has ls' nL ((i, cV base b v) :: lv.filter (fun q => !(q.1 == i) && !(q.1 + 1 == i && q.2.category == 2)))) : sd_L base b nL (L.set i (some v)) ls' := by
  refine ⟨by rw [List.length_set]; exact hl, _, h, fun q hq => ?_, fun j w hj => ?_⟩
  · rcases List.mem_cons.mp hq with e | hq
    · rw [e]; exact cV_cat _ _ _
    · exact hc q (List.mem_filter.mp hq).1
  · by_cases e : i = j
    · subst e
      have hlt : i < L.length := by
        have := (List.getElem?_eq_some_iff.mp hj).1
        rw [List.length_set] at this
        exact this
      rw [List.getElem?_set_self hlt] at hj
      cases hj
      exact List.mem_cons_self
    · rw [List.getElem?_set_ne e] at hj
      refine List.mem_cons_of_mem _ (List.mem_filter.mpr ⟨h3 j w hj, ?_⟩)
      have e1 : (j == i) = false := by simp; omega
      simp [e1, cV_cat]
theorem lv_args_mem : ∀ (vs : List Value) (k : Nat), (∀ v ∈ vs, v.category = 1) → (∀ q ∈ lv_args k vs, q.2.category = 1) ∧ ∀ (i : Nat) (v : Value), vs[i]? = some v → (k + i, v) ∈ lv_args k vs
  | [], k, _ => ⟨fun q hq => (by cases hq), fun i v h => by simp at h⟩
  | w :: vs, k, hc => by
    have hw : w.category = 1 := hc w List.mem_cons_self
    have e : lv_args k (w :: vs) = (k, w) :: lv_args (k + 1) vs := by simp [lv_args, hw]
    obtain ⟨h1, h2⟩ := lv_args_mem vs (k + 1) (fun v hv => hc v (List.mem_cons_of_mem _ hv))
    rw [e]
    refine ⟨fun q hq => ?_, fun i v h => ?_⟩
    · rcases List.mem_cons.mp hq with e | hq
      · rw [e]; exact hw
      · exact h1 q hq
    · cases i with
      | zero => cases h; exact List.mem_cons_self
      | succ i =>
        have := h2 i v h
        rw [show k + 1 + i = k + (i + 1) by omega] at this
        exact List.mem_cons_of_mem _ this
theorem lg_sl_len (vs : List Value) (hc : ∀ v ∈ vs, v.category = 1) : (lg_sl vs).length = vs.length := by
  induction vs with
  | nil => rfl
  | cons w vs ih =>
    have hw : w.category = 1 := hc w List.mem_cons_self
    have := ih (fun v hv => hc v (List.mem_cons_of_mem _ hv))
    simp only [lg_sl] at this ⊢
    simp [hw, this]
theorem sd_entry (m : MethodId) (base b : Nat) (as : List Value) {n : Nat} (h : as.length ≤ n) : ∃ ls, entryFrame m (as.map (cV base b)).toArray n = F0 m 0 ls [] ∧ sd_L base b n (am_loc n as) ls := by
  have hc : ∀ v ∈ as.map (cV base b), v.category = 1 := fun v hv => by
    obtain ⟨w, -, rfl⟩ := List.mem_map.mp hv
    exact cV_cat _ _ _
  have hlen : (lg_sl (as.map (cV base b))).length ≤ n := by rw [lg_sl_len _ hc, List.length_map]; exact h
  refine ⟨_, lg_entry_eq m (as.map (cV base b)) n, ?_, _, lv_entry (as.map (cV base b)) hlen, (lv_args_mem _ 0 hc).1, fun i v hi => ?_⟩
  · simp [am_loc]; omega
  · have := (lv_args_mem (as.map (cV base b)) 0 hc).2 i (cV base b v) ?_
    · rw [Nat.zero_add] at this; exact this
    · unfold am_loc at hi
      by_cases hl : i < as.length
      · rw [List.getElem?_append_left (by rw [List.length_map]; exact hl), List.getElem?_map] at hi
        rw [List.getElem?_map]
        cases ha : as[i]? with
        | none => rw [ha] at hi; cases hi
        | some w => rw [ha] at hi; cases hi; rfl
      · rw [List.getElem?_append_right (by rw [List.length_map]; omega), List.getElem?_replicate] at hi
        split at hi <;> cases hi
