/-! SOUNDNESS: the rows of fields, arrays, new cells, copies, calls, switches -/
section SDW
variable {p : Program} {l : Launch} {e : Env} {R : Room} {s : State} {m : MethodId} {args : Array Value} {below : List Frame} {meth : Method} {c : Code} {Q : State → Prop}
variable {D : va_G} {K : Nat → ClassId} {base b : Nat} {G : Nat × (Nat → Int32)} {own : String} {cc : ByteArray} {ini : Bool} {nL d : Nat} {o : Out_} {ce se : Nat}
variable {k : Kn_} {pc : Nat} {L : List (Option Value)} {q : List Value} {M : Mm_} {ls : Array Slot} {H : Heap} {locs : List Loc} {cells slots : Nat}
theorem sd_tyI (h : am_E D K s) : (am_tys K)[0]? = some (K 0, .int) ∧ (am_tys K)[1]? = some (K 1, .boolean) := ⟨rfl, rfl⟩
theorem sd_at (S : sd_S D K base b G s nL o ce se L M ls H locs cells slots) : am_R D K base b G s M H := S.1
theorem sd_kept {M' : Mm_} {H' : Heap} {locs' : List Loc} (S : sd_S D K base b G s nL o ce se L M ls H locs cells slots) (hR : am_R D K base b G s M' H') (hsh : M'.1 = M.1) (hl : ∀ q ∈ locs', base ≤ q.base) : sd_S D K base b G s nL o ce se L M' ls H' locs' cells slots := by
  obtain ⟨-, -, h3, h4, h5⟩ := S
  exact ⟨hR, hl, h3, by rw [hsh]; exact h4, by rw [hsh]; exact h5⟩
theorem sd_locs (S : sd_S D K base b G s nL o ce se L M ls H locs cells slots) (a j : Nat) : ∀ q ∈ locs ++ [(⟨base + a, j⟩ : Loc)], base ≤ q.base := by
  intro q hq
  rcases List.mem_append.mp hq with h | h
  · exact S.2.1 q h
  · rw [List.mem_singleton.mp h]
    exact Nat.le_add_right _ _
/-- getfield -/
theorem sd_getf (C : sd_X D K base b own cc ini nL d ce se p R s m args meth c) (hk : sd_K p l e R s m args below meth c Q D K base b G nL o ce se k) {ci j idx i : Nat} (hchk : (match cls_[ci]? with
    | some q => decide (j < q.2.2) && decide ((q.2.1 j).1 = q.1) && isW i (.fieldLink own idx q.1 (q.2.1 j).2.1 (q.2.1 j).2.2.1)
    | none => false) = true) (hd : decode cc pc = .ok (.getfield idx, 3)) (S : sd_S D K base b G s nL o ce se L M ls H locs cells slots) {a : Nat} (hok : am_okF M a ci j = true) (h : am_get M a ci j (fun v => k (pc + 3) L (v :: q) M) = some o) :
    W p l e R s m args below meth c H locs cells slots Q (F0 m pc ls ((Value.ref a :: q).map (cV base b))) := by
  obtain ⟨hx, hb, hml, hown, hts, hE, hbb, -⟩ := C
  unfold am_okF at hok
  rw [Bool.and_eq_true] at hok
  have ha := am_okO_of hok.1
  cases hc : cls_[ci]? with
  | none => rw [hc] at hchk; cases hchk
  | some r =>
    rw [hc] at hchk
    obtain ⟨C0, T0, N0⟩ := r
    simp only [Bool.and_eq_true, decide_eq_true_eq] at hchk
    obtain ⟨⟨hj, hT⟩, hw⟩ := hchk
    have hN : nfT ci = N0 := by simp [nfT, hc]
    have key : ∀ v : Value, cF base (M.2.1 a) (M.2.2 a) ci j = cV base b v → k (pc + 3) L (v :: q) M = some o → W p l e R s m args below meth c H locs cells slots Q (F0 m pc ls ((Value.ref a :: q).map (cV base b))) := by
      intro v hv hh
      refine va_get (Ts := wsG) hx hb hts (cls_ok ci _ hc).1 hown hE.1 (S.1.one ha) 0 (fs := cO base (M.2.1 a) (M.2.2 a) ci) rfl hc j hj (hts _ (isW_mem hw)) (fun x hx => by rw [hT] at hx; exact hx) (v := cV base b v) (by rw [cO_get (by rw [hN]; exact hj), hv]) hd (hk _ _ _ _ _ _ _ _ _ hh S)
    unfold am_get at h
    split at h
    · next h0 => exact key _ (by simp [cF, h0, cV]) h
    · next h1 =>
      refine key _ ?_ h
      have h2 : M.2.2 a j = some (a + ofT ci j) := by
        have := hok.2
        rw [h1] at this
        simpa using this
      simp [cF, h1, h2, cR, va_rf, cV]
    · next h0 h1 =>
      obtain ⟨hs, h⟩ := cond_inv h
      obtain ⟨r, hr⟩ := Option.isSome_iff_exists.mp hs
      rw [hr] at h
      have h0' : ¬ fkT ci j = 0 := h0
      exact key _ (by simp [cF, h0', hr, cR, va_rf, cV]) h
/-- putfield -/
theorem sd_putf (C : sd_X D K base b own cc ini nL d ce se p R s m args meth c) (hk : sd_K p l e R s m args below meth c Q D K base b G nL o ce se k) {ci j idx i : Nat} (hchk : (match cls_[ci]? with
    | some q => decide (j < q.2.2) && decide ((q.2.1 j).1 = q.1) && isW i (.fieldLink own idx q.1 (q.2.1 j).2.1 (q.2.1 j).2.2.1) && (!(q.2.1 j).2.2.2 || (ini && decide (q.1 = own)))
    | none => false) = true) (hd : decode cc pc = .ok (.putfield idx, 3)) (S : sd_S D K base b G s nL o ce se L M ls H locs cells slots) {a : Nat} {v : Value} {M' : Mm_} (ha : M.1[a]? = some (.inl ci)) (hsh : M'.1 = M.1) (hI : ∀ q, q ≠ a → M'.2.1 q = M.2.1 q) (hF : ∀ q, q ≠ a → M'.2.2 q = M.2.2 q)
    (hv : ∀ t, t < nfT ci → cF base (M'.2.1 a) (M'.2.2 a) ci t = if t = j then cV base b v else cF base (M.2.1 a) (M.2.2 a) ci t)
    (hfit : narrow (yT ci j) (cV base b v) = cV base b v ∧ fits (yT ci j) (cV base b v) = true) (h : k (pc + 3) L q M' = some o) :
    W p l e R s m args below meth c H locs cells slots Q (F0 m pc ls ((v :: Value.ref a :: q).map (cV base b))) := by
  obtain ⟨hx, hb, hml, hown, hts, hE, hbb, hini, -⟩ := C
  cases hc : cls_[ci]? with
  | none => rw [hc] at hchk; cases hchk
  | some r =>
    rw [hc] at hchk
    obtain ⟨C0, T0, N0⟩ := r
    simp only [Bool.and_eq_true, decide_eq_true_eq] at hchk
    obtain ⟨⟨⟨hj, hT⟩, hw⟩, hfinal⟩ := hchk
    have hN : nfT ci = N0 := by simp [nfT, hc]
    obtain ⟨hin, hty, hnm, -⟩ := cls_ok ci _ hc
    have hap := va_apart (own := own) (Ts := wsG) hts hin (yT ci) hty hnm hE.1 hc
    obtain ⟨r, h1, cell, q1, q2, q3, q4⟩ := S.1.2.1 a _ ha
    have hr : r = (C0, T0, N0) := Option.some.inj (h1.symm.trans hc)
    subst hr
    obtain ⟨hS, hfc, kC, hkC, hkind⟩ := hE.1.1 ci _ hc
    obtain ⟨cf, kf, fi, f, hi, hsl⟩ := hS j hj
    have hlays := u_lays (ws := wsG) hts hin hj
    have hst := (u_facts hfc hkC hlays hi).1
    have hi' : s.fieldFound? C0 (T0 j).2.1 (T0 j).2.2.1 = some (cf, kf, fi, f) := by rw [← hT]; exact hi
    have go : ∀ H' : Heap, H'[base + a]? = some (cell.setSlot f.slot (cV base b v)) → H'.size = H.size → (∀ q : Nat, q ≠ base + a → H'[q]? = H[q]?) → W p l e R s m args below meth c H' (locs ++ [⟨base + a, f.slot⟩]) cells slots Q (F0 m (pc + 3) ls (q.map (cV base b))) := by
      intro H' e1 e2 e3
      rw [hsl] at e1
      refine hk _ _ _ _ _ _ _ _ _ h (sd_kept S (S.1.write hbb ha hsh hI hF e2 e3 ⟨_, hc, t_OB.to (V := updV (vp_V (cO base (M.2.1 a) (M.2.2 a) ci)) j (cV base b v)) ⟨_, e1, q2, q3, t_set q4 hap hj _⟩ (fun t ht => ?_)⟩) hsh (sd_locs S a _))
      have ht' : t < nfT ci := by rw [hN]; exact ht
      show updV (vp_V (cO base (M.2.1 a) (M.2.2 a) ci)) j (cV base b v) t = vp_V (cO base (M'.2.1 a) (M'.2.2 a) ci) t
      rw [cO_V ht', hv t ht']
      by_cases e : t = j
      · simp [updV, e]
      · simp [updV, e, cO_V ht']
    have hlt : f.slot < cell.slots.size := by rw [hsl]; exact k2_hasslot (q4 j hj)
    have hlay := hts _ (hin _ (u_in_lay hj))
    unfold u_lay at hlay
    cases hf : (T0 j).2.2.2 with
    | false =>
      rw [if_neg (by rw [hf]; decide)] at hlay
      exact W.putK hx hb (f := f) ⟨hown, hts _ (isW_mem hw), ⟨_, _, _, hi'⟩, hst⟩ (by rw [q2]; exact u_store hfc hkC hkind hlay hi (hty j hj) hfit.1 hfit.2) q1 q3 hlt rfl rfl hd go
    | true =>
      rw [if_pos hf] at hlay
      rw [hf] at hfinal
      have hfin2 : ini = true ∧ C0 = own := by simpa using hfinal
      have hcf : m.cls = cf := by
        obtain ⟨_, _, c', _, _, _, -, -, hf', -, -, -, hown2, -⟩ := Cond.laysFinal_spec hlay
        have e1 : c' = cf := by have := hi.symm.trans hf'; simp at this; exact this.1.symm
        rw [hT, hfin2.2] at hown2
        rw [← e1]; exact Option.some.inj (hown.symm.trans hown2)
      exact W.putFinK hx hb hown (hts _ (isW_mem hw)) hi' hst hcf (hini hfin2.1) (by rw [q2]; exact u_fits hfc hkC hkind (Or.inr hlay) hi (hty j hj) hfit.1 hfit.2) q1 q3 hlt rfl rfl hd go
/-- iastore, bastore -/
theorem sd_iast (C : sd_X D K base b own cc ini nL d ce se p R s m args meth c) (hk : sd_K p l e R s m args below meth c Q D K base b G nL o ce se k) (hd : decode cc pc = .ok (.iastore, 1)) (S : sd_S D K base b G s nL o ce se L M ls H locs cells slots) {a : Nat} {i x : Int32} (hok : am_okA M a 0 i = true) (h : k (pc + 1) L q (am_setI M a i.toNatClampNeg x) = some o) :
    W p l e R s m args below meth c H locs cells slots Q (F0 m pc ls ((Value.int x :: Value.int i :: Value.ref a :: q).map (cV base b))) := by
  obtain ⟨hx, hb, hml, hown, hts, hE, hbb, -⟩ := C
  obtain ⟨n, ha, hi⟩ := am_okA_of hok
  have hcell : H[base + a]? = some (vp_cell (K 0) (n, .inl (M.2.1 a))) := S.1.2.1 a _ ha
  refine W.iast hx hb hcell ((hE.1.2 0 (K 0, .int) rfl).1 n (fun j => .int (M.2.1 a j))) (fun q => by cases q) (by show ¬ (i < 0 ∨ (arrV _ _ _).slots.size ≤ _); rw [arrV_size]; exact am_in_of hi) rfl rfl hd fun H1 e1 z1 o1 => ?_
  refine hk _ _ _ _ _ _ _ _ _ h (sd_kept S (S.1.write hbb ha rfl (fun q hq => ?_) (fun q hq => rfl) z1 o1 ?_) rfl (sd_locs S a _))
  · funext t; simp [am_setI, up2, hq]
  · show H1[base + a]? = some (vp_cell (K 0) (n, .inl ((am_setI M a i.toNatClampNeg x).2.1 a)))
    rw [e1, vp_cell_i, vp_cell_i, arrV_store]
    congr 2
    funext t
    by_cases ht : t = i.toNatClampNeg
    · simp [updV, am_setI, up2, ht]
    · simp [updV, am_setI, up2, ht]
theorem sd_zast (C : sd_X D K base b own cc ini nL d ce se p R s m args meth c) (hk : sd_K p l e R s m args below meth c Q D K base b G nL o ce se k) (hd : decode cc pc = .ok (.bastore, 1)) (S : sd_S D K base b G s nL o ce se L M ls H locs cells slots) {a : Nat} {i x : Int32} (hok : am_okA M a 1 i = true) (h : k (pc + 1) L q (am_setI M a i.toNatClampNeg (x &&& 1)) = some o) :
    W p l e R s m args below meth c H locs cells slots Q (F0 m pc ls ((Value.int x :: Value.int i :: Value.ref a :: q).map (cV base b))) := by
  obtain ⟨hx, hb, hml, hown, hts, hE, hbb, -⟩ := C
  obtain ⟨n, ha, hi⟩ := am_okA_of hok
  have hcell : H[base + a]? = some (vp_cell (K 1) (n, .inl (M.2.1 a))) := S.1.2.1 a _ ha
  refine W.zast hx hb hcell ((hE.1.2 1 (K 1, .boolean) rfl).1 n (fun j => .int (M.2.1 a j))) (fun q => by cases q) (by show ¬ (i < 0 ∨ (arrV _ _ _).slots.size ≤ _); rw [arrV_size]; exact am_in_of hi) rfl rfl hd fun H1 e1 z1 o1 => ?_
  refine hk _ _ _ _ _ _ _ _ _ h (sd_kept S (S.1.write hbb ha rfl (fun q hq => ?_) (fun q hq => rfl) z1 o1 ?_) rfl (sd_locs S a _))
  · funext t; simp [am_setI, up2, hq]
  · show H1[base + a]? = some (vp_cell (K 1) (n, .inl ((am_setI M a i.toNatClampNeg (x &&& 1)).2.1 a)))
    rw [e1, vp_cell_i, vp_cell_i, arrV_store]
    congr 2
    funext t
    by_cases ht : t = i.toNatClampNeg
    · simp [updV, am_setI, up2, ht, narrow]
    · simp [updV, am_setI, up2, ht]
/-- aastore -/
theorem sd_aast (C : sd_X D K base b own cc ini nL d ce se p R s m args meth c) (hk : sd_K p l e R s m args below meth c Q D K base b G nL o ce se k) (hd : decode cc pc = .ok (.aastore, 1)) (S : sd_S D K base b G s nL o ce se L M ls H locs cells slots) {a v : Nat} {i : Int32} (hok : am_okS M a v i = true) (h : k (pc + 1) L q (am_setR M a i.toNatClampNeg v) = some o) :
    W p l e R s m args below meth c H locs cells slots Q (F0 m pc ls ((Value.ref v :: Value.int i :: Value.ref a :: q).map (cV base b))) := by
  obtain ⟨hx, hb, hml, hown, hts, hE, hbb, -⟩ := C
  obtain ⟨n, ci, j, ha, hv, hkq, hi⟩ := am_okS_of hok
  obtain ⟨r, hc, hty⟩ := kq_ok K hkq
  have hcell : H[base + a]? = some (vp_cell (K (ci + 2)) (n, .inr (.inr (.inr (.inr (fun t => cR base (M.2.2 a t))))))) := S.1.2.1 a _ ha
  obtain ⟨r', hr', cellV, g1, g2, g3, -⟩ := S.1.2.1 v _ hv
  have hcls := (hE.1.1 ci r hc).2
  obtain ⟨kA, comp, k1, k2, k3, -⟩ := (hE.1.2 j _ hty).2
  have hcomp : comp = D.1 ci := Option.some.inj (k3.symm.trans hcls.1)
  subst hcomp
  obtain ⟨kC, hkC, -⟩ := hcls.2
  refine W.aast hx hb hcell (fun q h => by cases h) (fun h => by cases h) k1 k2 rfl hkC ⟨am_in_nn hi, by show _ < (arrV _ _ _).slots.size; rw [arrV_size]; exact am_in_lt hi⟩ g1 (fun q h => by rw [g3] at h; cases h) (by rw [g2]; exact hkC) (by rw [g2]; exact va_assign hcls) rfl rfl hd fun H1 e1 z1 o1 => ?_
  refine hk _ _ _ _ _ _ _ _ _ h (sd_kept S (S.1.write hbb ha rfl (fun q hq => rfl) (fun q hq => ?_) z1 o1 ?_) rfl (sd_locs S a _))
  · funext t; simp [am_setR, up2, hq]
  · show H1[base + a]? = some (vp_cell (K (ci + 2)) (n, .inr (.inr (.inr (.inr (fun t => cR base ((am_setR M a i.toNatClampNeg v).2.2 a t)))))))
    rw [e1, vp_cell_q, vp_cell_q, arrV_store]
    congr 2
    funext t
    by_cases ht : t = i.toNatClampNeg
    · simp [updV, am_setR, up2, ht, cR, va_rf]
    · simp [updV, am_setR, up2, ht]
/-- new cells -/
theorem sd_pushed {x : Sh_} {H' : Heap} (hkm : M.1.length + 1 ≤ o.2.1.length ∧ am_sz M.1 + am_szh x ≤ am_sz o.2.1) (S : sd_S D K base b G s nL o ce se L M ls H locs cells slots) (hR : am_R D K base b G s (am_new M x) H') : sd_S D K base b G s nL o ce se L (am_new M x) ls H' locs (cells + 1) (slots + am_szh x) := by
  obtain ⟨-, h2, h3, h4, h5⟩ := S
  refine ⟨hR, h2, h3, ?_, ?_⟩
  · simp [am_new]; omega
  · show slots + am_szh x + am_sz o.2.1 = se + am_sz (M.1 ++ [x])
    rw [am_sz_app, am_sz_one]; omega
theorem sd_fits {x : Sh_} (hp : (am_new M x).1 <+: o.2.1) : M.1.length + 1 ≤ o.2.1.length ∧ am_sz M.1 + am_szh x ≤ am_sz o.2.1 := by
  obtain ⟨t, ht⟩ := hp
  rw [← ht]
  constructor
  · simp [am_new]
  · show _ ≤ am_sz ((M.1 ++ [x]) ++ t)
    rw [am_sz_app, am_sz_app, am_sz_one]; omega
theorem sd_new (C : sd_X D K base b own cc ini nL d ce se p R s m args meth c) (hk : sd_K p l e R s m args below meth c Q D K base b G nL o ce se k) (hkm : ∀ pc L st M, k pc L st M = some o → M.1 <+: o.2.1) {ci idx i1 i2 : Nat} (hchk : (match cls_[ci]? with
    | some q => isW i1 (.classLink own idx q.1) && isW i2 (.instantiable q.1 q.2.2) && isW (ciL.getD ci 0) (.initialized q.1)
    | none => false) = true) (hd : decode cc pc = .ok (.new idx, 3)) (S : sd_S D K base b G s nL o ce se L M ls H locs cells slots) (h : k (pc + 3) L (.ref M.1.length :: q) (am_new M (.inl ci)) = some o) :
    W p l e R s m args below meth c H locs cells slots Q (F0 m pc ls (q.map (cV base b))) := by
  obtain ⟨hx, hb, hml, hown, hts, hE, hbb, -, -, -, hce, hse⟩ := C
  have hfit := sd_fits (hkm _ _ _ _ h)
  cases hc : cls_[ci]? with
  | none => rw [hc] at hchk; cases hchk
  | some r =>
    rw [hc] at hchk
    obtain ⟨C0, T0, N0⟩ := r
    simp only [Bool.and_eq_true] at hchk
    obtain ⟨⟨w1, w2⟩, w3⟩ := hchk
    have hN : nfT ci = N0 := by simp [nfT, hc]
    have hsz : am_szh (.inl ci) = N0 := hN
    obtain ⟨hin, hty, -, hdef, -⟩ := cls_ok ci _ hc
    have hKn := hE.1.1 ci _ hc
    have h4 := S.2.2.2.1
    have h5 := S.2.2.2.2
    rw [hsz] at hfit
    refine W.newcK hx hb hown (hts _ (isW_mem w1)) (hts _ (isW_mem w2)) (hts _ (isW_mem w3)) rfl hd (by omega) (by omega) hKn.2.1 rfl fun H1 kC hkC e1 z1 o1 => ?_
    have hnew : am_R D K base b G s (am_new M (.inl ci)) H1 := S.1.push hbb z1 o1 ⟨_, hc, (u_born (yT ci) (ws := wsG) hts hin hKn hkC e1 hty).to (fun j hj => by
      show defaultValue (yT ci j) = vp_V (cO base (fun _ => 0) (fun _ => none) ci) j
      rw [cO_V (by rw [hN]; exact hj), hdef j hj]
      by_cases h0 : fkT ci j = 0
      · simp [cF, h0]
      · simp [cF, h0, cR, va_rf])⟩
    have S' := sd_pushed (x := .inl ci) (by rw [hsz]; exact hfit) S hnew
    rw [hsz] at S'
    have := hk _ _ _ _ _ _ _ _ _ h S'
    rw [S.1.1]
    exact this
theorem sd_newa (C : sd_X D K base b own cc ini nL d ce se p R s m args meth c) (hk : sd_K p l e R s m args below meth c Q D K base b G nL o ce se k) (hkm : ∀ pc L st M, k pc L st M = some o → M.1 <+: o.2.1) {ty i1 : Nat} {t : ArrayType} (hchk : ((match ty with
    | 0 => decide (newarray.typeOf t = .int)
    | 1 => decide (newarray.typeOf t = .boolean)
    | _ => false) && isW i1 (.arrayClass (newarray.typeOf t))) = true) (hd : decode cc pc = .ok (.newarray t, 2)) (S : sd_S D K base b G s nL o ce se L M ls H locs cells slots) {x : Int32} (hi : am_in x 4000 = true) (h : k (pc + 2) L (.ref M.1.length :: q) (am_new M (.inr (ty, x.toNatClampNeg))) = some o) :
    W p l e R s m args below meth c H locs cells slots Q (F0 m pc ls ((Value.int x :: q).map (cV base b))) := by
  obtain ⟨hx, hb, hml, hown, hts, hE, hbb, -, -, -, hce, hse⟩ := C
  have hfit := sd_fits (hkm _ _ _ _ h)
  rw [Bool.and_eq_true] at hchk
  obtain ⟨w0, w1⟩ := hchk
  have hsz : am_szh (.inr (ty, x.toNatClampNeg)) = x.toNatClampNeg := rfl
  rw [hsz] at hfit
  have h4 := S.2.2.2.1
  have h5 := S.2.2.2.2
  have hlt := am_in_lt hi
  have hbytes : x.toNatClampNeg * componentBytes (newarray.typeOf t) ≤ 536870912 := by
    have : componentBytes (newarray.typeOf t) ≤ 8 := by cases newarray.typeOf t <;> simp [componentBytes]
    calc _ ≤ 4000 * 8 := Nat.mul_le_mul (by omega) this
      _ ≤ _ := by decide
  refine va_newaK hx hb (hts _ (isW_mem w1)) rfl hd rfl (am_in_nn hi) rfl hbytes (by omega) (by omega) rfl fun H1 cA e1 z1 o1 hA hNm => ?_
  have hcell : va_at D cls_ (H.size, cE K base (fun _ => 0) (fun _ => none) (.inr (ty, x.toNatClampNeg))) H1 := by
    rcases ty with _ | _ | ty
    · have e0 : newarray.typeOf t = .int := of_decide_eq_true w0
      rw [e0] at e1 hNm
      have e2 : cA = K 0 := Option.some.inj (hNm.symm.trans (hE.1.2 0 (K 0, .int) rfl).2)
      subst e2
      exact e1
    · have e0 : newarray.typeOf t = .boolean := of_decide_eq_true w0
      rw [e0] at e1 hNm
      have e2 : cA = K 1 := Option.some.inj (hNm.symm.trans (hE.1.2 1 (K 1, .boolean) rfl).2)
      subst e2
      exact e1
    · cases w0
  have := hk _ _ _ _ _ _ _ _ _ h (sd_pushed (by rw [hsz]; exact hfit) S (S.1.push hbb z1 o1 hcell))
  rw [S.1.1]
  exact this
theorem sd_anew (C : sd_X D K base b own cc ini nL d ce se p R s m args meth c) (hk : sd_K p l e R s m args below meth c Q D K base b G nL o ce se k) (hkm : ∀ pc L st M, k pc L st M = some o → M.1 <+: o.2.1) {ci i1 idx : Nat} (hchk : (match cls_[ci]? with
    | some q => isW i1 (.classLink own idx q.1) && decide (q.1 ∈ aoL) && (kqT (ci + 2)).isSome
    | none => false) = true) (hd : decode cc pc = .ok (.anewarray idx, 3)) (S : sd_S D K base b G s nL o ce se L M ls H locs cells slots) {x : Int32} (hi : am_in x 4000 = true) (h : k (pc + 3) L (.ref M.1.length :: q) (am_new M (.inr (ci + 2, x.toNatClampNeg))) = some o) :
    W p l e R s m args below meth c H locs cells slots Q (F0 m pc ls ((Value.int x :: q).map (cV base b))) := by
  obtain ⟨hx, hb, hml, hown, hts, hE, hbb, -, -, -, hce, hse⟩ := C
  have hfit := sd_fits (hkm _ _ _ _ h)
  cases hc : cls_[ci]? with
  | none => rw [hc] at hchk; cases hchk
  | some r =>
    rw [hc] at hchk
    simp only [Bool.and_eq_true, decide_eq_true_eq] at hchk
    obtain ⟨⟨w1, w2⟩, w3⟩ := hchk
    obtain ⟨j, hj⟩ := Option.isSome_iff_exists.mp w3
    obtain ⟨r', hc', hty⟩ := kq_ok K hj
    have hr : r' = r := Option.some.inj (hc'.symm.trans hc)
    subst hr
    have hsz : am_szh (.inr (ci + 2, x.toNatClampNeg)) = x.toNatClampNeg := rfl
    rw [hsz] at hfit
    have h4 := S.2.2.2.1
    have h5 := S.2.2.2.2
    have hlt := am_in_lt hi
    refine W.anew hx hb hown (hts _ (isW_mem w1)) (va_AO.use (hE.2.2 _ w2)) rfl hd rfl (am_in_nn hi) (by omega) (by omega) (by omega) fun cA kA comp f1 f2 f3 f4 => ?_
    generalize hH1 : H.push ({ cls := cA, slots := Array.replicate x.toNatClampNeg .null, vm := .none } : Cell) = H1
    have z1 : H1.size = H.size + 1 := by rw [← hH1, Array.size_push]
    have e1 : H1[H.size]? = some (arrV cA x.toNatClampNeg (fun _ => .null)) := by rw [← hH1, Array.getElem?_push_size, ← arrV_new]
    have o1 : ∀ q : Nat, q < H.size → H1[q]? = H[q]? := fun q hq => by rw [← hH1, Array.getElem?_push, if_neg (Nat.ne_of_lt hq)]
    obtain ⟨-, -, -, -, -, g4⟩ := (hE.1.2 j _ hty).2
    have e2 : cA = K (ci + 2) := Option.some.inj (f1.symm.trans g4)
    subst e2
    have := hk _ _ _ _ _ _ _ _ _ h (sd_pushed (by rw [hsz]; exact hfit) S (S.1.push hbb z1 o1 e1))
    rw [S.1.1]
    exact this
end SDW
