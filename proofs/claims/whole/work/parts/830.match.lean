/-! SEEKING: the reference -/
section MATCH
variable {G : Nat × (Nat → Int32)} {d : Nat} {S : St_}
def pMx (a j : Nat) : Prop := gV a j ∨ (a = 91 ∧ j = 11)
theorem RepM.ex {P : Nat → Nat → Prop} {M M' : Mm_} {e : Nat} (h : RepM M S) (hO : Ok S) (f : Fx P M M') (hp : ∀ a j, P a j → pMx a j) (he : M'.2.1 91 11 = zI (e : Int)) : RepM M' (S.sE (e)) := by
  obtain ⟨h0, h1, h2, h3, h4, h5, h6, h7⟩ := h
  unfold pMx gV at hp
  exact ⟨f.1, h1.kx f (fun a j q => by have := hp _ _ q; omega), h2.kx f (fun q => by have := hp _ _ q; omega) (fun i _ _ q => by have := hp _ _ q; omega), h3.kx hO.1 f (fun a j q => by have := hp _ _ q; omega), h4.kx f (fun a j q => by have := hp _ _ q; omega), h5.kx f (fun a j q => by have := hp _ _ q; omega), h6.kx f (fun a j q => by have := hp _ _ q; omega), he⟩
theorem an1 : (zI 1 &&& 1 : Int32) = zI 1 := by decide +kernel
theorem an0 : (zI 0 &&& 1 : Int32) = zI 0 := by decide +kernel
/-- the documents and conditions, which stay -/
def mDC (M : Mm_) (S : St_) : Prop := WM M ∧ mSto M S.docs ∧ mCnd M S.cnd
theorem mDC.kx {P : Nat → Nat → Prop} {M M' : Mm_} (h : mDC M S) (hO : Ok S) (f : Fx P M M') (hp : ∀ a j, P a j → pMx a j) : mDC M' S := by
  obtain ⟨h0, h1, h2⟩ := h
  unfold pMx gV at hp
  exact ⟨f.1, h1.kx hO.1 f (fun a j q => by have := hp _ _ q; omega), h2.kx f (fun a j q => by have := hp _ _ q; omega)⟩
def pK (k a j : Nat) : Prop := pCm a j ∨ (a = 99 ∧ j = k)
theorem pK_x {k a j : Nat} (h : pK k a j) : pMx a j := by unfold pK pCm at h; unfold pMx gV; omega
theorem mm_c {k : Nat} {x1 x3 : Int32} (hO : Ok S) (hk : k < S.docs.length) : ∀ (m c : Nat) (v : Int) (M : Mm_), c + m = S.cnd.length → (v = 0 ∨ v = 1) → M.2.1 99 k = zI v → mDC M S → ∃ (M' : Mm_) (v' : Int), (v' = 0 ∨ v' = 1) ∧ (v' = 1 ↔ (v = 1 ∧ ∀ c', c ≤ c' → c' < S.cnd.length → cH S k c')) ∧ M'.2.1 99 k = zI v' ∧ Fx (pK k) M M' ∧ ∀ r, EvC G (d + 9) m_M_match 40 [some (.ref 91), some (.int x1), some (.int (zI ((k + 1 : Nat) : Int))), some (.int x3), some (.int (zI (S.cnd.length : Int)))] [] M' r → EvC G (d + 9) m_M_match 98 [some (.ref 91), some (.int x1), some (.int (zI (k : Int))), some (.int x3), some (.int (zI (c : Int)))] [] M r
  | 0, c, v, M, hc, hv, h1, h => by
    have hl := h.2.2.1
    have hl' := h.2.1.1
    refine ⟨M, v, hv, ⟨fun q => ⟨q, fun c' q1 q2 => by omega⟩, fun q => q.1⟩, h1, Fx.rf h.1, fun r hr => ev_M_match_98 ?_⟩
    rw [h.2.2.2.1, if_neg (fun q => by rw [zI_lt ⟨by omega, by omega⟩ ⟨by omega, by omega⟩] at q; omega), zI_add, show (k : Int) + 1 = ((k + 1 : Nat) : Int) by omega]
    rw [show S.cnd.length = c by omega] at hr
    exact ⟨okF_W h.1 rfl, hr⟩
  | m + 1, c, v, M, hc, hv, h1, h => by
    have hW := h.1
    have hl := h.2.2.1
    have hl' := h.2.1.1
    have ec : zI (c : Int) + zI 1 = zI ((c + 1 : Nat) : Int) := by rw [zI_add, show (c : Int) + 1 = ((c + 1 : Nat) : Int) by omega]
    have h1' : M.2.1 (91 + 8) k = zI v := h1
    have a8 : ∀ {M' : Mm_}, WM M' → am_okA M' (91 + 8) 1 (zI (k : Int)) = true := fun hW' => okA_z hW' (show sg0[91 + 8]? = some (.inr (1, 16)) from rfl) (by omega) (by omega)
    rcases hv with rfl | rfl
    · have f0 : Fp (pK k) M (am_setI M 99 k (zI 0)) := Fp.set (Or.inr ⟨rfl, rfl⟩)
      have f0x := f0.x hW
      obtain ⟨M', v', g1, g2, g3, g4, g5⟩ := mm_c (x1 := x1) (x3 := x3) hO hk m (c + 1) 0 (am_setI M 99 k (zI 0)) (by omega) (Or.inl rfl) setI_self (h.kx hO f0x (fun a j q => pK_x q))
      refine ⟨M', v', g1, ⟨fun q => absurd (g2.mp q).1 (by decide), fun q => absurd q.1 (by decide)⟩, g3, f0x.tr g4, fun r hr => ev_M_match_98 ?_⟩
      rw [h.2.2.2.1, if_pos ((zI_lt ⟨by omega, by omega⟩ ⟨by omega, by omega⟩).mpr (by omega)), zI_nat (show k < 2147483648 by omega), h1', an0, zI_0, if_pos rfl, ec]
      exact ⟨okF_W hW rfl, okF_W hW rfl, okF_W hW rfl, a8 hW, a8 hW, g5 r hr⟩
    · have h60 := (hO.1.1 k hk).2.1
      obtain ⟨M1, x, e, w, f1⟩ := e_M_holds (G := G) (d := d) (di := k) (h.2.1.at hW hO.1 hk) (hO.1.acc hk) (by omega) (h.2.2.2.2 c (by omega))
      have f1x := f1.x hW
      have W1 := f1x.1
      have key : ∀ a1 : Int, (a1 = 0 ∨ a1 = 1) → (a1 = 1 ↔ cH S k c) → x = zI a1 → ∃ (M' : Mm_) (v' : Int), (v' = 0 ∨ v' = 1) ∧ (v' = 1 ↔ ((1 : Int) = 1 ∧ ∀ c', c ≤ c' → c' < S.cnd.length → cH S k c')) ∧ M'.2.1 99 k = zI v' ∧ Fx (pK k) M M' ∧ ∀ r, EvC G (d + 9) m_M_match 40 [some (.ref 91), some (.int x1), some (.int (zI ((k + 1 : Nat) : Int))), some (.int x3), some (.int (zI (S.cnd.length : Int)))] [] M' r → EvC G (d + 9) m_M_match 98 [some (.ref 91), some (.int x1), some (.int (zI (k : Int))), some (.int x3), some (.int (zI (c : Int)))] [] M r := fun a1 h01 hw hx => by
        have f2 : Fp (pK k) M1 (am_setI M1 99 k (zI a1)) := Fp.set (Or.inr ⟨rfl, rfl⟩)
        have F : Fx (pK k) M (am_setI M1 99 k (zI a1)) := (f1x.up (fun a j q => Or.inl q)).tr (f2.x W1)
        obtain ⟨M', v', g1, g2, g3, g4, g5⟩ := mm_c (x1 := x1) (x3 := x3) hO hk m (c + 1) a1 (am_setI M1 99 k (zI a1)) (by omega) h01 setI_self (h.kx hO F (fun a j q => pK_x q))
        refine ⟨M', v', g1, ⟨fun q => ⟨rfl, fun c' q1 q2 => ?_⟩, fun q => g2.mpr ⟨hw.mpr (q.2 c (Nat.le_refl _) (by omega)), fun c' q1 q2 => q.2 c' (by omega) q2⟩⟩, g3, F.tr g4, fun r hr => ev_M_match_98 ?_⟩
        · rcases Nat.lt_or_ge c c' with q3 | q3
          · exact (g2.mp q).2 c' (by omega) q2
          · have : c' = c := by omega
            rw [this]; exact hw.mp (g2.mp q).1
        · rw [h.2.2.2.1, if_pos ((zI_lt ⟨by omega, by omega⟩ ⟨by omega, by omega⟩).mpr (by omega)), zI_nat (show k < 2147483648 by omega), h1', zI_0, if_neg z10]
          refine ⟨okF_W hW rfl, okF_W hW rfl, okF_W hW rfl, a8 hW, okO_W hW rfl, _, _, e, ev_M_match_128 ?_⟩
          rw [zI_nat (show k < 2147483648 by omega), ec, an0, an1, zI_0]
          rcases h01 with rfl | rfl
          · rw [hx, if_pos rfl]
            exact ⟨a8 W1, g5 r hr⟩
          · rw [hx, if_neg z10]
            exact ⟨a8 W1, g5 r hr⟩
      rcases w with ⟨w1, w2⟩ | ⟨w1, w2⟩
      · exact key 1 (Or.inr rfl) ⟨fun _ => w1, fun _ => rfl⟩ w2
      · exact key 0 (Or.inl rfl) ⟨fun q => absurd q (by decide), fun q => absurd q w1⟩ w2
/-- what matches, as the reference has it -/
def mMt (M : Mm_) (S : St_) (k : Nat) : Prop := ∀ i, i < k → b01 (mtc S i) (M.2.1 99 i)
theorem mm_l (hO : Ok S) : ∀ (m k : Nat) (M : Mm_), k + m = S.docs.length → RepM M (S.sE ((sL S k).length)) → mMt M S k → ∃ M', (∀ u3 u4 : Option Value, EvC G (d + 9) m_M_match 40 [some (.ref 91), some (.int (zI (ldr S))), some (.int (zI (k : Int))), u3, u4] [] M (none, M')) ∧ RepM M' (sk S) ∧ mMt M' S S.docs.length ∧ Fx pMx M M'
  | 0, k, M, hk, h, hM => by
    have hl : S.docs.length ≤ 16 := h.2.2.2.1.1
    have ek : S.docs.length = k := by omega
    refine ⟨M, fun u3 u4 => ev_M_match_40 ?_, by unfold sk; rw [ek]; exact h, by rw [ek]; exact hM, Fx.rf h.1⟩
    rw [show M.2.1 91 2 = zI (S.docs.length : Int) from h.2.2.2.1.2.1, if_neg (fun q => by rw [zI_lt ⟨by omega, by omega⟩ ⟨by omega, by omega⟩] at q; omega)]
    exact ⟨okF_W h.1 rfl, rfl⟩
  | m + 1, k, M, hk, h, hM => by
    have hW := h.1
    have hl : S.docs.length ≤ 16 := h.2.2.2.1.1
    have hk' : k < S.docs.length := by omega
    have slk := sL_len (S := S) (k := k)
    have lr := ldr_rg (S := S)
    have hcl : S.cnd.length ≤ 3 := h.2.2.2.2.2.1.1
    have h60 := (hO.1.1 k hk').2.1
    have hO' : ∀ e, e ≤ 16 → Ok (S.sE (e)) := fun e he => ⟨hO.1, he, hO.2.2⟩
    -- from 66 on
    have st : ∀ (z : Int) (M2 : Mm_), (z = 0 ∨ z = 1) → (z = 1 ↔ sn S k) → RepM M2 (S.sE ((sL S k).length)) → mMt M2 S k → ∃ M', (∀ u3 u4 : Option Value, EvC G (d + 9) m_M_match 66 [some (.ref 91), some (.int (zI (ldr S))), some (.int (zI (k : Int))), u3, u4] [.int (zI z)] M2 (none, M')) ∧ RepM M' (sk S) ∧ mMt M' S S.docs.length ∧ Fx pMx M2 M' := fun z M2 hz hs h2 m2 => by
      have W2 := h2.1
      have es : ((sL S (k + 1)).length : Int) = ((sL S k).length : Int) + z := by
        rcases hz with rfl | rfl
        · rw [(sL_succ (S := S) (k := k)).2 (fun q => absurd (hs.mpr q) (by decide))]; omega
        · rw [(sL_succ (S := S) (k := k)).1 (hs.mp rfl), List.length_append, List.length_singleton]; omega
      have f3 : Fp (fun a j => (a = 91 ∧ j = 11) ∨ (a = 99 ∧ j = k)) M2 (am_setI (am_setI M2 91 11 (zI ((sL S (k + 1)).length : Int))) 99 k (zI z)) := Fp.tr (Fp.set (Or.inl ⟨rfl, rfl⟩)) (Fp.set (Or.inr ⟨rfl, rfl⟩))
      have f3x := f3.x W2
      have f3m : Fx pMx M2 (am_setI (am_setI M2 91 11 (zI ((sL S (k + 1)).length : Int))) 99 k (zI z)) := f3x.up (fun a j q => by unfold pMx gV; omega)
      have h3 : RepM (am_setI (am_setI M2 91 11 (zI ((sL S (k + 1)).length : Int))) 99 k (zI z)) (S.sE ((sL S (k + 1)).length)) := h2.ex (hO' _ (by omega)) f3m (fun a j q => q) (by rw [setI_cell (by decide), setI_self])
      obtain ⟨M4, v', g1, g2, g3, g4, g5⟩ := mm_c (G := G) (d := d) (k := k) (x1 := zI (ldr S)) (x3 := zI z) hO hk' S.cnd.length 0 z _ (Nat.zero_add _) hz setI_self ⟨h3.1, h3.2.2.2.1, h3.2.2.2.2.2.1⟩
      have slk1 := sL_len (S := S) (k := k + 1)
      have h4 := h3.k (hO' _ (by omega)) g4 (fun a j q => Or.inl (by unfold pK pCm at q; unfold gV; omega))
      have m4 : mMt M4 S (k + 1) := fun i hi => by
        by_cases e : i = k
        · rw [e, g3]
          have iff : v' = 1 ↔ mtc S k := ⟨fun q => ⟨hs.mp (g2.mp q).1, fun c hc => (g2.mp q).2 c (Nat.zero_le _) hc⟩, fun q => g2.mpr ⟨hs.mpr q.1, fun c _ hc => q.2 c hc⟩⟩
          rcases g1 with g1 | g1
          · rw [g1]; exact b01_f (fun q => by have := iff.mpr q; omega)
          · rw [g1]; exact b01_t (iff.mp g1)
        · rw [g4.2.2 _ _ (fun q => by unfold pK pCm at q; omega), f3.2.2 _ _ (by omega)]
          exact m2 i (by omega)
      obtain ⟨M6, q1, q2, q3, q4⟩ := mm_l hO m (k + 1) M4 (by omega) h4 m4
      refine ⟨M6, fun u3 u4 => ev_M_match_66 ?_, q2, q3, (f3m.tr (g4.up (fun a j q => pK_x q))).tr q4⟩
      have x11 : M2.2.1 91 11 = zI ((sL S k).length : Int) := h2.2.2.2.2.2.2.2
      have s85 : EvC G (d + 9) m_M_match 85 [some (.ref 91), some (.int (zI (ldr S))), some (.int (zI (k : Int))), some (.int (zI z)), u4] [.int (zI ((sL S (k + 1)).length : Int)), .ref 91] M2 (none, M6) := by
        refine ev_M_match_85 ?_
        have az : (zI z &&& 1 : Int32) = zI z := by
          rcases hz with rfl | rfl
          · exact an0
          · exact an1
        rw [zI_nat (show k < 2147483648 by omega), az]
        exact ⟨okP_W W2 rfl rfl, okF_W (WM_setI W2) rfl, okA_z (WM_setI W2) (show sg0[91 + 8]? = some (.inr (1, 16)) from rfl) (by omega) (by omega), g5 _ (q1 _ _)⟩
      rw [x11, zI_0, zI_add]
      rcases hz with rfl | rfl
      · rw [if_pos rfl, show ((sL S k).length : Int) = ((sL S (k + 1)).length : Int) by omega]
        exact ⟨okF_W W2 rfl, s85⟩
      · rw [if_neg z10, show ((sL S k).length : Int) + 1 = ((sL S (k + 1)).length : Int) by omega]
        exact ⟨okF_W W2 rfl, s85⟩
    have d2 : M.2.1 91 2 = zI (S.docs.length : Int) := h.2.2.2.1.2.1
    by_cases cl : ldr S = -1
    · obtain ⟨M6, q1, q2, q3, q4⟩ := st 1 M (Or.inr rfl) ⟨fun _ => Or.inl cl, fun _ => rfl⟩ h hM
      refine ⟨M6, fun u3 u4 => ev_M_match_40 ?_, q2, q3, q4⟩
      rw [d2, if_pos ((zI_lt ⟨by omega, by omega⟩ ⟨by omega, by omega⟩).mpr (by omega)), zI_0, if_pos ((zI_lt ⟨by omega, by omega⟩ ⟨by omega, by omega⟩).mpr (by omega))]
      exact ⟨okF_W hW rfl, ev_M_match_61 (q1 _ _)⟩
    · obtain ⟨c, hc⟩ : ∃ c : Nat, ldr S = (c : Int) := ⟨(ldr S).toNat, by omega⟩
      have hcc : c < S.cnd.length := by omega
      obtain ⟨M1, x, e, w, f1⟩ := e_M_holds (G := G) (d := d) (di := k) (mSto.at (D := S.docs) hW h.2.2.2.1 hO.1 hk') (hO.1.acc hk') (by omega) (h.2.2.2.2.2.1.2.2 c hcc)
      have f1x := (f1.x hW).up (fun a j q => pCm_gV q)
      have h1 := h.k (hO' _ (by omega)) f1x (fun a j q => Or.inl q)
      have m1 : mMt M1 S k := fun i hi => by rw [f1.2.2 _ _ (fun q => by unfold pCm at q; omega)]; exact hM i hi
      have sc : sn S k ↔ cH S k c := by
        unfold sn
        rw [hc, Int.toNat_natCast]
        constructor
        · rintro (q | q)
          · omega
          · exact q
        · exact Or.inr
      have pre : ∀ M', (∀ u3 u4 : Option Value, EvC G (d + 9) m_M_match 58 [some (.ref 91), some (.int (zI (ldr S))), some (.int (zI (k : Int))), u3, u4] [.int x] M1 (none, M')) → ∀ u3 u4 : Option Value, EvC G (d + 9) m_M_match 40 [some (.ref 91), some (.int (zI (ldr S))), some (.int (zI (k : Int))), u3, u4] [] M (none, M') := fun M' h' u3 u4 => by
        refine ev_M_match_40 ?_
        rw [d2, if_pos ((zI_lt ⟨by omega, by omega⟩ ⟨by omega, by omega⟩).mpr (by omega)), zI_0, if_neg (fun q => by rw [zI_lt ⟨by omega, by omega⟩ ⟨by omega, by omega⟩] at q; omega)]
        refine ⟨okF_W hW rfl, okO_W hW rfl, _, _, ?_, h' u3 u4⟩
        rw [hc]
        exact e
      rcases w with ⟨w1, w2⟩ | ⟨w1, w2⟩
      · obtain ⟨M6, q1, q2, q3, q4⟩ := st 1 M1 (Or.inr rfl) ⟨fun _ => sc.mpr w1, fun _ => rfl⟩ h1 m1
        refine ⟨M6, pre M6 (fun u3 u4 => ev_M_match_58 ?_), q2, q3, (f1x.up (fun a j q => Or.inl q)).tr q4⟩
        rw [w2, zI_0, if_neg z10]
        exact ev_M_match_61 (q1 _ _)
      · obtain ⟨M6, q1, q2, q3, q4⟩ := st 0 M1 (Or.inl rfl) ⟨fun q => absurd q (by decide), fun q => absurd (sc.mp q) w1⟩ h1 m1
        refine ⟨M6, pre M6 (fun u3 u4 => ev_M_match_58 ?_), q2, q3, (f1x.up (fun a j q => Or.inl q)).tr q4⟩
        rw [w2, zI_0, if_pos rfl, ← zI_0]
        exact q1 _ _
theorem mby_l {M : Mm_} {r : Out_} (h : RepM M S) : ∀ (k : Nat), k ≤ S.cnd.length → EvC G (d + 2) m_M_match 40 [some (.ref 91), some (.int (zI (ldr S))), some (.int (zI 0)), none, none] [] (am_setI M 91 11 (zI 0)) r → EvC G (d + 2) m_M_match 9 [some (.ref 91), some (.int (zI (ldG S.ix S.cnd (S.cnd.length - k) k))), some (.int (zI ((k : Int) - 1))), none, none] [] M r
  | 0, hk, hr => by
    refine ev_M_match_9 ?_
    have := h.2.2.2.2.2.1.1
    rw [zI_0, if_pos ((zI_lt ⟨by omega, by omega⟩ ⟨by omega, by omega⟩).mpr (by omega))]
    exact ⟨okP_W h.1 rfl rfl, hr⟩
  | k + 1, hk, hr => by
    have hl := h.2.2.2.2.2.1.1
    obtain ⟨x, e, w⟩ := e_M_uses (G := G) (d := d) (c := k) h (by omega)
    have ih := mby_l h k (by omega) hr
    have en : S.cnd.length - k = (S.cnd.length - (k + 1)) + 1 := by omega
    rw [en] at ih
    unfold ldG at ih
    refine ev_M_match_9 ?_
    rw [zI_0, if_neg (fun q => by rw [zI_lt ⟨by omega, by omega⟩ ⟨by omega, by omega⟩] at q; omega), show ((k + 1 : Nat) : Int) - 1 = (k : Int) by omega]
    refine ⟨okO_W h.1 rfl, _, _, e, ev_M_match_18 ?_⟩
    rw [zI_0, zI_add, show (k : Int) + -1 = (k : Int) - 1 by omega]
    rcases w with ⟨w1, w2⟩ | ⟨w1, w2⟩
    · rw [if_pos (dcd_t w1)] at ih
      rw [w2, if_neg z10]
      exact ih
    · rw [if_neg (dcd_f w1)] at ih
      rw [w2, if_pos rfl]
      exact ih
theorem e_M_match {M : Mm_} (h : RepM M S) (hO : Ok S) : ∃ M', Ev G (d + 9) 125 [.ref 91] M (none, M') ∧ RepM M' (sk S) ∧ mMt M' S S.docs.length ∧ Fx pMx M M' := by
  have hW := h.1
  have f0 : Fx pMx M (am_setI M 91 11 (zI 0)) := Fx.setI hW (Or.inr ⟨rfl, rfl⟩)
  have h0 : RepM (am_setI M 91 11 (zI 0)) (S.sE ((sL S 0).length)) := h.ex hO f0 (fun a j q => q) (by rw [setI_self]; rfl)
  obtain ⟨M', q1, q2, q3, q4⟩ := mm_l (G := G) (d := d) hO S.docs.length 0 _ (Nat.zero_add _) h0 (fun i hi => by omega)
  refine ⟨M', ev_of (q := mt_M_match) rfl (ev_M_match_0 ?_), q2, q3, f0.tr q4⟩
  have := mby_l (G := G) (d := d + 7) h S.cnd.length (Nat.le_refl _) (q1 none none)
  rw [Nat.sub_self] at this
  rw [h.2.2.2.2.2.1.2.1, zI_sub]
  exact ⟨okF_W hW rfl, this⟩
theorem RepM.fd {P : Nat → Nat → Prop} {M M' : Mm_} {F : List Int} (h : RepM M S) (hO : Ok S) (f : Fx P M M') (hp : ∀ a j, P a j → (a = 91 ∧ j = 9) ∨ a = 98) (hF : mFnd M' F) : RepM M' (S.sF (F)) := by
  obtain ⟨h0, h1, h2, h3, h4, h5, h6, h7⟩ := h
  exact ⟨f.1, h1.kx f (fun a j q => by have := hp _ _ q; omega), h2.kx f (fun q => by have := hp _ _ q; omega) (fun i _ _ q => by have := hp _ _ q; omega), h3.kx hO.1 f (fun a j q => by have := hp _ _ q; omega), h4.kx f (fun a j q => by have := hp _ _ q; omega), h5.kx f (fun a j q => by have := hp _ _ q; omega), hF, by rw [f.2.2 _ _ (fun q => by have := hp _ _ q; omega)]; exact h7⟩
theorem mfi_l (hl : S.docs.length ≤ 16) : ∀ (m k : Nat) (M : Mm_), k + m = S.docs.length → WM M → M.2.1 91 2 = zI (S.docs.length : Int) → mMt M S S.docs.length → (∀ i, i < S.docs.length → M.2.1 94 i = zI (dN S.docs i)) → M.2.1 91 9 = zI ((mL S k).length : Int) → (∀ i, i < (mL S k).length → M.2.1 98 i = zI (dN S.docs ((mL S k).getD i 0))) → ∃ M', EvC G d m_M_find 11 [some (.ref 91), some (.int (zI (k : Int)))] [] M (some (.int (zI ((mL S S.docs.length).length : Int))), M') ∧ M'.2.1 91 9 = zI ((mL S S.docs.length).length : Int) ∧ (∀ i, i < (mL S S.docs.length).length → M'.2.1 98 i = zI (dN S.docs ((mL S S.docs.length).getD i 0))) ∧ Fp (fun a j => (a = 91 ∧ j = 9) ∨ a = 98) M M'
  | 0, k, M, hk, hW, h1, h2, h3, h4, h5 => by
    have ek : S.docs.length = k := by omega
    refine ⟨M, ev_M_find_11 ?_, by rw [ek]; exact h4, by rw [ek]; exact h5, Fp.rf⟩
    rw [h1, if_neg (fun q => by rw [zI_lt ⟨by omega, by omega⟩ ⟨by omega, by omega⟩] at q; omega), h4, ek]
    exact ⟨okF_W hW rfl, okF_W hW rfl, rfl⟩
  | m + 1, k, M, hk, hW, h1, h2, h3, h4, h5 => by
    have ek : zI (k : Int) + zI 1 = zI ((k + 1 : Nat) : Int) := by rw [zI_add, show (k : Int) + 1 = ((k + 1 : Nat) : Int) by omega]
    have ml := mL_len (S := S) (k := k)
    have a8 : am_okA M (91 + 8) 1 (zI (k : Int)) = true := okA_z hW (show sg0[91 + 8]? = some (.inr (1, 16)) from rfl) (by omega) (by omega)
    rcases h2 k (by omega) with ⟨w1, w2⟩ | ⟨w1, w2⟩
    · have em := (mL_succ (S := S) (k := k)).1 w1
      have fp : Fp (fun a j => (a = 91 ∧ j = 9) ∨ a = 98) M (am_setI (am_setI M 98 (mL S k).length (zI (dN S.docs k))) 91 9 (zI (((mL S k).length + 1 : Nat) : Int))) := Fp.tr (Fp.set (Or.inr rfl)) (Fp.set (Or.inl ⟨rfl, rfl⟩))
      obtain ⟨M', e, g1, g2, g3⟩ := mfi_l hl m (k + 1) (am_setI (am_setI M 98 (mL S k).length (zI (dN S.docs k))) 91 9 (zI (((mL S k).length + 1 : Nat) : Int))) (by omega) (fp.WM hW) (by rw [setI_idx (by decide), setI_cell (by decide)]; exact h1) (fun i hi => by rw [setI_cell (by decide), setI_cell (by decide)]; exact h2 i hi) (fun i hi => by rw [setI_cell (by decide), setI_cell (by decide)]; exact h3 i hi) (by rw [setI_self, em, List.length_append, List.length_singleton]) (fun i hi => by
        rw [em] at hi ⊢
        rw [List.length_append, List.length_singleton] at hi
        rw [setI_cell (by decide)]
        by_cases ei : i = (mL S k).length
        · rw [ei, setI_self, getD_last]
        · rw [setI_idx ei, getD_snoc (by omega)]
          exact h5 i (by omega))
      refine ⟨M', ev_M_find_11 ?_, g1, g2, fp.tr g3⟩
      have e5 : zI ((mL S k).length : Int) + zI 1 = zI (((mL S k).length + 1 : Nat) : Int) := by rw [zI_add, show ((mL S k).length : Int) + 1 = (((mL S k).length + 1 : Nat) : Int) by omega]
      rw [h1, if_pos ((zI_lt ⟨by omega, by omega⟩ ⟨by omega, by omega⟩).mpr (by omega)), zI_nat (show k < 2147483648 by omega), show M.2.1 (91 + 8) k = zI 1 from w2, zI_0, if_neg z10, h4, zI_nat (show (mL S k).length < 2147483648 by omega), show M.2.1 (91 + 3) k = _ from h3 k (by omega), ek, setI_cell (show (91 : Nat) ≠ 91 + 7 by decide), h4, e5]
      exact ⟨okF_W hW rfl, okF_W hW rfl, a8, okF_W hW rfl, okF_W hW rfl, okF_W hW rfl, okA_z hW (show sg0[91 + 3]? = some (.inr (0, 16)) from rfl) (by omega) (by omega), okA_z hW (show sg0[91 + 7]? = some (.inr (0, 16)) from rfl) (by omega) (by omega), okF_W (WM_setI hW) rfl, okP_W (WM_setI hW) rfl rfl, e⟩
    · have em := (mL_succ (S := S) (k := k)).2 w1
      obtain ⟨M', e, g1, g2, g3⟩ := mfi_l hl m (k + 1) M (by omega) hW h1 h2 h3 (by rw [em]; exact h4) (by rw [em]; exact h5)
      refine ⟨M', ev_M_find_11 ?_, g1, g2, g3⟩
      rw [h1, if_pos ((zI_lt ⟨by omega, by omega⟩ ⟨by omega, by omega⟩).mpr (by omega)), zI_nat (show k < 2147483648 by omega), show M.2.1 (91 + 8) k = zI 0 from w2, zI_0, if_pos rfl, ek]
      exact ⟨okF_W hW rfl, okF_W hW rfl, a8, e⟩
theorem Ok.sk (h : Ok S) (hl : S.docs.length ≤ 16) : Ok (sk S) := ⟨h.1, by have := sL_len (S := S) (k := S.docs.length); show (sL S S.docs.length).length ≤ 16; omega, h.2.2⟩
theorem e_M_find {M : Mm_} (h : RepM M S) (hO : Ok S) : ∃ M', Ev G (d + 10) 124 [.ref 91] M (some (.int (zI (sp_find S).1)), M') ∧ RepM M' (sp_find S).2 ∧ Fx gM M M' := by
  have hW := h.1
  obtain ⟨M1, e1, h1, m1, f1⟩ := e_M_match (G := G) (d := d) h hO
  obtain ⟨d1, d2, d3⟩ := h1.2.2.2.1
  have d1 : S.docs.length ≤ 16 := d1
  have W1 := h1.1
  have ml := mL_len (S := S) (k := S.docs.length)
  have f2 : Fp (fun a j => (a = 91 ∧ j = 9) ∨ a = 98) M1 (am_setI M1 91 9 (zI 0)) := Fp.set (Or.inl ⟨rfl, rfl⟩)
  obtain ⟨M2, e2, g1, g2, g3⟩ := mfi_l (G := G) (d := d + 10) d1 S.docs.length 0 (am_setI M1 91 9 (zI 0)) (Nat.zero_add _) (f2.WM W1) (by rw [setI_idx (by decide)]; exact d2) (fun i hi => by rw [setI_cell (by decide)]; exact m1 i hi) (fun i hi => by rw [setI_cell (by decide)]; exact (d3 i hi).2.2) (by rw [setI_self]; rfl) (fun i hi => by cases hi)
  have F := (f2.tr g3).x W1
  refine ⟨M2, ev_of (q := mt_M_find) rfl (ev_M_find_0 ⟨okO_W hW rfl, _, e1, ev_M_find_4 ⟨okP_W W1 rfl rfl, e2⟩⟩), h1.fd (hO.sk d1) F (fun a j q => q) ⟨by rw [List.length_map]; omega, by rw [List.length_map]; exact g1, fun i hi => ?_⟩, (f1.up (fun a j q => ?_)).tr (F.up (fun a j q => by unfold gM; omega))⟩
  · rw [List.length_map] at hi
    rw [map_dN hi]
    exact g2 i hi
  · unfold pMx gV at q
    unfold gM
    omega
end MATCH
