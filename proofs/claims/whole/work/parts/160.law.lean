/-! THE LAW'S BODY as a run of the abstract machine: what a run gives -/
def M00 : Mm_ := ([], fun _ _ => 0, fun _ _ => none)
/-- classes and array classes -/
theorem st_E {args : Array Value} {s : State} (hts : ∀ w ∈ lw_tbl, w.before args s = true) : ∃ (D : va_G) (K : Nat → ClassId), am_E D K s := by
  have hG : ∀ w ∈ wsG, w.before args s = true := fun w hw => hts w (List.mem_filter.mp hw).1
  have h1 : ∀ c : Nat, ∃ q : ClassId × (Nat → Nat), ∀ r, cls_[c]? = some r → u_Kn s r.1 r.2.1 r.2.2 q.1 q.2 := by
    intro c
    cases hc : cls_[c]? with
    | none => exact ⟨(0, fun _ => 0), fun r h => by cases h⟩
    | some r =>
      obtain ⟨cC, iS, h⟩ := u_known (ws := wsG) (C := r.1) (T := r.2.1) (N := r.2.2) hG (cls_ok c r hc).1 (hG _ (cls_inst c r hc))
      exact ⟨(cC, iS), fun r' h' => by cases h'; exact h⟩
  obtain ⟨c0, k0, m0, a1, a2, a3⟩ := Cond.arrayClass_spec (hts _ st_int)
  obtain ⟨c1, k1, m1, b1, b2, b3⟩ := Cond.arrayClass_spec (hts _ st_bool)
  obtain ⟨m3, c3, k3, d1, -, d3, d4, d5⟩ := Cond.arrayOver_spec (hts _ st_over3)
  obtain ⟨m5, c5, k5, e1, -, e3, e4, e5⟩ := Cond.arrayOver_spec (hts _ st_over5)
  obtain ⟨m6, c6, k6, f1, -, f3, f4, f5⟩ := Cond.arrayOver_spec (hts _ st_over6)
  refine ⟨(fun c => (Classical.choose (h1 c)).1, fun c => (Classical.choose (h1 c)).2), fun t => if t = 0 then c0 else if t = 1 then c1 else if t = 3 then c3 else if t = 5 then c5 else c6, ⟨fun c r hr => Classical.choose_spec (h1 c) r hr, fun k q hk => ?_⟩, fun q hq => va_Nw.of rfl (hts _ (st_nest q hq)), fun C hC => ?_⟩
  · rcases k with _ | _ | _ | _ | _ | k
    · cases hk
      exact ⟨fun n z => ⟨fun k h => (by cases h), k0, a2, m0, a3⟩, a1⟩
    · cases hk
      exact ⟨fun n z => ⟨fun k h => (by cases h), k1, b2, m1, b3⟩, b1⟩
    · cases hk
      exact ⟨fun n z => ⟨fun k h => (by cases h), k3, d3, m3, d4⟩, k3, m3, d3, d4, d1, d5⟩
    · cases hk
      exact ⟨fun n z => ⟨fun k h => (by cases h), k5, e3, m5, e4⟩, k5, m5, e3, e4, e1, e5⟩
    · cases hk
      exact ⟨fun n z => ⟨fun k h => (by cases h), k6, f3, m6, f4⟩, k6, m6, f3, f4, f1, f5⟩
    · simp [am_tys] at hk
  · simp only [aoL, List.mem_cons, List.not_mem_nil, or_false] at hC
    rcases hC with rfl | rfl | rfl
    · exact va_AO.of (hts _ st_over3)
    · exact va_AO.of (hts _ st_over5)
    · exact va_AO.of (hts _ st_over6)
