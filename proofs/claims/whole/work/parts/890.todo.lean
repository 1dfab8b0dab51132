theorem law_ev (G : Nat × (Nat → Int32)) (hL : G.1 ≤ 1536) : ∃ o : Out_, EvC G 12 m_W_law 0 (am_loc 4 [.retAddr 0]) [] M00 o ∧ o.1 = some (.int 1) ∧ o.2.1.length ≤ 600000 ∧ am_sz o.2.1 ≤ 7302249 := by
  sorry
