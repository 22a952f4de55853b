/-! done -/
theorem i_vc_done {k : Nat} {u : SX} {v : SY} (I : i_Rel k u v) (hk : k + 3 ≤ 1536) : wpX_done (fun r => wpY_done (fun r' => r' = r ∧ i_Rel (k + 3) u v) v) u := by
  obtain ⟨d, st, pr, bo, hs, g1, g2, ca, re, de, ke, rfl, rfl, J⟩ := I
  exact ⟨rfl, go_mk J⟩
