/-! the methods: pass, undo, at, captured, groupSize, liberties, region -/
theorem go_J_d {d : Nat} {st : Nat → Int64} {pr bo hs g1 g2 ca : Nat → Int32} (J : go_J d st pr bo hs g1 g2 ca) : d ≤ 40 := J.1
theorem go_J_T {d : Nat} {st : Nat → Int64} {pr bo hs g1 g2 ca : Nat → Int32} (J : go_J d st pr bo hs g1 g2 ca) : go_T (st (2 * d)) (st (2 * d + 1)) bo := J.2.2.1
theorem go_J_H {d : Nat} {st : Nat → Int64} {pr bo hs g1 g2 ca : Nat → Int32} (J : go_J d st pr bo hs g1 g2 ca) (h : 0 < d) : go_T (st (2 * (d - 1))) (st (2 * (d - 1) + 1)) (fun t => hs (49 * (d - 1) + t)) := (J.2.1 (d - 1) (by omega)).1
theorem go_qx (x : Int32) : (∃ j, j < 49 ∧ x = nI j) ∨ (x < 0 ∨ nI 49 ≤ x) := by
  rcases pk_ix x (n := 49) (by decide) with h | h | h
  · exact Or.inr (Or.inl h)
  · exact Or.inr (Or.inr h)
  · exact Or.inl h
theorem i_vc_pass {k : Nat} {u : SX} {v : SY} (I : i_Rel k u v) (hk : k + 3 ≤ 1536) : wpX_pass (fun r u' => wpY_pass (fun r' v' => r' = r ∧ i_Rel (k + 3) u' v') v) u := by
  obtain ⟨d, st, pr, bo, hs, g1, g2, ca, re, de, ke, rfl, rfl, J⟩ := I
  have hd := go_J_d J
  unfold wpX_pass
  dsimp only
  refine pk_lt d 40 (fun z => go_x_sn z (fun st' pr' s1 s2 s3 p1 p2 p3 => ?_)) (fun z => ?_)
  · dsimp only
    unfold wpY_pass
    dsimp only
    refine br_f (fun y => absurd ((nI_eq (a := d) (b := 40) (by omega) (by omega)).mp y) (by omega)) ?_
    refine loop_0 (fun n i (s : Nat → Int32) => wY_pass_14 (fun r' v' => r' = nI (d + 1) ∧ i_Rel (k + 3) (nI (d + 1), st', pr') v') (nI d) n (nI i) bo hs g1 g2 ca re de s) (fun i s => ∀ r, r < i → s r = bo r) 49 ke (fun r hr => absurd hr (Nat.not_lt_zero r)) ?_ ?_
    · intro n K IK
      refine br_t go_49 (go_y_no z (fun hs' h1 h2 => ⟨rfl, go_mk (go_J_next J z s1 p1 h1 (fun t ht => (h2 t ht).trans (IK t ht)) (fun i hi => pk_un (by omega)) pk_us (fun i hi => pk_un (by omega)) pk_us ?_ ?_ ?_)⟩))
      · rw [s2, s3]; exact go_J_T J
      · rw [p2]; exact J.2.2.2.1
      · rw [p3]; exact J.2.2.2.2.1
    · intro n j s hj IK ih
      refine br_f (go_n49 hj) ⟨go_in hj, go_in hj, nm_r (e' := upd s j (bo j)) (by rw [go_cm hj]) (nm_r (nI_1 j) (ih _ (fun r hr => ?_)))⟩
      by_cases y : r = j
      · subst y
        exact pk_us
      · rw [pk_un y]
        exact IK r (by omega)
  · obtain rfl : d = 40 := by omega
    exact br_t rfl ⟨rfl, go_mk J⟩
theorem i_vc_undo {k : Nat} {u : SX} {v : SY} (I : i_Rel k u v) (hk : k + 3 ≤ 1536) : wpX_undo (fun r u' => wpY_undo (fun r' v' => r' = r ∧ i_Rel (k + 3) u' v') v) u := by
  obtain ⟨d, st, pr, bo, hs, g1, g2, ca, re, de, ke, rfl, rfl, J⟩ := I
  have hd := go_J_d J
  unfold wpX_undo
  dsimp only
  refine pk_eq d 0 (fun z => ?_) (fun z => ?_)
  · subst z
    exact br_t rfl ⟨rfl, go_mk J⟩
  · obtain ⟨e, rfl⟩ : ∃ e, d = e + 1 := ⟨d - 1, by omega⟩
    refine nm_r (nI_pred e) ?_
    unfold wpY_undo
    dsimp only
    refine br_f (nI_ne0 (by omega) (by omega)) (nm_r (nI_pred e) ?_)
    refine loop_0 (fun n i (s : Nat → Int32) => wY_undo_22 (fun r' v' => r' = nI e ∧ i_Rel (k + 3) (nI e, st, pr) v') (nI e) n (nI i) s hs g1 g2 ca re de ke) (fun i s => ∀ r, r < i → s r = hs (49 * e + r)) 49 bo (fun r hr => absurd hr (Nat.not_lt_zero r)) ?_ ?_
    · intro n s IS
      refine br_t go_49 ⟨vp_in_nI (by omega) (by decide), nm_e ⟨vp_in_nI (by omega) (by decide), nm_e ⟨rfl, go_mk (go_J_back J IS ?_ ?_)⟩⟩⟩
      · rw [pk_un (by decide), pk_us, nI_clamp (by omega)]
      · rw [pk_us, nI_clamp (by omega)]
    · intro n j s hj IS ih
      refine br_f (go_n49 hj) ?_
      rw [go_49d, go_cm hj, nI_clamp (n := 49 * e + j) (by omega)]
      refine ⟨vp_in_nI (by omega) (by omega), go_in hj, nm_e (nm_r (nI_1 j) (ih _ (fun r hr => ?_)))⟩
      by_cases y : r = j
      · subst y
        exact pk_us
      · rw [pk_un y]
        exact IS r (by omega)
theorem i_vc_at {k : Nat} {u : SX} {v : SY} (I : i_Rel k u v) (hk : k + 3 ≤ 1536) (v1 : Int32) : wpX_at (fun r => wpY_at (fun r' => r' = r ∧ i_Rel (k + 3) u v) v v1) u v1 := by
  obtain ⟨d, st, pr, bo, hs, g1, g2, ca, re, de, ke, rfl, rfl, J⟩ := I
  unfold wpX_at
  dsimp only
  rcases go_qx v1 with ⟨q, hq, rfl⟩ | n
  · refine go_x_pt1 hq (br_f (by decide) (go_x_ho (go_J_d J) (go_J_T J) hq ?_))
    unfold wpY_at
    dsimp only
    exact go_y_pt1 hq (br_f (by decide) ⟨go_in hq, by rw [go_cm hq], go_mk J⟩)
  · refine go_x_pt0 n (br_t rfl ?_)
    unfold wpY_at
    dsimp only
    exact go_y_pt0 n (br_t rfl ⟨rfl, go_mk J⟩)
theorem i_vc_captured {k : Nat} {u : SX} {v : SY} (I : i_Rel k u v) (hk : k + 3 ≤ 1536) (v1 : Int32) : wpX_captured (fun r => wpY_captured (fun r' => r' = r ∧ i_Rel (k + 3) u v) v v1) u v1 := by
  obtain ⟨d, st, pr, bo, hs, g1, g2, ca, re, de, ke, rfl, rfl, J⟩ := I
  have hd := go_J_d J
  unfold wpX_captured
  dsimp only
  rcases go_pl v1 with ⟨i, hi, rfl⟩ | n
  · refine go_x_pl1 hi (br_f (by decide) ?_)
    rw [go_ix, nI_clamp (n := 2 * d + i) (by omega)]
    refine ⟨vp_in_nI (by omega) (by omega), ?_⟩
    unfold wpY_captured
    dsimp only
    refine go_y_pl1 hi (br_f (by decide) ⟨vp_in_nI hi (by decide), ?_, go_mk J⟩)
    rw [nI_clamp (n := i) (by omega)]
    rcases (by omega : i = 0 ∨ i = 1) with rfl | rfl
    · exact J.2.2.2.1.symm
    · exact J.2.2.2.2.1.symm
  · refine go_x_pl0 n (br_t rfl ?_)
    unfold wpY_captured
    dsimp only
    exact go_y_pl0 n (br_t rfl ⟨rfl, go_mk J⟩)
theorem i_vc_groupSize {k : Nat} {u : SX} {v : SY} (I : i_Rel k u v) (hk : k + 3 ≤ 1536) (v1 : Int32) : wpX_groupSize (fun r => wpY_groupSize (fun r' v' => r' = r ∧ i_Rel (k + 3) u v') v v1) u v1 := by
  obtain ⟨d, st, pr, bo, hs, g1, g2, ca, re, de, ke, rfl, rfl, J⟩ := I
  unfold wpX_groupSize
  dsimp only
  rcases go_qx v1 with ⟨q, hq, rfl⟩ | n
  · refine go_x_pt1 hq (br_f (by decide) (go_x_hs (go_J_d J) (go_J_T J) hq (fun z => br_f (by decide) (go_x_ga (go_J_d J) (go_J_T J) hq z (fun x hx => go_x_cn ?_))) (fun z => br_t rfl ?_)))
    · unfold wpY_groupSize
      dsimp only
      refine go_y_pt1 hq (br_f (by decide) ⟨go_in hq, ?_⟩)
      rw [go_cm hq]
      refine br_f z (go_y_rf hq (fun R F => ⟨?_, go_mk J⟩))
      exact congrArg nI (go_n_c 49 (fun i _ => (hx i).symm))
    · unfold wpY_groupSize
      dsimp only
      refine go_y_pt1 hq (br_f (by decide) ⟨go_in hq, ?_⟩)
      rw [go_cm hq]
      exact br_t z ⟨rfl, go_mk J⟩
  · refine go_x_pt0 n (br_t rfl ?_)
    unfold wpY_groupSize
    dsimp only
    exact go_y_pt0 n (br_t rfl ⟨rfl, go_mk J⟩)
theorem i_vc_liberties {k : Nat} {u : SX} {v : SY} (I : i_Rel k u v) (hk : k + 3 ≤ 1536) (v1 : Int32) : wpX_liberties (fun r => wpY_liberties (fun r' v' => r' = r ∧ i_Rel (k + 3) u v') v v1) u v1 := by
  obtain ⟨d, st, pr, bo, hs, g1, g2, ca, re, de, ke, rfl, rfl, J⟩ := I
  unfold wpX_liberties
  dsimp only
  rcases go_qx v1 with ⟨q, hq, rfl⟩ | n
  · refine go_x_pt1 hq (br_f (by decide) (go_x_hs (go_J_d J) (go_J_T J) hq (fun z => br_f (by decide) (go_x_ga (go_J_d J) (go_J_T J) hq z (fun x hx => go_x_lc (go_J_d J) (go_J_T J) hq hx ?_))) (fun z => br_t rfl ?_)))
    · unfold wpY_liberties
      dsimp only
      refine go_y_pt1 hq (br_f (by decide) ⟨go_in hq, ?_⟩)
      rw [go_cm hq]
      exact br_f z (go_y_rf hq (fun R F => go_y_lib hq F ⟨rfl, go_mk J⟩))
    · unfold wpY_liberties
      dsimp only
      refine go_y_pt1 hq (br_f (by decide) ⟨go_in hq, ?_⟩)
      rw [go_cm hq]
      exact br_t z ⟨rfl, go_mk J⟩
  · refine go_x_pt0 n (br_t rfl ?_)
    unfold wpY_liberties
    dsimp only
    exact go_y_pt0 n (br_t rfl ⟨rfl, go_mk J⟩)
theorem i_vc_region {k : Nat} {u : SX} {v : SY} (I : i_Rel k u v) (hk : k + 3 ≤ 1536) (v1 : Int32) : wpX_region (fun r => wpY_region (fun r' v' => r' = r ∧ i_Rel (k + 3) u v') v v1) u v1 := by
  obtain ⟨d, st, pr, bo, hs, g1, g2, ca, re, de, ke, rfl, rfl, J⟩ := I
  unfold wpX_region
  dsimp only
  rcases go_qx v1 with ⟨q, hq, rfl⟩ | n
  · refine go_x_pt1 hq (br_f (by decide) (go_x_hs (go_J_d J) (go_J_T J) hq (fun z => br_f (by decide) ?_) (fun z => br_t rfl (go_x_ps (go_x_em (go_J_d J) (go_x_gr (go_x_cn ?_)))))))
    · unfold wpY_region
      dsimp only
      refine go_y_pt1 hq (br_f (by decide) ⟨go_in hq, ?_⟩)
      rw [go_cm hq]
      exact br_f z ⟨rfl, go_mk J⟩
    · unfold wpY_region
      dsimp only
      refine go_y_pt1 hq (br_f (by decide) ⟨go_in hq, ?_⟩)
      rw [go_cm hq]
      refine br_t z (go_y_rf hq (fun R F => ⟨?_, go_mk J⟩))
      exact congrArg nI (go_n_c 49 (fun i _ => (go_Q_b (by rw [z]; exact go_T_e (go_J_T J)) (go_p_b hq) hq i).symm))
  · refine go_x_pt0 n (br_t rfl ?_)
    unfold wpY_region
    dsimp only
    exact go_y_pt0 n (br_t rfl ⟨rfl, go_mk J⟩)
