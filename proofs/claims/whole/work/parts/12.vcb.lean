/-! play, trial, moves -/
theorem i_vc_trial {k : Nat} {u : SX} {v : SY} (I : i_Rel k u v) (hk : k + 3 ≤ 1536) (v1 : Int32) (v2 : Int32) : wpX_trial (fun r => wpY_trial (fun r' v' => r' = r ∧ i_Rel (k + 3) u v') v v1 v2) u v1 v2 := by
  obtain ⟨d, st, pr, bo, hs, g1, g2, ca, re, de, ke, rfl, rfl, J⟩ := I
  have hd := go_J_d J
  rcases go_pl v1 with ⟨i, hi, rfl⟩ | n
  · rcases go_qx v2 with ⟨q, hq, rfl⟩ | n2
    · unfold wpX_trial
      dsimp only
      refine go_x_pl1 hi (br_f (by decide) (go_x_pt1 hq (br_f (by decide) (go_x_hs hd (go_J_T J) hq (fun z => br_f (by decide) ?_) (fun z => br_t rfl (go_x_am hd hi hq (go_J_T J) (go_J_H J) z ?_))))))
      · exact go_y_tr hd hi hq (fun _ => ⟨rfl, go_mk J⟩) (fun y => absurd y z)
      · exact go_y_tr hd hi hq (fun y => absurd z y) (fun _ b' R D K hb => ⟨rfl, go_mk (go_J_b J (fun t ht => (hb t ht).symm))⟩)
    · unfold wpX_trial
      dsimp only
      refine go_x_pl1 hi (br_f (by decide) (go_x_pt0 n2 (br_t rfl ?_)))
      unfold wpY_trial
      dsimp only
      exact go_y_pl1 hi (br_f (by decide) (go_y_pt0 n2 (br_t rfl ⟨rfl, go_mk J⟩)))
  · unfold wpX_trial
    dsimp only
    refine go_x_pl0 n (br_t rfl ?_)
    unfold wpY_trial
    dsimp only
    exact go_y_pl0 n (br_t rfl ⟨rfl, go_mk J⟩)
/-- the moves of player i that would be done -/
def go_ok (b hb : Nat → Int32) (d i q : Nat) : Prop := b q = 2 ∧ ¬ go_ans b hb d (nI i) (nI (1 - i)) q < 0
theorem go_x_mo {post : Int32 → Prop} {d i : Nat} {st : Nat → Int64} {pr b hb : Nat → Int32} (hd : d ≤ 40) (hi : i < 2) (T : go_T (st (2 * d)) (st (2 * d + 1)) b) (TH : 0 < d → go_T (st (2 * (d - 1))) (st (2 * (d - 1) + 1)) hb) (h : post (nI (go_n (go_ok b hb d i) 49))) : ∃ n, wX_moves_13 post (nI i) (nI d) st pr n 0 0 := by
  refine loop_0 (fun n j (s : Int32) => wX_moves_13 post (nI i) (nI d) st pr n s (nI j)) (fun j s => s = nI (go_n (go_ok b hb d i) j)) 49 0 rfl ?_ ?_
  · intro n s (hs : s = _)
    subst hs
    exact br_t go_49 h
  · intro n j s hj (hs : s = _) ih
    subst hs
    refine br_f (go_n49 hj) (go_x_hs hd T hj (fun z => br_f (by decide) (nm_r (nI_1 j) (ih _ ?_))) (fun z => br_t rfl (go_x_am hd hi hj T TH z (br_c (fun y => nm_r (nI_1 j) (ih _ ?_)) (fun y => nm_r (nI_1 _) (nm_r (nI_1 j) (ih _ ?_)))))))
    · exact congrArg nI (go_n_f (P := go_ok b hb d i) (fun w => z w.1)).symm
    · exact congrArg nI (go_n_f (P := go_ok b hb d i) (fun w => w.2 y)).symm
    · exact congrArg nI (go_n_t (P := go_ok b hb d i) ⟨z, y⟩).symm
theorem go_ok_c {b b' hb : Nat → Int32} (h : ∀ t, t < 49 → b' t = b t) {d i q : Nat} (hq : q < 49) : go_ok b' hb d i q ↔ go_ok b hb d i q := by
  unfold go_ok
  rw [h q hq, go_ans_c h d (nI i) (nI (1 - i)) hq]
theorem go_y_mo {post : Int32 → SY → Prop} {b hs g1 g2 ca re de ke : Nat → Int32} {d i : Nat} (hd : d ≤ 40) (hi : i < 2) (h : ∀ b' R D K, (∀ t, t < 49 → b' t = b t) → post (nI (go_n (go_ok b (fun t => hs (49 * (d - 1) + t)) d i) 49)) (nI d, b', hs, g1, g2, ca, R, D, K)) : ∃ n, wY_moves_14 post (nI i) n 0 0 (nI d) b hs g1 g2 ca re de ke := by
  refine loop_0 (fun n j (s : (Nat → Int32) × (Nat → Int32) × (Nat → Int32) × (Nat → Int32)) => wY_moves_14 post (nI i) n (nI (go_n (go_ok b (fun t => hs (49 * (d - 1) + t)) d i) j)) (nI j) (nI d) s.1 hs g1 g2 ca s.2.1 s.2.2.1 s.2.2.2) (fun _ s => ∀ t, t < 49 → s.1 t = b t) 49 (b, re, de, ke) (fun t _ => rfl) ?_ ?_
  · rintro n ⟨b', R, D, K⟩ I
    exact br_t go_49 (h b' R D K I)
  · rintro n j ⟨b', R, D, K⟩ hj I ih
    have I' : ∀ t, t < 49 → b' t = b t := I
    refine br_f (go_n49 hj) (go_y_tr hd hi hj (fun z => ?_) (fun z b2 R2 D2 K2 hb2 => ?_))
    · refine br_t (by decide) (nm_r (nI_1 j) ?_)
      rw [← go_n_f (P := go_ok b (fun t => hs (49 * (d - 1) + t)) d i) (fun w => z ((I' j hj).trans w.1))]
      exact ih (b', R, D, K) I
    · have e : b j = 2 := (I' j hj).symm.trans z
      dsimp only
      rw [go_ans_c I' d (nI i) (nI (1 - i)) hj]
      refine br_c (fun y => nm_r (nI_1 j) ?_) (fun y => nm_r (nI_1 _) (nm_r (nI_1 j) ?_))
      · rw [← go_n_f (P := go_ok b (fun t => hs (49 * (d - 1) + t)) d i) (fun w => w.2 y)]
        exact ih (b2, R2, D2, K2) (fun t ht => (hb2 t ht).trans (I' t ht))
      · rw [← go_n_t (P := go_ok b (fun t => hs (49 * (d - 1) + t)) d i) ⟨e, y⟩]
        exact ih (b2, R2, D2, K2) (fun t ht => (hb2 t ht).trans (I' t ht))
theorem i_vc_moves {k : Nat} {u : SX} {v : SY} (I : i_Rel k u v) (hk : k + 3 ≤ 1536) (v1 : Int32) : wpX_moves (fun r => wpY_moves (fun r' v' => r' = r ∧ i_Rel (k + 3) u v') v v1) u v1 := by
  obtain ⟨d, st, pr, bo, hs, g1, g2, ca, re, de, ke, rfl, rfl, J⟩ := I
  have hd := go_J_d J
  unfold wpX_moves
  dsimp only
  rcases go_pl v1 with ⟨i, hi, rfl⟩ | n
  · refine go_x_pl1 hi (br_f (by decide) (go_x_mo hd hi (go_J_T J) (go_J_H J) ?_))
    unfold wpY_moves
    dsimp only
    exact go_y_pl1 hi (br_f (by decide) (go_y_mo hd hi (fun b' R D K hb => ⟨rfl, go_mk (go_J_b J (fun t ht => (hb t ht).symm))⟩)))
  · refine go_x_pl0 n (br_t rfl ?_)
    unfold wpY_moves
    dsimp only
    exact go_y_pl0 n (br_t rfl ⟨rfl, go_mk J⟩)
/-- the reference's play -/
theorem go_y_py {post : Int32 → SY → Prop} {b hs g1 g2 ca re de ke : Nat → Int32} {d i q : Nat} (hd : d < 40) (hi : i < 2) (hq : q < 49) (e2 : b q = 2) (hn : go_ans b (fun t => hs (49 * (d - 1) + t)) d (nI i) (nI (1 - i)) q < 0 → ∀ b' R D K, (∀ t, t < 49 → b' t = b t) → post (go_ans b (fun t => hs (49 * (d - 1) + t)) d (nI i) (nI (1 - i)) q) (nI d, b', hs, g1, g2, ca, R, D, K)) (hp : ¬ go_ans b (fun t => hs (49 * (d - 1) + t)) d (nI i) (nI (1 - i)) q < 0 → ∀ bc hs' R D K, (∀ t, t < 49 → bc t = go_mv b (nI i) (nI (1 - i)) q t) → (∀ j, j < 49 * d → hs' j = hs j) → (∀ t, t < 49 → hs' (49 * d + t) = b t) → post (go_ans b (fun t => hs (49 * (d - 1) + t)) d (nI i) (nI (1 - i)) q) (nI (d + 1), bc, hs', upd g1 d (ca 0), upd g2 d (ca 1), upd ca i (ca i + go_ans b (fun t => hs (49 * (d - 1) + t)) d (nI i) (nI (1 - i)) q), R, D, K)) : wpY_play post (nI d, b, hs, g1, g2, ca, re, de, ke) (nI i) (nI q) := by
  unfold wpY_play
  dsimp only
  refine go_y_pl1 hi (br_f (by decide) (go_y_pt1 hq (br_f (by decide) ⟨go_in hq, ?_⟩)))
  rw [go_cm hq]
  refine br_t e2 (br_f (fun y => absurd ((nI_eq (a := d) (b := 40) (by omega) (by omega)).mp y) (by omega)) (go_y_tm (by omega) hi hq (fun bc R D K hm hK => ?_)))
  dsimp only
  by_cases z : go_ans b (fun t => hs (49 * (d - 1) + t)) d (nI i) (nI (1 - i)) q < 0
  · refine br_f (fun y => absurd z (Int32.not_lt.mpr y)) (go_y_pb (fun b' hb' => ?_))
    exact hn z b' R D K (fun t ht => (hb' t ht).trans (hK t ht))
  · refine br_t (Int32.not_lt.mp z) (go_y_no hd (fun hs' h1 h2 => ?_))
    dsimp only
    rw [nI_clamp (n := i) (by omega)]
    exact ⟨vp_in_nI hi (by decide), vp_in_nI hi (by decide), nm_e (hp z bc hs' R D K hm h1 (fun t ht => (h2 t ht).trans (hK t ht)))⟩
theorem i_vc_play {k : Nat} {u : SX} {v : SY} (I : i_Rel k u v) (hk : k + 3 ≤ 1536) (v1 : Int32) (v2 : Int32) : wpX_play (fun r u' => wpY_play (fun r' v' => r' = r ∧ i_Rel (k + 3) u' v') v v1 v2) u v1 v2 := by
  obtain ⟨d, st, pr, bo, hs, g1, g2, ca, re, de, ke, rfl, rfl, J⟩ := I
  have hd := go_J_d J
  rcases go_pl v1 with ⟨i, hi, rfl⟩ | n
  · rcases go_qx v2 with ⟨q, hq, rfl⟩ | n2
    · unfold wpX_play
      dsimp only
      rw [go_oth hi]
      refine go_x_pl1 hi (br_f (by decide) (go_x_pt1 hq (br_f (by decide) (go_x_hs hd (go_J_T J) hq (fun z => br_f (by decide) ?_) (fun z => br_t rfl (pk_lt d 40 (fun y => go_x_am hd hi hq (go_J_T J) (go_J_H J) z (br_c (fun w => ?_) (fun w => go_x_so hd hi (go_x_ps (nm_e (go_x_so hd (by omega) (go_x_wl (go_x_sn y (fun st' pr' s1 s2 s3 p1 p2 p3 => ?_))))))))) (fun y => ?_)))))))
      · unfold wpY_play
        dsimp only
        refine go_y_pl1 hi (br_f (by decide) (go_y_pt1 hq (br_f (by decide) ⟨go_in hq, ?_⟩)))
        rw [go_cm hq]
        exact br_f z ⟨rfl, go_mk J⟩
      · exact go_y_py y hi hq z (fun _ b' R D K hb => ⟨rfl, go_mk (go_J_b J (fun t ht => (hb t ht).symm))⟩) (fun c => absurd w c)
      · dsimp only
        have e1 : (2 : Int32) * nI (d + 1) + nI i = nI (2 * (d + 1) + i) := go_ix _ _
        have e2 : (2 : Int32) * nI (d + 1) + 1 - nI i = nI (2 * (d + 1) + (1 - i)) := by
          rw [go_i2, nI_1, pk_sub (by omega)]
          exact congrArg nI (by omega)
        rw [e1, e2, nI_clamp (n := 2 * (d + 1) + i) (by omega), nI_clamp (n := 2 * (d + 1) + (1 - i)) (by omega)]
        refine ⟨vp_in_nI (by omega) (by omega), nm_e ⟨vp_in_nI (by omega) (by omega), nm_e ⟨vp_in_nI (by omega) (by omega), vp_in_nI (by omega) (by omega), nm_e ?_⟩⟩⟩
        refine go_y_py y hi hq z (fun c => absurd c w) (fun _ bc hs' R D K hm h1 h2 => ⟨rfl, go_mk (go_J_next J y (fun j hj => ?_) (fun j hj => ?_) h1 h2 (fun j hj => pk_un (by omega)) pk_us (fun j hj => pk_un (by omega)) pk_us ?_ ?_ ?_)⟩)
        · rw [pk_uLn (k := 2 * (d + 1) + (1 - i)) (j := j) (by omega), pk_uLn (k := 2 * (d + 1) + i) (j := j) (by omega)]
          exact s1 j hj
        · rw [pk_un (k := 2 * (d + 1) + i) (j := j) (by omega)]
          exact p1 j hj
        · obtain ⟨_, hx, hy, hv, n1, n2, n3⟩ := go_U_T (go_J_T J) hi
          obtain ⟨t1, t2, v2, _, _⟩ := go_mv_T hx hy hv (go_p_b hq) hq z n1 n2 n3
          refine go_T_c (fun t ht => (hm t ht).symm) (go_T_U (d := d + 1) hi ?_ ?_ v2)
          · rw [pk_uLn (k := 2 * (d + 1) + (1 - i)) (j := 2 * (d + 1) + i) (by omega), pk_uLs]
            exact t1
          · rw [pk_uLs]
            exact t2
        · rcases (by omega : i = 0 ∨ i = 1) with rfl | rfl
          · show upd pr' (2 * (d + 1) + 0) _ (2 * (d + 1) + 0) = _
            rw [pk_us, pk_us]
            exact congrArg (· + _) (p2.trans J.2.2.2.1)
          · show upd pr' (2 * (d + 1) + 1) _ (2 * (d + 1)) = _
            rw [pk_un (by omega), pk_un (by decide)]
            exact p2.trans J.2.2.2.1
        · rcases (by omega : i = 0 ∨ i = 1) with rfl | rfl
          · show upd pr' (2 * (d + 1) + 0) _ (2 * (d + 1) + 1) = _
            rw [pk_un (by omega), pk_un (by decide)]
            exact p3.trans J.2.2.2.2.1
          · show upd pr' (2 * (d + 1) + 1) _ (2 * (d + 1) + 1) = _
            rw [pk_us, pk_us]
            exact congrArg (· + _) (p3.trans J.2.2.2.2.1)
      · obtain rfl : d = 40 := by omega
        unfold wpY_play
        dsimp only
        refine go_y_pl1 hi (br_f (by decide) (go_y_pt1 hq (br_f (by decide) ⟨go_in hq, ?_⟩)))
        rw [go_cm hq]
        exact br_t z (br_t rfl ⟨rfl, go_mk J⟩)
    · unfold wpX_play
      dsimp only
      refine go_x_pl1 hi (br_f (by decide) (go_x_pt0 n2 (br_t rfl ?_)))
      unfold wpY_play
      dsimp only
      exact go_y_pl1 hi (br_f (by decide) (go_y_pt0 n2 (br_t rfl ⟨rfl, go_mk J⟩)))
  · unfold wpX_play
    dsimp only
    refine go_x_pl0 n (br_t rfl ?_)
    unfold wpY_play
    dsimp only
    exact go_y_pl0 n (br_t rfl ⟨rfl, go_mk J⟩)
