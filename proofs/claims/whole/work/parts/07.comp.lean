/-! the component's helpers: 'post (its value) gives the walk' -/
theorem go_49 : (49 : Int32) ≤ nI 49 := nI_le (a := 49) (b := 49) (by omega) (by omega)
theorem go_n49 {i : Nat} (h : i < 49) : ¬ (49 : Int32) ≤ nI i := nI_ge (b := 49) h (by decide)
theorem go_in {i : Nat} (h : i < 49) : vp_in (nI i) 49 := vp_in_nI h (by decide)
theorem go_cm {i : Nat} (h : i < 49) : (nI i).toNatClampNeg = i := nI_clamp (by omega)
theorem go_ix (d i : Nat) : (2 : Int32) * nI d + nI i = nI (2 * d + i) := by rw [show (2 : Int32) = nI 2 from rfl, pk_mul, nI_add]
theorem go_i2 (d : Nat) : (2 : Int32) * nI d = nI (2 * d) := by rw [show (2 : Int32) = nI 2 from rfl, pk_mul]
theorem go_oth {i : Nat} (hi : i < 2) : (1 : Int32) - nI i = nI (1 - i) := pk_sub (a := 1) (b := i) (by omega)
theorem go_x_pl1 {post : Int32 → Prop} {i : Nat} (hi : i < 2) (h : post 1) : wpX_isPlayer post (nI i) := by
  rcases (by omega : i = 0 ∨ i = 1) with rfl | rfl
  · exact br_t rfl h
  · exact br_f (by decide) (br_t rfl h)
theorem go_x_pl0 {post : Int32 → Prop} {p : Int32} (n : ¬ p = 0 ∧ ¬ p = 1) (h : post 0) : wpX_isPlayer post p := br_f n.1 (br_f n.2 h)
theorem go_x_pt1 {post : Int32 → Prop} {q : Nat} (hq : q < 49) (h : post 1) : wpX_isPoint post (nI q) := br_f (nI_pos (by omega)) (br_f (go_n49 hq) h)
theorem go_x_pt0 {post : Int32 → Prop} {x : Int32} (n : x < 0 ∨ nI 49 ≤ x) (h : post 0) : wpX_isPoint post x := by
  by_cases z : x < 0
  · exact br_t z h
  · exact br_f z (br_t (n.resolve_left z) h)
theorem go_x_ps {post : Int64 → Prop} {q : Nat} (h : post (go_p q)) : wpX_pointSet post (nI q) := h
theorem go_x_co {post : Int32 → Prop} {x : Int64} {q : Nat} (hq : q < 49) (h1 : go_b x q = true → post 1) (h0 : go_b x q = false → post 0) : wpX_contains post x (nI q) := by
  refine br_c (fun z => h0 ((go_has x (by omega)).mp z)) (fun z => h1 ?_)
  cases e : go_b x q
  · exact absurd ((go_has x (by omega)).mpr e) z
  · rfl
theorem go_x_cn {post : Int32 → Prop} {x : Int64} (h : post (nI (go_n (fun t => go_b x t = true) 49))) : wpX_count post x := by
  refine loop_0 (fun n i s => wX_count_4 post x n s (nI i)) (fun i s => s = nI (go_n (fun t => go_b x t = true) i)) 49 0 rfl ?_ ?_
  · intro n s (hs : s = _)
    subst hs
    exact br_t go_49 h
  · intro n i s hi (hs : s = _) ih
    subst hs
    refine br_f (go_n49 hi) (go_x_co hi (fun z => br_f (by decide) (nm_r (nI_1 _) (nm_r (nI_1 i) (ih _ ?_)))) (fun z => br_t rfl (nm_r (nI_1 i) (ih _ ?_))))
    · exact congrArg nI (go_n_t (P := fun t => go_b x t = true) z).symm
    · exact congrArg nI (go_n_f (P := fun t => go_b x t = true) (by rw [z]; decide)).symm
theorem go_x_nb {post : Int64 → Prop} {x : Int64} (h : post (go_N x)) : wpX_neighbours post x := by
  intro y hy
  subst hy
  exact h
theorem go_x_gr {post : Int64 → Prop} {s w : Int64} (h : post (go_G s w)) : wpX_grown post s w := by
  refine loop_0 (fun n i x => wX_grown_6 post w n x (nI i)) (fun i x => x = go_I s w i) 49 s rfl ?_ ?_
  · intro n x (hx : x = _)
    subst hx
    exact br_t go_49 h
  · intro n i x hi (hx : x = _) ih
    subst hx
    exact br_f (go_n49 hi) (go_x_nb (nm_e (nm_r (nI_1 i) (ih _ rfl))))
theorem go_x_wl {post : Int64 → Prop} {m o : Int64} (h : post (go_L m o)) : wpX_withLiberties post m o := nm_e (go_x_nb (nm_e (go_x_gr h)))
theorem go_x_so {post : Int64 → Prop} {d i : Nat} {st : Nat → Int64} {pr : Nat → Int32} (hd : d ≤ 40) (hi : i < 2) (h : post (st (2 * d + i))) : wpX_stonesOf post (nI d, st, pr) (nI i) := by
  unfold wpX_stonesOf
  dsimp only
  rw [go_ix, nI_clamp (by omega)]
  exact ⟨vp_in_nI (by omega) (by omega), h⟩
theorem go_x_em {post : Int64 → Prop} {d : Nat} {st : Nat → Int64} {pr : Nat → Int32} (hd : d ≤ 40) (h : post (562949953421311 &&& ((st (2 * d) ||| st (2 * d + 1)) ^^^ (-1)))) : wpX_emptyPoints post (nI d, st, pr) := by
  unfold wpX_emptyPoints
  dsimp only
  exact go_x_so (i := 0) hd (by omega) (go_x_so (i := 1) hd (by omega) h)
theorem go_x_ho {post : Int32 → Prop} {d q : Nat} {st : Nat → Int64} {pr b : Nat → Int32} (hd : d ≤ 40) (T : go_T (st (2 * d)) (st (2 * d + 1)) b) (hq : q < 49) (h : post (b q)) : wpX_holderOf post (nI d, st, pr) (nI q) := by
  unfold wpX_holderOf
  dsimp only
  refine go_x_so (i := 0) hd (by omega) (go_x_so (i := 1) hd (by omega) (go_x_co hq (fun z => br_f (by decide) ?_) (fun z => br_t rfl (go_x_co hq (fun y => br_f (by decide) ?_) (fun y => br_t rfl ?_)))))
  · rw [((T.1 q).mp z).2] at h; exact h
  · rw [((T.2.1 q).mp y).2] at h; exact h
  · rcases T.2.2 q hq with e | e | e
    · exact absurd (z.symm.trans ((T.1 q).mpr ⟨hq, e⟩)) (by decide)
    · exact absurd (y.symm.trans ((T.2.1 q).mpr ⟨hq, e⟩)) (by decide)
    · rw [e] at h; exact h
theorem go_x_hs {post : Int32 → Prop} {d q : Nat} {st : Nat → Int64} {pr b : Nat → Int32} (hd : d ≤ 40) (T : go_T (st (2 * d)) (st (2 * d + 1)) b) (hq : q < 49) (h1 : ¬ b q = 2 → post 1) (h0 : b q = 2 → post 0) : wpX_hasStone post (nI d, st, pr) (nI q) := by
  unfold wpX_hasStone
  dsimp only
  exact go_x_ho hd T hq (br_c h0 h1)
theorem go_x_ga {post : Int64 → Prop} {d q : Nat} {st : Nat → Int64} {pr b : Nat → Int32} (hd : d ≤ 40) (T : go_T (st (2 * d)) (st (2 * d + 1)) b) (hq : q < 49) (n2 : ¬ b q = 2) (h : ∀ x, (∀ t, go_b x t = true ↔ go_Q b q t) → post x) : wpX_groupAt post (nI d, st, pr) (nI q) := by
  unfold wpX_groupAt
  dsimp only
  refine go_x_ps (go_x_ho hd T hq (br_c (fun z => go_x_so (i := 0) hd (by omega) (go_x_gr (h _ ?_))) (fun z => go_x_so (i := 1) hd (by omega) (go_x_gr (h _ ?_)))))
  · exact go_Q_b (by rw [z]; exact T.1) (go_p_b hq) hq
  · have e : b q = 1 := by
      rcases T.2.2 q hq with e | e | e
      · exact absurd e z
      · exact e
      · exact absurd e n2
    exact go_Q_b (by rw [e]; exact T.2.1) (go_p_b hq) hq
theorem go_x_lc {post : Int32 → Prop} {d q : Nat} {st : Nat → Int64} {pr b : Nat → Int32} {x : Int64} (hd : d ≤ 40) (T : go_T (st (2 * d)) (st (2 * d + 1)) b) (hq : q < 49) (hx : ∀ t, go_b x t = true ↔ go_Q b q t) (h : post (nI (go_lib b q))) : wpX_libertyCount post (nI d, st, pr) x := by
  unfold wpX_libertyCount
  dsimp only
  refine go_x_nb (go_x_em hd (nm_e (go_x_cn ?_)))
  have e : go_n (fun t => go_b (go_N x &&& (562949953421311 &&& ((st (2 * d) ||| st (2 * d + 1)) ^^^ (-1)))) t = true) 49 = go_lib b q := go_n_c 49 (fun t ht => go_lib_b hx hq (go_T_e T) t ht)
  rw [e]
  exact h
theorem go_x_rb {post : Int64 → Prop} {d : Nat} {st : Nat → Int64} {pr : Nat → Int32} {x : Int64} (hd : d ≤ 40) (h : post (go_G (go_N x &&& (562949953421311 &&& ((st (2 * d) ||| st (2 * d + 1)) ^^^ (-1)))) (562949953421311 &&& ((st (2 * d) ||| st (2 * d + 1)) ^^^ (-1))))) : wpX_regionsBeside post (nI d, st, pr) x := by
  unfold wpX_regionsBeside
  dsimp only
  exact go_x_em hd (go_x_nb (nm_e (go_x_gr h)))
theorem go_x_bb {post : Int32 → Prop} {d i : Nat} {st : Nat → Int64} {pr : Nat → Int32} {x y : Int64} (hd : d ≤ 40) (hi : i < 2) (h1 : (0 < d ∧ st (2 * (d - 1) + i) = x ∧ st (2 * (d - 1) + (1 - i)) = y) → post 1) (h0 : ¬ (0 < d ∧ st (2 * (d - 1) + i) = x ∧ st (2 * (d - 1) + (1 - i)) = y) → post 0) : wpX_isBoardBeforeLast post (nI d, st, pr) (nI i) x y := by
  unfold wpX_isBoardBeforeLast
  dsimp only
  by_cases z : d = 0
  · subst z
    exact br_t rfl (h0 (fun w => absurd w.1 (by omega)))
  · obtain ⟨e, rfl⟩ : ∃ e, d = e + 1 := ⟨d - 1, by omega⟩
    refine br_f (nI_ne0 (by omega) (by omega)) (nm_r (e' := nI (2 * e)) (by rw [nI_pred, go_i2]) ?_)
    have e1 : nI (2 * e) + nI i = nI (2 * e + i) := nI_add _ _
    have e2 : nI (2 * e) + 1 - nI i = nI (2 * e + (1 - i)) := by
      rw [nI_1, pk_sub (by omega)]
      exact congrArg nI (by omega)
    rw [e1, e2, nI_clamp (n := 2 * e + i) (by omega), nI_clamp (n := 2 * e + (1 - i)) (by omega)]
    exact ⟨vp_in_nI (by omega) (by omega), br_c (fun a => ⟨vp_in_nI (by omega) (by omega), br_c (fun c => h1 ⟨by omega, a, c⟩) (fun c => h0 (fun w => c w.2.2))⟩) (fun a => h0 (fun w => a w.2.1))⟩
theorem go_x_am {post : Int32 → Prop} {d i q : Nat} {st : Nat → Int64} {pr b hb : Nat → Int32} (hd : d ≤ 40) (hi : i < 2) (hq : q < 49) (T : go_T (st (2 * d)) (st (2 * d + 1)) b) (TH : 0 < d → go_T (st (2 * (d - 1))) (st (2 * (d - 1) + 1)) hb) (e2 : b q = 2) (h : post (go_ans b hb d (nI i) (nI (1 - i)) q)) : wpX_answerOfMove post (nI d, st, pr) (nI i) (nI q) := by
  obtain ⟨_, hx, hy, hv, n1, n2, n3⟩ := go_U_T T hi
  obtain ⟨t1, t2, v2, tn, ta⟩ := go_mv_T hx hy hv (go_p_b hq) hq e2 n1 n2 n3
  unfold wpX_answerOfMove
  dsimp only
  rw [go_oth hi]
  refine go_x_so hd hi (go_x_ps (nm_e (go_x_so hd (by omega) (go_x_wl (go_x_wl (go_x_co hq (fun z => br_f (by decide) (go_x_bb hd hi (fun w => br_f (by decide) ?_) (fun w => br_t rfl (go_x_cn ?_)))) (fun z => br_t rfl ?_)))))))
  · obtain ⟨_, kx, ky, kv, _⟩ := go_U_T (TH w.1) hi
    rw [go_ans_k (ta.mp z) ⟨w.1, (go_same t1 t2 kx ky v2 kv).mp ⟨w.2.1.symm, w.2.2.symm⟩⟩] at h
    exact h
  · have k : ¬ (0 < d ∧ ∀ t, t < 49 → go_mv b (nI i) (nI (1 - i)) q t = hb t) := by
      rintro ⟨k1, k2⟩
      obtain ⟨_, kx, ky, kv, _⟩ := go_U_T (TH k1) hi
      have := (go_same t1 t2 kx ky v2 kv).mpr k2
      exact w ⟨k1, this.1.symm, this.2.symm⟩
    rw [go_ans_n (ta.mp z) k] at h
    rw [go_n_c 49 tn]
    exact h
  · have k : go_lib (go_mv b (nI i) (nI (1 - i)) q) q = 0 := Classical.byContradiction fun k => absurd (z.symm.trans (ta.mpr k)) (by decide)
    rw [go_ans_s k] at h
    exact h
theorem go_x_sn {post : SX → Prop} {d : Nat} {st : Nat → Int64} {pr : Nat → Int32} (hd : d < 40) (h : ∀ st' pr', (∀ i, i < 2 * d + 2 → st' i = st i) → st' (2 * d + 2) = st (2 * d) → st' (2 * d + 3) = st (2 * d + 1) → (∀ i, i < 2 * d + 2 → pr' i = pr i) → pr' (2 * d + 2) = pr (2 * d) → pr' (2 * d + 3) = pr (2 * d + 1) → post (nI (d + 1), st', pr')) : wpX_startNextRow post (nI d, st, pr) := by
  unfold wpX_startNextRow
  dsimp only
  refine nm_r (go_i2 d) ?_
  have e1 : nI (2 * d) + 1 = nI (2 * d + 1) := nI_1 _
  have e2 : nI (2 * d) + 2 = nI (2 * d + 2) := nI_add (2 * d) 2
  have e3 : nI (2 * d) + 3 = nI (2 * d + 3) := nI_add (2 * d) 3
  rw [e1, e2, e3, nI_1 d, nI_clamp (n := 2 * d) (by omega), nI_clamp (n := 2 * d + 1) (by omega), nI_clamp (n := 2 * d + 2) (by omega), nI_clamp (n := 2 * d + 3) (by omega)]
  refine ⟨vp_in_nI (by omega) (by omega), vp_in_nI (by omega) (by omega), nm_e ⟨vp_in_nI (by omega) (by omega), vp_in_nI (by omega) (by omega), nm_e ⟨vp_in_nI (by omega) (by omega), vp_in_nI (by omega) (by omega), nm_e ⟨vp_in_nI (by omega) (by omega), vp_in_nI (by omega) (by omega), nm_e (nm_e (h _ _ ?_ ?_ ?_ ?_ ?_ ?_))⟩⟩⟩⟩
  · intro i hi
    rw [pk_uLn (k := 2 * d + 3) (j := i) (by omega), pk_uLn (k := 2 * d + 2) (j := i) (by omega)]
  · rw [pk_uLn (k := 2 * d + 3) (j := 2 * d + 2) (by omega), pk_uLs]
  · rw [pk_uLs, pk_uLn (k := 2 * d + 2) (j := 2 * d + 1) (by omega)]
  · intro i hi
    rw [pk_un (k := 2 * d + 3) (j := i) (by omega), pk_un (k := 2 * d + 2) (j := i) (by omega)]
  · rw [pk_un (k := 2 * d + 3) (j := 2 * d + 2) (by omega), pk_us]
  · rw [pk_us, pk_un (k := 2 * d + 2) (j := 2 * d + 1) (by omega)]
theorem go_x_fg {post : SX → Prop} {d : Nat} {st : Nat → Int64} {pr : Nat → Int32} (hd : d ≤ 40) (h : ∀ st', st' 0 = st (2 * d) → st' 1 = st (2 * d + 1) → post (0, st', pr)) : wpX_forgetWhatWasDone post (nI d, st, pr) := by
  unfold wpX_forgetWhatWasDone
  dsimp only
  rw [go_i2, nI_1, nI_clamp (n := 2 * d) (by omega), nI_clamp (n := 2 * d + 1) (by omega)]
  refine ⟨vp_in_nI (by omega) (by omega), nm_e ⟨vp_in_nI (by omega) (by omega), nm_e (h _ ?_ ?_)⟩⟩
  · rw [pk_uLn (k := 1) (j := 0) (by omega), pk_uLs]
  · rw [pk_uLs, pk_uLn (k := 0) (j := 2 * d + 1) (by omega)]
