/-! set, groups, inAtari, score -/
theorem go_y_st {post : Int32 → SY → Prop} {f : Int32} {b hs g1 g2 ca re de ke : Nat → Int32} {c q : Nat} (hc : c ≤ 2) (hq : q < 49) (h1 : (b q = 2 ↔ c < 2) → ∀ ca', ca' 0 = 0 → ca' 1 = 0 → post 0 (0, upd b q (nI c), hs, g1, g2, ca', re, de, ke)) (h0 : ¬ (b q = 2 ↔ c < 2) → post (-2) (f, b, hs, g1, g2, ca, re, de, ke)) : wpY_set post (f, b, hs, g1, g2, ca, re, de, ke) (nI c) (nI q) := by
  unfold wpY_set
  dsimp only
  refine br_f (nI_pos (by omega)) (br_f (nI_nlt (a := 2) (b := c) (by omega) (by omega)) (go_y_pt1 hq (br_f (by decide) ⟨go_in hq, ?_⟩)))
  rw [go_cm hq]
  refine br_c (fun z => pk_le 2 c (fun y => br_f (by decide) (h0 (fun w => absurd (w.mp z) (by omega)))) (fun y => br_t rfl ⟨go_in hq, nm_r (e' := upd b q (nI c)) (by rw [go_cm hq]) (nm_e (nm_e (h1 ⟨fun _ => by omega, fun _ => z⟩ _ ?_ ?_)))⟩)) (fun z => pk_le 2 c (fun y => br_t rfl ⟨go_in hq, nm_r (e' := upd b q (nI c)) (by rw [go_cm hq]) (nm_e (nm_e (h1 ⟨fun w => absurd w z, fun w => absurd w (by omega)⟩ _ ?_ ?_)))⟩) (fun y => br_f (by decide) (h0 (fun w => z (w.mpr (by omega))))))
  · rfl
  · rfl
  · rfl
  · rfl
theorem go_x_s12 {post : Int32 → SX → Prop} {d c q : Nat} {st : Nat → Int64} {pr b : Nat → Int32} (hd : d ≤ 40) (T : go_T (st (2 * d)) (st (2 * d + 1)) b) (hc : c ≤ 2) (hq : q < 49) (h1 : (b q = 2 ↔ c < 2) → ∀ st', go_T (st' 0) (st' 1) (upd b q (nI c)) → post 0 (0, st', pr)) (h0 : ¬ (b q = 2 ↔ c < 2) → post (-2) (nI d, st, pr)) : wX_set_12 post (nI c) (nI q) (nI d) st pr := by
  unfold wX_set_12
  refine go_x_pt1 hq (br_f (by decide) (go_x_hs hd T hq (fun z => pk_eq c 2 (fun y => br_t rfl (go_x_fg hd (fun st' s0 s1 => ?_))) (fun y => br_f (by decide) (h0 (fun w => z (w.mpr (by omega)))))) (fun z => pk_eq c 2 (fun y => br_f (by decide) (h0 (fun w => absurd (w.mp z) (by omega)))) (fun y => br_t rfl (go_x_fg hd (fun st' s0 s1 => ?_))))))
  · subst y
    dsimp only
    refine go_x_ps (br_t rfl (nm_e (nm_e (h1 ⟨fun w => absurd w z, fun w => absurd w (by omega)⟩ _ ?_))))
    have T' : go_T (st' 0) (st' 1) b := by rw [s0, s1]; exact T
    have R := go_T_rm T' hq
    rw [pk_uLs, pk_uLn (k := 1) (j := 0) (by decide), pk_uLs, pk_uLn (k := 0) (j := 1) (by decide)]
    exact R
  · dsimp only
    have T' : go_T (st' 0) (st' 1) b := by rw [s0, s1]; exact T
    refine go_x_ps (br_f (fun w => absurd ((nI_eq (a := c) (b := 2) (by omega) (by omega)).mp w) y) ?_)
    rw [nI_clamp (n := c) (by omega)]
    refine ⟨vp_in_nI (by omega) (by omega), vp_in_nI (by omega) (by omega), nm_e (h1 ⟨fun _ => by omega, fun _ => z⟩ _ ?_)⟩
    rcases (by omega : c = 0 ∨ c = 1) with rfl | rfl
    · rw [pk_uLs, pk_uLn (k := 0) (j := 1) (by decide)]
      exact go_T_0 T' hq z
    · rw [pk_uLs, pk_uLn (k := 1) (j := 0) (by decide)]
      exact go_T_1 T' hq z
theorem go_x_st {post : Int32 → SX → Prop} {d c q : Nat} {st : Nat → Int64} {pr b : Nat → Int32} (hd : d ≤ 40) (T : go_T (st (2 * d)) (st (2 * d + 1)) b) (hc : c ≤ 2) (hq : q < 49) (h1 : (b q = 2 ↔ c < 2) → ∀ st', go_T (st' 0) (st' 1) (upd b q (nI c)) → post 0 (0, st', pr)) (h0 : ¬ (b q = 2 ↔ c < 2) → post (-2) (nI d, st, pr)) : wpX_set post (nI d, st, pr) (nI c) (nI q) := by
  unfold wpX_set
  dsimp only
  have S := go_x_s12 hd T hc hq h1 h0
  by_cases z : c < 2
  · exact go_x_pl1 z (br_f (by decide) S)
  · obtain rfl : c = 2 := by omega
    exact go_x_pl0 ⟨by decide, by decide⟩ (br_t rfl (br_t rfl S))
theorem go_c3 (x : Int32) : (∃ c, c ≤ 2 ∧ x = nI c) ∨ ((¬ x = 0 ∧ ¬ x = 1) ∧ ¬ x = 2 ∧ (x < 0 ∨ 2 < x)) := by
  by_cases z : x < 0
  · exact Or.inr ⟨⟨fun y => by subst y; exact absurd z (by decide), fun y => by subst y; exact absurd z (by decide)⟩, fun y => by subst y; exact absurd z (by decide), Or.inl z⟩
  · obtain ⟨j, hj, rfl⟩ := nI_of z
    by_cases y : j ≤ 2
    · exact Or.inl ⟨j, y, rfl⟩
    · refine Or.inr ⟨⟨fun w => ?_, fun w => ?_⟩, fun w => ?_, Or.inr (nI_lt (a := 2) (b := j) (by omega) hj)⟩
      · exact absurd ((nI_eq (a := j) (b := 0) hj (by omega)).mp w) (by omega)
      · exact absurd ((nI_eq (a := j) (b := 1) hj (by omega)).mp w) (by omega)
      · exact absurd ((nI_eq (a := j) (b := 2) hj (by omega)).mp w) (by omega)
theorem i_vc_set {k : Nat} {u : SX} {v : SY} (I : i_Rel k u v) (hk : k + 3 ≤ 1536) (v1 : Int32) (v2 : Int32) : wpX_set (fun r u' => wpY_set (fun r' v' => r' = r ∧ i_Rel (k + 3) u' v') v v1 v2) u v1 v2 := by
  obtain ⟨d, st, pr, bo, hs, g1, g2, ca, re, de, ke, rfl, rfl, J⟩ := I
  have hd := go_J_d J
  rcases go_c3 v1 with ⟨c, hc, rfl⟩ | ⟨n, n2, n3⟩
  · rcases go_qx v2 with ⟨q, hq, rfl⟩ | m
    · refine go_x_st hd (go_J_T J) hc hq (fun e st' T => ?_) (fun e => ?_)
      · exact go_y_st hc hq (fun _ ca' c0 c1 => ⟨rfl, go_mk (d := 0) (go_J_set J T c0 c1)⟩) (fun w => absurd e w)
      · exact go_y_st hc hq (fun w => absurd w e) (fun _ => ⟨rfl, go_mk J⟩)
    · have Y : wpY_set (fun r' v' => r' = -1 ∧ i_Rel (k + 3) (nI d, st, pr) v') (nI d, bo, hs, g1, g2, ca, re, de, ke) (nI c) v2 := by
        unfold wpY_set
        dsimp only
        exact br_f (nI_pos (by omega)) (br_f (nI_nlt (a := 2) (b := c) (by omega) (by omega)) (go_y_pt0 m (br_t rfl ⟨rfl, go_mk J⟩)))
      unfold wpX_set
      dsimp only
      by_cases z : c < 2
      · exact go_x_pl1 z (br_f (by decide) (go_x_pt0 m (br_t rfl Y)))
      · obtain rfl : c = 2 := by omega
        exact go_x_pl0 ⟨by decide, by decide⟩ (br_t rfl (br_t rfl (go_x_pt0 m (br_t rfl Y))))
  · unfold wpX_set
    dsimp only
    refine go_x_pl0 n (br_t rfl (br_f n2 ?_))
    unfold wpY_set
    dsimp only
    by_cases z : v1 < 0
    · exact br_t z ⟨rfl, go_mk J⟩
    · exact br_f z (br_t (n3.resolve_left z) ⟨rfl, go_mk J⟩)
/-! groups -/
def go_gh (b : Nat → Int32) (c : Int32) (q : Nat) : Prop := b q = c ∧ go_first b q
theorem go_x_gp {post : Int32 → Prop} {d : Nat} {c : Int32} {st : Nat → Int64} {pr b : Nat → Int32} {x0 : Int64} (hd : d ≤ 40) (T : go_T (st (2 * d)) (st (2 * d + 1)) b) (hx : go_S x0 b c) (hc : c ≠ 2) (h : post (nI (go_n (go_gh b c) 49))) : ∃ n, wX_groups_21 post (nI d) st pr n x0 0 0 := by
  refine loop_0 (fun n j (s : Int64) => wX_groups_21 post (nI d) st pr n s (nI (go_n (go_gh b c) j)) (nI j)) (fun j s => ∀ t, go_b s t = true ↔ go_un b c j t) 49 x0 (fun t => (hx t).trans ⟨fun z => ⟨z, fun s hs => absurd hs (Nat.not_lt_zero s)⟩, fun z => z.1⟩) ?_ ?_
  · intro n s I
    exact br_t go_49 h
  · intro n j s hj I ih
    have I' : ∀ t, go_b s t = true ↔ go_un b c j t := I
    refine br_f (go_n49 hj) (go_x_co hj (fun z => ?_) (fun z => br_t rfl (nm_r (nI_1 j) ?_)))
    · have hu := (I' j).mp z
      have hg := (go_un_q hj).mp hu
      refine br_f (by decide) (go_x_ga hd T hj (fun w => hc (hg.1.symm.trans w)) (fun x hQ => nm_e (nm_r (nI_1 _) (nm_r (nI_1 j) ?_))))
      rw [← go_n_t (P := go_gh b c) hg]
      refine ih _ (fun t => ?_)
      rw [go_and, Bool.and_eq_true, I' t, go_un_s hj]
      constructor
      · rintro ⟨a1, a2⟩
        have ht : t < 49 := a1.1.1
        rw [go_not _ (by omega), Bool.not_eq_true', ← Bool.not_eq_true, hQ t] at a2
        exact ⟨a1, fun _ => a2⟩
      · rintro ⟨a1, a2⟩
        have ht : t < 49 := a1.1.1
        rw [go_not _ (by omega), Bool.not_eq_true', ← Bool.not_eq_true, hQ t]
        exact ⟨a1, a2 hu⟩
    · have hu : ¬ go_un b c j j := fun w => by
        rw [(I' j).mpr w] at z
        exact absurd z (by decide)
      rw [← go_n_f (P := go_gh b c) (fun w => hu ((go_un_q hj).mpr w))]
      refine ih _ (fun t => ?_)
      rw [I' t, go_un_s hj]
      exact ⟨fun w => ⟨w, fun y => absurd y hu⟩, fun w => w.1⟩
theorem go_y_gp {post : Int32 → SY → Prop} {f c : Int32} {b hs g1 g2 ca re de ke : Nat → Int32} (h : ∀ R, post (nI (go_n (go_gh b c) 49)) (f, b, hs, g1, g2, ca, R, de, ke)) : ∃ n, wY_groups_14 post c n 0 0 f b hs g1 g2 ca re de ke := by
  refine loop_0 (fun n j (s : Nat → Int32) => wY_groups_14 post c n (nI (go_n (go_gh b c) j)) (nI j) f b hs g1 g2 ca s de ke) (fun _ _ => True) 49 re trivial ?_ ?_
  · intro n s _
    exact br_t go_49 (h s)
  · intro n j s hj _ ih
    refine br_f (go_n49 hj) ⟨go_in hj, ?_⟩
    rw [go_cm hj]
    refine br_c (fun z => go_y_rf hj (fun R F => go_y_fr hj ((F j hj).mpr (go_R_s rfl)) (fun m hm => ?_))) (fun z => nm_r (nI_1 j) ?_)
    · have hF := go_F_first hj F hm
      have hm' := hm.1
      refine pk_eq m j (fun y => nm_r (nI_1 _) (nm_r (nI_1 j) ?_)) (fun y => nm_r (nI_1 j) ?_)
      · rw [← go_n_t (P := go_gh b c) ⟨z, hF.mp y⟩]
        exact ih R trivial
      · rw [← go_n_f (P := go_gh b c) (fun w => y (hF.mpr w.2))]
        exact ih R trivial
    · rw [← go_n_f (P := go_gh b c) (fun w => z w.1)]
      exact ih s trivial
theorem i_vc_groups {k : Nat} {u : SX} {v : SY} (I : i_Rel k u v) (hk : k + 3 ≤ 1536) (v1 : Int32) : wpX_groups (fun r => wpY_groups (fun r' v' => r' = r ∧ i_Rel (k + 3) u v') v v1) u v1 := by
  obtain ⟨d, st, pr, bo, hs, g1, g2, ca, re, de, ke, rfl, rfl, J⟩ := I
  have hd := go_J_d J
  unfold wpX_groups
  dsimp only
  rcases go_pl v1 with ⟨i, hi, rfl⟩ | n
  · obtain ⟨_, hx, _, _, _, n2, _⟩ := go_U_T (go_J_T J) hi
    refine go_x_pl1 hi (br_f (by decide) (go_x_so hd hi (go_x_gp hd (go_J_T J) hx n2 ?_)))
    unfold wpY_groups
    dsimp only
    exact go_y_pl1 hi (br_f (by decide) (go_y_gp (fun R => ⟨rfl, go_mk J⟩)))
  · refine go_x_pl0 n (br_t rfl ?_)
    unfold wpY_groups
    dsimp only
    exact go_y_pl0 n (br_t rfl ⟨rfl, go_mk J⟩)
/-! inAtari -/
def go_ih (b : Nat → Int32) (c : Int32) (q : Nat) : Prop := b q = c ∧ go_lib b q = 1
theorem go_lib_49 (b : Nat → Int32) (q : Nat) : go_lib b q ≤ 49 := go_n_le _ 49
theorem go_x_ia {post : Int32 → Prop} {d : Nat} {c : Int32} {st : Nat → Int64} {pr b : Nat → Int32} {x0 : Int64} (hd : d ≤ 40) (T : go_T (st (2 * d)) (st (2 * d + 1)) b) (hx : go_S x0 b c) (hc : c ≠ 2) (h : post (nI (go_n (go_ih b c) 49))) : ∃ n, wX_inAtari_21 post x0 (nI d) st pr n 0 0 := by
  refine loop_0 (fun n j (_ : Unit) => wX_inAtari_21 post x0 (nI d) st pr n (nI (go_n (go_ih b c) j)) (nI j)) (fun _ _ => True) 49 () trivial ?_ ?_
  · intro n s _
    exact br_t go_49 h
  · intro n j s hj _ ih
    have hl := go_lib_49 b j
    refine br_f (go_n49 hj) (go_x_co hj (fun z => br_f (by decide) ?_) (fun z => br_t rfl (nm_r (nI_1 j) ?_)))
    · have hP := ((hx j).mp z).2
      refine go_x_ga hd T hj (fun w => hc (hP.symm.trans w)) (fun x hQ => go_x_lc hd T hj hQ (pk_eq (go_lib b j) 1 (fun y => nm_r (nI_1 _) (nm_r (nI_1 j) ?_)) (fun y => nm_r (nI_1 j) ?_)))
      · rw [← go_n_t (P := go_ih b c) ⟨hP, y⟩]
        exact ih () trivial
      · rw [← go_n_f (P := go_ih b c) (fun w => y w.2)]
        exact ih () trivial
    · rw [← go_n_f (P := go_ih b c) (fun w => by rw [(hx j).mpr ⟨hj, w.1⟩] at z; exact absurd z (by decide))]
      exact ih () trivial
theorem go_y_ia {post : Int32 → SY → Prop} {f c : Int32} {b hs g1 g2 ca re de ke : Nat → Int32} (h : ∀ R, post (nI (go_n (go_ih b c) 49)) (f, b, hs, g1, g2, ca, R, de, ke)) : ∃ n, wY_inAtari_14 post c n 0 0 f b hs g1 g2 ca re de ke := by
  refine loop_0 (fun n j (s : Nat → Int32) => wY_inAtari_14 post c n (nI (go_n (go_ih b c) j)) (nI j) f b hs g1 g2 ca s de ke) (fun _ _ => True) 49 re trivial ?_ ?_
  · intro n s _
    exact br_t go_49 (h s)
  · intro n j s hj _ ih
    have hl := go_lib_49 b j
    refine br_f (go_n49 hj) ⟨go_in hj, ?_⟩
    rw [go_cm hj]
    refine br_c (fun z => go_y_rf hj (fun R F => go_y_lib hj F (pk_eq (go_lib b j) 1 (fun y => nm_r (nI_1 _) (nm_r (nI_1 j) ?_)) (fun y => nm_r (nI_1 j) ?_)))) (fun z => nm_r (nI_1 j) ?_)
    · rw [← go_n_t (P := go_ih b c) ⟨z, y⟩]
      exact ih R trivial
    · rw [← go_n_f (P := go_ih b c) (fun w => y w.2)]
      exact ih R trivial
    · rw [← go_n_f (P := go_ih b c) (fun w => z w.1)]
      exact ih s trivial
theorem i_vc_inAtari {k : Nat} {u : SX} {v : SY} (I : i_Rel k u v) (hk : k + 3 ≤ 1536) (v1 : Int32) : wpX_inAtari (fun r => wpY_inAtari (fun r' v' => r' = r ∧ i_Rel (k + 3) u v') v v1) u v1 := by
  obtain ⟨d, st, pr, bo, hs, g1, g2, ca, re, de, ke, rfl, rfl, J⟩ := I
  have hd := go_J_d J
  unfold wpX_inAtari
  dsimp only
  rcases go_pl v1 with ⟨i, hi, rfl⟩ | n
  · obtain ⟨_, hx, _, _, _, n2, _⟩ := go_U_T (go_J_T J) hi
    refine go_x_pl1 hi (br_f (by decide) (go_x_so hd hi (go_x_ia hd (go_J_T J) hx n2 ?_)))
    unfold wpY_inAtari
    dsimp only
    exact go_y_pl1 hi (br_f (by decide) (go_y_ia (fun R => ⟨rfl, go_mk J⟩)))
  · refine go_x_pl0 n (br_t rfl ?_)
    unfold wpY_inAtari
    dsimp only
    exact go_y_pl0 n (br_t rfl ⟨rfl, go_mk J⟩)
/-! score -/
theorem go_y_sc {post : Int32 → SY → Prop} {f c e : Int32} {b hs g1 g2 ca re de ke : Nat → Int32} (he : 1 - c = e) (hc : c ≠ 2) (h : ∀ R, post (nI (go_n (go_sc b c e) 49)) (f, b, hs, g1, g2, ca, R, de, ke)) : ∃ n, wY_score_14 post c n 0 0 f b hs g1 g2 ca re de ke := by
  refine loop_0 (fun n j (s : Nat → Int32) => wY_score_14 post c n (nI (go_n (go_sc b c e) j)) (nI j) f b hs g1 g2 ca s de ke) (fun _ _ => True) 49 re trivial ?_ ?_
  · intro n s _
    exact br_t go_49 (h s)
  · intro n j s hj _ ih
    refine br_f (go_n49 hj) ⟨go_in hj, ?_⟩
    rw [go_cm hj]
    refine br_c (fun z => nm_r (nI_1 _) ?_) (fun z => ?_)
    · unfold wY_score_33
      rw [go_cm hj]
      refine ⟨go_in hj, br_f (fun y => hc (z.symm.trans y)) (nm_r (nI_1 j) ?_)⟩
      rw [← go_n_t (P := go_sc b c e) (Or.inl z)]
      exact ih s trivial
    · unfold wY_score_33
      rw [go_cm hj, he]
      refine ⟨go_in hj, br_c (fun y => go_y_rf hj (fun R F => go_y_to (fun k1 => br_f (by decide) (go_y_to (fun k2 => br_f (by decide) (nm_r (nI_1 j) ?_)) (fun k2 => br_t rfl (nm_r (nI_1 _) (nm_r (nI_1 j) ?_))))) (fun k1 => br_t rfl (nm_r (nI_1 j) ?_)))) (fun y => nm_r (nI_1 j) ?_)⟩
      · rw [← go_n_f (P := go_sc b c e) (fun w => w.elim z (fun w => w.2.2 ((go_F_K hj F e).mp k2)))]
        exact ih R trivial
      · rw [← go_n_t (P := go_sc b c e) (Or.inr ⟨y, (go_F_K hj F c).mp k1, fun w => k2 ((go_F_K hj F e).mpr w)⟩)]
        exact ih R trivial
      · rw [← go_n_f (P := go_sc b c e) (fun w => w.elim z (fun w => k1 ((go_F_K hj F c).mpr w.2.1)))]
        exact ih R trivial
      · rw [← go_n_f (P := go_sc b c e) (fun w => w.elim z (fun w => y w.1))]
        exact ih s trivial
theorem i_vc_score {k : Nat} {u : SX} {v : SY} (I : i_Rel k u v) (hk : k + 3 ≤ 1536) (v1 : Int32) : wpX_score (fun r => wpY_score (fun r' v' => r' = r ∧ i_Rel (k + 3) u v') v v1) u v1 := by
  obtain ⟨d, st, pr, bo, hs, g1, g2, ca, re, de, ke, rfl, rfl, J⟩ := I
  have hd := go_J_d J
  unfold wpX_score
  dsimp only
  rcases go_pl v1 with ⟨i, hi, rfl⟩ | n
  · obtain ⟨_, hx, hy, _, _, n2, _⟩ := go_U_T (go_J_T J) hi
    rw [go_oth hi]
    refine go_x_pl1 hi (br_f (by decide) (go_x_so hd hi (go_x_so hd (by omega) (go_x_rb hd (go_x_rb hd (nm_e (go_x_cn ?_)))))))
    rw [go_n_c 49 (fun t ht => go_sc_b hx hy (go_T_e (go_J_T J)) t ht)]
    unfold wpY_score
    dsimp only
    exact go_y_pl1 hi (br_f (by decide) (go_y_sc (go_oth hi) n2 (fun R => ⟨rfl, go_mk J⟩)))
  · refine go_x_pl0 n (br_t rfl ?_)
    unfold wpY_score
    dsimp only
    exact go_y_pl0 n (br_t rfl ⟨rfl, go_mk J⟩)
