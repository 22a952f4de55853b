/-! the reference's helpers -/
theorem go_vb1 : vp_nar .boolean 1 = 1 := rfl
theorem go_vb0 : vp_nar .boolean 0 = 0 := rfl
theorem go_y_pl1 {post : Int32 → Prop} {v : SY} {i : Nat} (hi : i < 2) (h : post 1) : wpY_isPlayer post v (nI i) := by
  obtain ⟨f, b, hs, g1, g2, ca, re, de, ke⟩ := v
  rcases (by omega : i = 0 ∨ i = 1) with rfl | rfl
  · exact br_t rfl h
  · exact br_f (by decide) (br_t rfl h)
theorem go_y_pl0 {post : Int32 → Prop} {v : SY} {p : Int32} (n : ¬ p = 0 ∧ ¬ p = 1) (h : post 0) : wpY_isPlayer post v p := by
  obtain ⟨f, b, hs, g1, g2, ca, re, de, ke⟩ := v
  exact br_f n.1 (br_f n.2 h)
theorem go_y_pt1 {post : Int32 → Prop} {v : SY} {q : Nat} (hq : q < 49) (h : post 1) : wpY_isPoint post v (nI q) := by
  obtain ⟨f, b, hs, g1, g2, ca, re, de, ke⟩ := v
  exact br_f (nI_pos (by omega)) (br_f (nI_nlt (a := 48) (b := q) (by omega) (by omega)) h)
theorem go_y_pt0 {post : Int32 → Prop} {v : SY} {x : Int32} (n : x < 0 ∨ nI 49 ≤ x) (h : post 0) : wpY_isPoint post v x := by
  obtain ⟨f, b, hs, g1, g2, ca, re, de, ke⟩ := v
  by_cases z : x < 0
  · exact br_t z h
  · refine br_f z (br_t ?_ h)
    have k := n.resolve_left z
    obtain ⟨j, hj, rfl⟩ := nI_of z
    exact nI_lt (a := 48) (b := j) (by have := (nI_leI (by omega) hj).mp k; omega) hj
theorem go_y_nb {post : Int32 → Prop} {v : SY} {q d : Nat} (hq : q < 49) (hd : d < 4) (h : post (go_nb q d)) : wpY_neighbour post v (nI q) (nI d) := by
  obtain ⟨f, b, hs, g1, g2, ca, re, de, ke⟩ := v
  have e7 : nI q - nI q / 7 * 7 = nI (q % 7) := pk_rem (a := q) (d := 7) (by omega) (by omega) (by omega)
  unfold go_nb at h
  unfold wpY_neighbour
  dsimp only
  rcases (by omega : d = 0 ∨ d = 1 ∨ d = 2 ∨ d = 3) with rfl | rfl | rfl | rfl
  · rw [if_pos rfl] at h
    refine br_t rfl (pk_le 7 q (fun z => ?_) (fun z => ?_))
    · rw [if_neg (by omega)] at h
      rw [show nI q - 7 = nI (q - 7) from pk_sub (a := q) (b := 7) z]
      exact h
    · rw [if_pos z] at h
      exact h
  · rw [if_neg (by omega), if_pos rfl] at h
    refine br_f (by decide) (br_t rfl (pk_le q 41 (fun z => ?_) (fun z => ?_)))
    · rw [if_neg (by omega)] at h
      rw [show nI q + 7 = nI (q + 7) from nI_add q 7]
      exact h
    · rw [if_pos z] at h
      exact h
  · rw [if_neg (by omega), if_neg (by omega), if_pos rfl] at h
    refine br_f (by decide) (br_f (by decide) (br_t rfl ⟨by decide, ?_⟩))
    rw [e7]
    refine pk_eq (q % 7) 0 (fun z => ?_) (fun z => ?_)
    · rw [if_pos z] at h
      exact h
    · rw [if_neg z] at h
      rw [show nI q - 1 = nI (q - 1) from pk_sub (a := q) (b := 1) (by omega)]
      exact h
  · rw [if_neg (by omega), if_neg (by omega), if_neg (by omega)] at h
    refine br_f (by decide) (br_f (by decide) (br_f (by decide) ⟨by decide, ?_⟩))
    rw [e7]
    refine pk_eq (q % 7) 6 (fun z => ?_) (fun z => ?_)
    · rw [if_pos z] at h
      exact h
    · rw [if_neg z] at h
      rw [nI_1 q]
      exact h
theorem go_y_bs {post : Int32 → Prop} {f : Int32} {b hs g1 g2 ca re de ke : Nat → Int32} {q : Nat} {w o : Int32} (hq : q < 49) (h1 : (∃ s, s < 49 ∧ go_ad q s ∧ b s = w ∧ (o = 0 ∨ ¬ re s = 0)) → post 1) (h0 : ¬ (∃ s, s < 49 ∧ go_ad q s ∧ b s = w ∧ (o = 0 ∨ ¬ re s = 0)) → post 0) : wpY_besides post (f, b, hs, g1, g2, ca, re, de, ke) (nI q) w o := by
  have D := go_dir hq (fun s => b s = w ∧ (o = 0 ∨ ¬ re s = 0))
  refine loop_0 (fun n i (_ : Unit) => wY_besides_3 post (nI q) w o f b hs g1 g2 ca re de ke n (nI i)) (fun i _ => ¬ go_h q (fun s => b s = w ∧ (o = 0 ∨ ¬ re s = 0)) i) 4 () (go_h_0 _ _) ?_ ?_
  · intro n _ z
    exact br_t (nI_le (a := 4) (b := 4) (by omega) (by omega)) (h0 (fun k => z (D.mpr k)))
  · intro n i _ hi z ih
    refine br_f (nI_ge (b := 4) hi (by decide)) (go_y_nb hq hi ?_)
    rcases go_nb_c hq i with e | ⟨s, hs', e, a⟩
    · rw [e]
      exact br_t (by decide) (nm_r (nI_1 i) (ih () (go_h_n z e)))
    · rw [e]
      refine br_f (nI_pos (by omega)) ⟨go_in hs', ?_⟩
      rw [go_cm hs']
      refine br_c (fun k1 => br_c (fun k2 => h1 (D.mp ⟨i, hi, s, hs', e, k1, Or.inl k2⟩)) (fun k2 => ⟨go_in hs', br_c (fun k3 => nm_r (nI_1 i) (ih () (go_h_f z hs' e (fun y => y.2.elim k2 (fun y => y k3))))) (fun k3 => h1 (D.mp ⟨i, hi, s, hs', e, k1, Or.inr k3⟩))⟩)) (fun k1 => nm_r (nI_1 i) (ih () (go_h_f z hs' e (fun y => k1 y.1))))
/-! the flood -/
theorem go_y_r44 {post : Int32 → SY → Prop} {J34 : Int32 → Int32 → (Nat → Int32) → (Nat → Int32) → (Nat → Int32) → (Nat → Int32) → (Nat → Int32) → (Nat → Int32) → (Nat → Int32) → (Nat → Int32) → Prop} {f : Int32} {b hs g1 g2 ca de ke : Nat → Int32} {q b0 : Nat} (hq : q < 49) (hJ : ∀ c R, go_W b q R c → b0 ≤ c → (c = b0 → go_cl b q R 49) → J34 (nI c) (nI b0) b hs g1 g2 ca R de ke) {R0 : Nat → Int32} (W0 : go_W b q R0 b0) : ∃ n, wY_reachFrom_44 post J34 (nI q) (nI b0) f n (nI b0) 0 b hs g1 g2 ca R0 de ke := by
  refine loop_0 (fun n i (s : Nat × (Nat → Int32)) => wY_reachFrom_44 post J34 (nI q) (nI b0) f n (nI s.1) (nI i) b hs g1 g2 ca s.2 de ke) (fun i s => go_W b q s.2 s.1 ∧ b0 ≤ s.1 ∧ (s.1 = b0 → go_cl b q s.2 i)) 49 (b0, R0) ⟨W0, Nat.le_refl _, fun _ => go_cl_0 _ _ _⟩ ?_ ?_
  · rintro n ⟨c, R⟩ ⟨w, hb, k⟩
    exact br_t go_49 (hJ c R w hb k)
  · rintro n i ⟨c, R⟩ hi ⟨w, hb, k⟩ ih
    dsimp only at w hb k
    refine br_f (go_n49 hi) ⟨go_in hi, ?_⟩
    dsimp only
    rw [go_cm hi, go_cm hq]
    refine br_c (fun z => ⟨go_in hi, go_in hq, br_c (fun e => ⟨go_in hq, go_y_bs hi (fun y => br_f (by decide) ⟨go_in hi, nm_e (nm_r (nI_1 c) (nm_r (nI_1 i) (ih (c + 1, upd R i (vp_nar .boolean 1)) ?_)))⟩) (fun y => br_t rfl (nm_r (nI_1 i) (ih (c, R) ?_)))⟩) (fun e => nm_r (nI_1 i) (ih (c, R) ?_))⟩) (fun z => nm_r (nI_1 i) (ih (c, R) ?_))
    · obtain ⟨s, y1, y2, y3, y4⟩ := y
      exact ⟨go_W_s hq w hi z e ⟨s, y1, y2, y3, y4.resolve_left (by decide)⟩ (by decide), Nat.le_succ_of_le hb, fun t => absurd (show c + 1 = b0 from t) (by omega)⟩
    · refine ⟨w, hb, fun t => go_cl_s (k t) (fun _ y2 => absurd ?_ y)⟩
      obtain ⟨s, y1, y2, y3, y4⟩ := y2
      exact ⟨s, y1, y2, y3, Or.inr y4⟩
    · exact ⟨w, hb, fun t => go_cl_s (k t) (fun e2 => absurd e2 e)⟩
    · exact ⟨w, hb, fun t => go_cl_s (k t) (fun _ _ => z)⟩
theorem go_y_r34 {post : Int32 → SY → Prop} {f : Int32} {b hs g1 g2 ca de ke : Nat → Int32} {q : Nat} (hq : q < 49) (h : ∀ R, go_F b q R → post (nI (go_n (go_Q b q) 49)) (f, b, hs, g1, g2, ca, R, de, ke)) {R0 : Nat → Int32} (W0 : go_W b q R0 1) : ∃ n, wY_reachFrom_34 post (nI q) f n 1 0 b hs g1 g2 ca R0 de ke := by
  refine loop_m (fun n (s : Nat × Nat × (Nat → Int32)) => wY_reachFrom_34 post (nI q) f n (nI s.1) (nI s.2.1) b hs g1 g2 ca s.2.2 de ke) (fun s => go_W b q s.2.2 s.1 ∧ s.2.1 ≤ s.1 ∧ (s.1 = s.2.1 → go_cl b q s.2.2 49)) (fun s => 2 * (49 - s.1) + (s.1 - s.2.1)) ?_ (1, 0, R0) ⟨W0, Nat.zero_le _, fun t => absurd (show (1 : Nat) = 0 from t) (by decide)⟩
  rintro n ⟨c, b0, R⟩ ⟨w, hb, k⟩ ih
  dsimp only at w hb k
  have hc := go_W_c w
  refine pk_le c b0 (fun z => ?_) (fun z => ?_)
  · have F := go_W_F hq w (k (by omega))
    rw [go_W_n w F]
    exact h R F
  · refine go_y_r44 hq (fun c' R' w' hb' k' => ih (c', c, R') ⟨w', hb', k'⟩ ?_) w
    have hc' := go_W_c w'
    show 2 * (49 - c') + (c' - c) < 2 * (49 - c) + (c - b0)
    omega
theorem go_y_rf {post : Int32 → SY → Prop} {f : Int32} {b hs g1 g2 ca re de ke : Nat → Int32} {q : Nat} (hq : q < 49) (h : ∀ R, go_F b q R → post (nI (go_n (go_Q b q) 49)) (f, b, hs, g1, g2, ca, R, de, ke)) : wpY_reachFrom post (f, b, hs, g1, g2, ca, re, de, ke) (nI q) := by
  refine loop_0 (fun n i (s : Nat → Int32) => wY_reachFrom_2 post (nI q) f n (nI i) b hs g1 g2 ca s de ke) (fun i s => ∀ r, r < i → (r = q → ¬ s r = 0) ∧ (r ≠ q → s r = 0)) 49 re (fun r hr => absurd hr (Nat.not_lt_zero r)) ?_ ?_
  · intro n s hs
    exact br_t go_49 (go_y_r34 hq h (go_W_0 hq ((hs q hq).1 rfl) (fun r hr => (hs r hr).2)))
  · intro n i s hi hs ih
    refine br_f (go_n49 hi) (pk_eq i q (fun z => ⟨go_in hi, nm_r (e' := upd s i 1) (by rw [go_cm hi, go_vb1]) (nm_r (nI_1 i) (ih _ ?_))⟩) (fun z => ⟨go_in hi, nm_r (e' := upd s i 0) (by rw [go_cm hi, go_vb0]) (nm_r (nI_1 i) (ih _ ?_))⟩))
    · intro r hr
      by_cases y : r = i
      · subst y
        rw [pk_us]
        exact ⟨fun _ => by decide, fun y => absurd z y⟩
      · rw [pk_un y]
        exact hs r (by omega)
    · intro r hr
      by_cases y : r = i
      · subst y
        rw [pk_us]
        exact ⟨fun y => absurd y z, fun _ => rfl⟩
      · rw [pk_un y]
        exact hs r (by omega)
