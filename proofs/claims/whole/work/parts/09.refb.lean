/-! the reference's liberties -/
theorem go_y_c15 {post : Int32 → Prop} {J4 : Int32 → Int32 → Prop} {f : Int32} {b hs g1 g2 ca re de ke : Nat → Int32} {c r : Nat} (hr : r < 49) (h1 : go_lr b re r → J4 (nI (c + 1)) (nI (r + 1))) (h0 : ¬ go_lr b re r → J4 (nI c) (nI (r + 1))) : ∃ n, wY_countLiberties_15 post J4 (nI c) (nI r) f b hs g1 g2 ca re de ke n 0 0 := by
  have D := go_dir hr (fun s => b r = 2 ∧ ¬ re s = 0)
  have E : go_lr b re r ↔ ∃ s, s < 49 ∧ go_ad r s ∧ (b r = 2 ∧ ¬ re s = 0) := ⟨fun ⟨e, s, a1, a2, a3⟩ => ⟨s, a1, a2, e, a3⟩, fun ⟨s, a1, a2, e, a3⟩ => ⟨e, s, a1, a2, a3⟩⟩
  refine loop_0 (fun n i (s : Int32) => wY_countLiberties_15 post J4 (nI c) (nI r) f b hs g1 g2 ca re de ke n s (nI i)) (fun i s => (s = 0 ∧ ¬ go_h r (fun s => b r = 2 ∧ ¬ re s = 0) i) ∨ (s = 1 ∧ go_h r (fun s => b r = 2 ∧ ¬ re s = 0) i)) 4 0 (Or.inl ⟨rfl, go_h_0 _ _⟩) ?_ ?_
  · rintro n s (⟨rfl, z⟩ | ⟨rfl, z⟩)
    · exact br_t (nI_le (a := 4) (b := 4) (by omega) (by omega)) (br_t rfl (nm_r (nI_1 r) (h0 (fun k => z (D.mpr (E.mp k))))))
    · exact br_t (nI_le (a := 4) (b := 4) (by omega) (by omega)) (br_f (by decide) (nm_r (nI_1 c) (nm_r (nI_1 r) (h1 (E.mpr (D.mp z))))))
  · rintro n i s hi (⟨rfl, z⟩ | ⟨rfl, z⟩) ih
    · refine br_f (nI_ge (b := 4) hi (by decide)) (go_y_nb hr hi (br_t rfl ⟨go_in hr, ?_⟩))
      rw [go_cm hr]
      refine br_c (fun k => ?_) (fun k => nm_r (nI_1 i) (ih 0 (Or.inl ⟨rfl, fun ⟨_, _, _, _, _, y⟩ => k y.1⟩)))
      rcases go_nb_c hr i with e | ⟨s, hs', e, a⟩
      · rw [e]
        exact br_t (by decide) (nm_r (nI_1 i) (ih 0 (Or.inl ⟨rfl, go_h_n z e⟩)))
      · rw [e]
        refine br_f (nI_pos (by omega)) ⟨go_in hs', ?_⟩
        rw [go_cm hs']
        exact br_c (fun y => nm_r (nI_1 i) (ih 0 (Or.inl ⟨rfl, go_h_f z hs' e (fun w => w.2 y)⟩))) (fun y => nm_r (nI_1 i) (ih 1 (Or.inr ⟨rfl, go_h_t hs' e ⟨k, y⟩⟩)))
    · exact br_f (nI_ge (b := 4) hi (by decide)) (go_y_nb hr hi (br_f (by decide) (nm_r (nI_1 i) (ih 1 (Or.inr ⟨rfl, go_h_m z⟩)))))
theorem go_y_cl {post : Int32 → Prop} {f : Int32} {b hs g1 g2 ca re de ke : Nat → Int32} (h : post (nI (go_n (go_lr b re) 49))) : wpY_countLiberties post (f, b, hs, g1, g2, ca, re, de, ke) := by
  refine loop_0 (fun n i (s : Int32) => wY_countLiberties_4 post f b hs g1 g2 ca re de ke n s (nI i)) (fun i s => s = nI (go_n (go_lr b re) i)) 49 0 rfl ?_ ?_
  · intro n s (hs : s = _)
    subst hs
    exact br_t go_49 h
  · intro n i s hi (hs : s = _) ih
    subst hs
    exact br_f (go_n49 hi) (go_y_c15 hi (fun z => ih _ (congrArg nI (go_n_t z).symm)) (fun z => ih _ (congrArg nI (go_n_f z).symm)))
theorem go_y_lib {post : Int32 → Prop} {f : Int32} {b hs g1 g2 ca re de ke : Nat → Int32} {q : Nat} (hq : q < 49) (F : go_F b q re) (h : post (nI (go_lib b q))) : wpY_countLiberties post (f, b, hs, g1, g2, ca, re, de, ke) := by
  rw [← go_F_lib hq F] at h
  exact go_y_cl h
/-! a move -/
theorem go_y_p83 {post : Int32 → SY → Prop} {f : Int32} {bb hs g1 g2 ca re de ke : Nat → Int32} (h : ∀ bc, (∀ r, r < 49 → (de r = 1 → bc r = 2) ∧ (¬ de r = 1 → bc r = bb r)) → post (nI (go_n (fun r => de r = 1) 49)) (f, bc, hs, g1, g2, ca, re, de, ke)) : ∃ n, wY_putAndCapture_83 post f n 0 0 bb hs g1 g2 ca re de ke := by
  refine loop_0 (fun n i (s : Nat → Int32) => wY_putAndCapture_83 post f n (nI (go_n (fun r => de r = 1) i)) (nI i) s hs g1 g2 ca re de ke) (fun i s => ∀ r, (r < i ∧ de r = 1 → s r = 2) ∧ (¬ (r < i ∧ de r = 1) → s r = bb r)) 49 bb (fun r => ⟨fun z => absurd z.1 (Nat.not_lt_zero r), fun _ => rfl⟩) ?_ ?_
  · intro n s I
    exact br_t go_49 (h s (fun r hr => ⟨fun z => (I r).1 ⟨hr, z⟩, fun z => (I r).2 (fun y => z y.2)⟩))
  · intro n i s hi I ih
    refine br_f (go_n49 hi) ⟨go_in hi, ?_⟩
    rw [go_cm hi]
    refine br_c (fun z => ⟨go_in hi, nm_e (nm_r (nI_1 _) (nm_r (nI_1 i) ?_))⟩) (fun z => nm_r (nI_1 i) ?_)
    · rw [← go_n_t (P := fun r => de r = 1) z]
      refine ih (upd s i 2) (fun r => ?_)
      by_cases y : r = i
      · subst y
        rw [pk_us]
        exact ⟨fun _ => rfl, fun w => absurd ⟨by omega, z⟩ w⟩
      · rw [pk_un y]
        exact ⟨fun w => (I r).1 ⟨by omega, w.2⟩, fun w => (I r).2 (fun v => w ⟨by omega, v.2⟩)⟩
    · rw [← go_n_f (P := fun r => de r = 1) z]
      refine ih s (fun r => ?_)
      by_cases y : r = i
      · subst y
        exact ⟨fun w => absurd w.2 z, fun _ => (I r).2 (fun v => z v.2)⟩
      · exact ⟨fun w => (I r).1 ⟨by omega, w.2⟩, fun w => (I r).2 (fun v => w ⟨by omega, v.2⟩)⟩
theorem go_y_p30 {post : Int32 → SY → Prop} {f p e : Int32} {bb hs g1 g2 ca re ke de : Nat → Int32} (he : 1 - p = e) (h0 : ∀ r, r < 49 → de r = 0) (h : ∀ R D, (∀ r, r < 49 → (D r = 1 ↔ go_D bb e r)) → ∃ n, wY_putAndCapture_83 post f n 0 0 bb hs g1 g2 ca R D ke) : ∃ n, wY_putAndCapture_30 post p n 0 f bb hs g1 g2 ca re de ke := by
  refine loop_0 (fun n i (s : (Nat → Int32) × (Nat → Int32)) => wY_putAndCapture_30 post p n (nI i) f bb hs g1 g2 ca s.1 s.2 ke) (fun i s => ∀ r, r < 49 → (s.2 r = 1 ↔ r < i ∧ go_D bb e r)) 49 (re, de) ?_ ?_ ?_
  · intro r hr
    show de r = 1 ↔ _
    rw [h0 r hr]
    exact ⟨fun z => absurd z (by decide), fun z => absurd z.1 (Nat.not_lt_zero r)⟩
  · rintro n ⟨R, D⟩ I
    exact br_t go_49 (h R D (fun r hr => (I r hr).trans ⟨fun z => z.2, fun z => ⟨hr, z⟩⟩))
  · rintro n i ⟨R, D⟩ hi I ih
    have I' : ∀ r, r < 49 → (D r = 1 ↔ r < i ∧ go_D bb e r) := I
    refine br_f (go_n49 hi) ⟨go_in hi, ?_⟩
    rw [go_cm hi, he]
    refine br_c (fun z => go_y_rf hi (fun R' F => ?_)) (fun z => nm_r (nI_1 i) (ih (R, D) (fun r hr => ?_)))
    · dsimp only
      refine go_y_lib hi F (pk_eq (go_lib bb i) 0 (fun k => ⟨go_in hi, nm_r (e' := upd D i 1) rfl (nm_r (nI_1 i) (ih (R', upd D i 1) (fun r hr => ?_)))⟩) (fun k => ⟨go_in hi, nm_r (e' := upd D i 0) rfl (nm_r (nI_1 i) (ih (R', upd D i 0) (fun r hr => ?_)))⟩) rfl rfl (by have := go_n_le (fun l => bb l = 2 ∧ ∃ s, go_ad s l ∧ go_Q bb i s) 49; unfold go_lib; omega))
      · show upd D i 1 r = 1 ↔ _
        by_cases y : r = i
        · subst y
          rw [pk_us]
          exact ⟨fun _ => ⟨by omega, z, (go_lib_0 bb r).mp k⟩, fun _ => rfl⟩
        · rw [pk_un y, I' r hr]
          exact ⟨fun w => ⟨by omega, w.2⟩, fun w => ⟨by omega, w.2⟩⟩
      · show upd D i 0 r = 1 ↔ _
        by_cases y : r = i
        · subst y
          rw [pk_us]
          exact ⟨fun w => absurd w (by decide), fun w => absurd ((go_lib_0 bb r).mpr w.2.2) k⟩
        · rw [pk_un y, I' r hr]
          exact ⟨fun w => ⟨by omega, w.2⟩, fun w => ⟨by omega, w.2⟩⟩
    · show D r = 1 ↔ _
      rw [I' r hr]
      by_cases y : r = i
      · subst y
        exact ⟨fun w => absurd w.1 (by omega), fun w => absurd w.2.1 z⟩
      · exact ⟨fun w => ⟨by omega, w.2⟩, fun w => ⟨by omega, w.2⟩⟩
theorem go_y_pc {post : Int32 → SY → Prop} {f p e : Int32} {b hs g1 g2 ca re de ke : Nat → Int32} {q : Nat} (he : 1 - p = e) (hq : q < 49) (h : ∀ bc R D, go_C (upd b q p) bc e → post (nI (go_n (go_D (upd b q p) e) 49)) (f, bc, hs, g1, g2, ca, R, D, ke)) : wpY_putAndCapture post (f, b, hs, g1, g2, ca, re, de, ke) p (nI q) := by
  unfold wpY_putAndCapture
  dsimp only
  refine ⟨go_in hq, nm_r (e' := upd b q p) (by rw [go_cm hq]) ?_⟩
  refine loop_0 (fun n i (s : Nat → Int32) => wY_putAndCapture_9 post p f n (nI i) (upd b q p) hs g1 g2 ca re s ke) (fun i s => ∀ r, r < i → s r = 0) 49 de (fun r hr => absurd hr (Nat.not_lt_zero r)) ?_ ?_
  · intro n s I
    refine br_t go_49 (go_y_p30 he I (fun R D k => go_y_p83 (fun bc c => ?_)))
    rw [go_n_c 49 (P := fun r => D r = 1) (Q := go_D (upd b q p) e) k]
    exact h bc R D (fun r hr => ⟨fun z => (c r hr).1 ((k r hr).mpr z), fun z => (c r hr).2 (fun y => z ((k r hr).mp y))⟩)
  · intro n i s hi I ih
    refine br_f (go_n49 hi) ⟨go_in hi, nm_r (e' := upd s i 0) (by rw [go_cm hi]) (nm_r (nI_1 i) (ih _ (fun r hr => ?_)))⟩
    by_cases y : r = i
    · subst y
      exact pk_us
    · rw [pk_un y]
      exact I r (by omega)
theorem go_y_ab {post : Int32 → Prop} {f : Int32} {b hs g1 g2 ca re de ke : Nat → Int32} {m : Nat} (hm : m < 40) (h1 : (∀ t, t < 49 → b t = hs (49 * m + t)) → post 1) (h0 : ¬ (∀ t, t < 49 → b t = hs (49 * m + t)) → post 0) : wpY_isAsBefore post (f, b, hs, g1, g2, ca, re, de, ke) (nI m) := by
  refine loop_0 (fun n i (_ : Unit) => wY_isAsBefore_2 post (nI m) f b hs g1 g2 ca re de ke n (nI i)) (fun i _ => ∀ t, t < i → b t = hs (49 * m + t)) 49 () (fun r hr => absurd hr (Nat.not_lt_zero r)) ?_ ?_
  · intro n _ I
    exact br_t go_49 (h1 I)
  · intro n i _ hi I ih
    have e : (49 : Int32) * nI m + nI i = nI (49 * m + i) := by rw [show (49 : Int32) = nI 49 from rfl, pk_mul, nI_add]
    refine br_f (go_n49 hi) ⟨go_in hi, ?_⟩
    rw [e, go_cm hi, nI_clamp (n := 49 * m + i) (by omega)]
    refine ⟨vp_in_nI (by omega) (by omega), br_c (fun z => nm_r (nI_1 i) (ih () (fun t ht => ?_))) (fun z => h0 (fun k => z (k i hi)))⟩
    by_cases y : t = i
    · rw [y]; exact z
    · exact I t (by omega)
theorem go_y_tm {post : Int32 → SY → Prop} {b hs g1 g2 ca re de ke : Nat → Int32} {d i q : Nat} (hd : d ≤ 40) (hi : i < 2) (hq : q < 49) (h : ∀ bc R D K, (∀ t, t < 49 → bc t = go_mv b (nI i) (nI (1 - i)) q t) → (∀ t, t < 49 → K t = b t) → post (go_ans b (fun t => hs (49 * (d - 1) + t)) d (nI i) (nI (1 - i)) q) (nI d, bc, hs, g1, g2, ca, R, D, K)) : wpY_tryMove post (nI d, b, hs, g1, g2, ca, re, de, ke) (nI i) (nI q) := by
  refine loop_0 (fun n j (s : Nat → Int32) => wY_tryMove_2 post (nI i) (nI q) (nI d) n (nI j) b hs g1 g2 ca re de s) (fun j s => ∀ r, r < j → s r = b r) 49 ke (fun r hr => absurd hr (Nat.not_lt_zero r)) ?_ ?_
  · intro n K I
    refine br_t go_49 (go_y_pc (go_oth hi) hq (fun bc R D C => ?_))
    dsimp only
    have hm : ∀ t, t < 49 → bc t = go_mv b (nI i) (nI (1 - i)) q t := go_cap_e C
    refine go_y_rf hq (fun R' F => ?_)
    dsimp only
    have hl : go_lib bc q = go_lib (go_mv b (nI i) (nI (1 - i)) q) q := go_lib_c hm hq
    have h' := h bc R' D K hm I
    refine go_y_lib hq F (pk_eq (go_lib bc q) 0 (fun k => ?_) (fun k => ?_) rfl rfl (by have := go_n_le (fun l => bc l = 2 ∧ ∃ s, go_ad s l ∧ go_Q bc q s) 49; unfold go_lib; omega))
    · rw [go_ans_s (by rw [← hl]; exact k)] at h'
      exact h'
    · have k' : ¬ go_lib (go_mv b (nI i) (nI (1 - i)) q) q = 0 := by rw [← hl]; exact k
      refine pk_le d 0 (fun z => ?_) (fun z => ?_)
      · rw [go_ans_n k' (fun w => absurd w.1 (by omega))] at h'
        exact h'
      · rw [show nI d - 1 = nI (d - 1) from pk_sub (a := d) (b := 1) z]
        refine go_y_ab (by omega) (fun w => br_f (by decide) ?_) (fun w => br_t rfl ?_)
        · rw [go_ans_k k' ⟨z, fun t ht => (hm t ht).symm.trans (w t ht)⟩] at h'
          exact h'
        · rw [go_ans_n k' (fun v => w (fun t ht => (hm t ht).trans (v.2 t ht)))] at h'
          exact h'
  · intro n j s hj I ih
    refine br_f (go_n49 hj) ⟨go_in hj, go_in hj, nm_r (e' := upd s j (b j)) (by rw [go_cm hj]) (nm_r (nI_1 j) (ih _ (fun r hr => ?_)))⟩
    by_cases y : r = j
    · subst y
      exact pk_us
    · rw [pk_un y]
      exact I r (by omega)
theorem go_y_pb {post : SY → Prop} {f : Int32} {b hs g1 g2 ca re de ke : Nat → Int32} (h : ∀ b', (∀ t, t < 49 → b' t = ke t) → post (f, b', hs, g1, g2, ca, re, de, ke)) : wpY_putBack post (f, b, hs, g1, g2, ca, re, de, ke) := by
  refine loop_0 (fun n j (s : Nat → Int32) => wY_putBack_2 post f n (nI j) s hs g1 g2 ca re de ke) (fun j s => ∀ r, r < j → s r = ke r) 49 b (fun r hr => absurd hr (Nat.not_lt_zero r)) ?_ ?_
  · intro n s I
    exact br_t go_49 (h s I)
  · intro n j s hj I ih
    refine br_f (go_n49 hj) ⟨go_in hj, go_in hj, nm_r (e' := upd s j (ke j)) (by rw [go_cm hj]) (nm_r (nI_1 j) (ih _ (fun r hr => ?_)))⟩
    by_cases y : r = j
    · subst y
      exact pk_us
    · rw [pk_un y]
      exact I r (by omega)
theorem go_49d (d i : Nat) : (49 : Int32) * nI d + nI i = nI (49 * d + i) := by rw [show (49 : Int32) = nI 49 from rfl, pk_mul, nI_add]
theorem go_y_no {post : SY → Prop} {b hs g1 g2 ca re de ke : Nat → Int32} {d : Nat} (hd : d < 40) (h : ∀ hs', (∀ j, j < 49 * d → hs' j = hs j) → (∀ t, t < 49 → hs' (49 * d + t) = ke t) → post (nI (d + 1), b, hs', upd g1 d (ca 0), upd g2 d (ca 1), ca, re, de, ke)) : wpY_note post (nI d, b, hs, g1, g2, ca, re, de, ke) := by
  refine loop_0 (fun n j (s : Nat → Int32) => wY_note_2 post (nI d) n (nI j) b s g1 g2 ca re de ke) (fun j s => (∀ i, i < 49 * d → s i = hs i) ∧ ∀ t, t < j → s (49 * d + t) = ke t) 49 hs ⟨fun _ _ => rfl, fun r hr => absurd hr (Nat.not_lt_zero r)⟩ ?_ ?_
  · intro n s I
    have ed : (nI d).toNatClampNeg = d := nI_clamp (by omega)
    refine br_t go_49 ⟨vp_in_nI hd (by decide), nm_r (e' := upd g1 d (ca 0)) (by rw [ed]) ⟨vp_in_nI hd (by decide), nm_r (e' := upd g2 d (ca 1)) (by rw [ed]) (nm_r (nI_1 d) (h s I.1 I.2))⟩⟩
  · intro n j s hj I ih
    refine br_f (go_n49 hj) ⟨go_in hj, ?_⟩
    rw [go_49d]
    refine ⟨vp_in_nI (by omega) (by omega), nm_r (e' := upd s (49 * d + j) (ke j)) (by rw [go_cm hj, nI_clamp (n := 49 * d + j) (by omega)]) (nm_r (nI_1 j) (ih _ ⟨fun i hi => ?_, fun t ht => ?_⟩))⟩
    · rw [pk_un (by omega)]
      exact I.1 i hi
    · by_cases y : t = j
      · subst y
        exact pk_us
      · rw [pk_un (by omega)]
        exact I.2 t (by omega)
