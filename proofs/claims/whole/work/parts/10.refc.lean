/-! the first marked point; what the marked points touch; trial -/
theorem go_y_fr {post : Int32 → Prop} {f : Int32} {b hs g1 g2 ca re de ke : Nat → Int32} {q : Nat} (hq : q < 49) (rq : ¬ re q = 0) (h : ∀ m, go_fm re m → post (nI m)) : wpY_firstReached post (f, b, hs, g1, g2, ca, re, de, ke) := by
  have L := pk_loopD (fun n i (s : Nat) => wY_firstReached_6 post f b hs g1 g2 ca re de ke n (nI s) (nI i + (-1))) (fun i s => i ≤ 49 ∧ s < 49 ∧ (∀ r, i ≤ r → r < 49 → ¬ re r = 0 → s ≤ r) ∧ (s = 48 ∨ ¬ re s = 0)) ?_ ?_ 49 48 ⟨by omega, by omega, fun r h1 h2 => absurd h2 (by omega), Or.inl rfl⟩
  · have L' : wY_firstReached_6 post f b hs g1 g2 ca re de ke (49 + 1) (nI 48) (nI 49 + (-1)) := L
    rw [show nI 49 + (-1) = nI 48 from pk_m1 48] at L'
    exact ⟨49 + 1, L'⟩
  · rintro n s ⟨_, h1, h2, h3⟩
    refine br_t (by decide) (h s ⟨h1, ?_, fun r hr => h2 r (Nat.zero_le r) hr⟩)
    rcases h3 with h3 | h3
    · have := h2 q (Nat.zero_le q) hq rq
      obtain rfl : q = s := by omega
      exact rq
    · exact h3
  · rintro n i s ⟨h0, h1, h2, h3⟩ ih
    have hi : i < 49 := by omega
    show wY_firstReached_6 post f b hs g1 g2 ca re de ke (n + 1) (nI s) (nI (i + 1) + (-1))
    rw [pk_m1]
    refine br_f (nI_pos (by omega)) ⟨go_in hi, ?_⟩
    rw [go_cm hi]
    refine br_c (fun z => nm_e (ih s ⟨by omega, h1, fun r k1 k2 k3 => ?_, h3⟩)) (fun z => nm_e (ih i ⟨by omega, hi, fun r k1 _ _ => k1, Or.inr z⟩))
    by_cases y : r = i
    · subst y
      exact absurd z k3
    · exact h2 r (by omega) k2 k3
theorem go_y_to {post : Int32 → Prop} {f : Int32} {b hs g1 g2 ca re de ke : Nat → Int32} {w : Int32} (h1 : go_tc b re w → post 1) (h0 : ¬ go_tc b re w → post 0) : wpY_touches post (f, b, hs, g1, g2, ca, re, de, ke) w := by
  refine loop_0 (fun n i (_ : Unit) => wY_touches_2 post w f b hs g1 g2 ca re de ke n (nI i)) (fun i _ => ∀ r, r < i → ¬ re r = 0 → ¬ ∃ s, s < 49 ∧ go_ad r s ∧ b s = w) 49 () (fun r hr => absurd hr (Nat.not_lt_zero r)) ?_ ?_
  · rintro n _ I
    exact br_t go_49 (h0 (fun ⟨r, hr, rr, k⟩ => I r hr rr k))
  · rintro n i _ hi I ih
    refine br_f (go_n49 hi) ⟨go_in hi, ?_⟩
    rw [go_cm hi]
    refine br_c (fun z => nm_r (nI_1 i) (ih () (fun r hr => ?_))) (fun z => go_y_bs hi (fun ⟨s, a1, a2, a3, _⟩ => br_f (by decide) (h1 ⟨i, hi, z, s, a1, a2, a3⟩)) (fun k => br_t rfl (nm_r (nI_1 i) (ih () (fun r hr => ?_)))))
    · by_cases y : r = i
      · subst y
        exact fun w => absurd z w
      · exact I r (by omega)
    · by_cases y : r = i
      · subst y
        exact fun _ ⟨s, a1, a2, a3⟩ => k ⟨s, a1, a2, a3, Or.inl rfl⟩
      · exact I r (by omega)
theorem go_y_tr {post : Int32 → SY → Prop} {b hs g1 g2 ca re de ke : Nat → Int32} {d i q : Nat} (hd : d ≤ 40) (hi : i < 2) (hq : q < 49) (h2 : ¬ b q = 2 → post (-2) (nI d, b, hs, g1, g2, ca, re, de, ke)) (h : b q = 2 → ∀ b' R D K, (∀ t, t < 49 → b' t = b t) → post (go_ans b (fun t => hs (49 * (d - 1) + t)) d (nI i) (nI (1 - i)) q) (nI d, b', hs, g1, g2, ca, R, D, K)) : wpY_trial post (nI d, b, hs, g1, g2, ca, re, de, ke) (nI i) (nI q) := by
  unfold wpY_trial
  dsimp only
  refine go_y_pl1 hi (br_f (by decide) (go_y_pt1 hq (br_f (by decide) ⟨go_in hq, ?_⟩)))
  rw [go_cm hq]
  exact br_c (fun z => go_y_tm hd hi hq (fun bc R D K hm hk => go_y_pb (fun b' hb' => h z b' R D K (fun t ht => (hb' t ht).trans (hk t ht))))) (fun z => h2 z)
/-! the relation -/
/-- d moves and passes are done; go_J says how the rows of the component's history are the reference's -/
def i_Rel (_ : Nat) (u : SX) (v : SY) : Prop := ∃ (d : Nat) (st : Nat → Int64) (pr bo hs g1 g2 ca re de ke : Nat → Int32), u = (nI d, st, pr) ∧ v = (nI d, bo, hs, g1, g2, ca, re, de, ke) ∧ go_J d st pr bo hs g1 g2 ca
theorem go_mk {k d : Nat} {st : Nat → Int64} {pr bo hs g1 g2 ca re de ke : Nat → Int32} (J : go_J d st pr bo hs g1 g2 ca) : i_Rel k (nI d, st, pr) (nI d, bo, hs, g1, g2, ca, re, de, ke) := ⟨d, st, pr, bo, hs, g1, g2, ca, re, de, ke, rfl, rfl, J⟩
theorem i_up {k : Nat} {u : SX} {v : SY} (h : i_Rel k u v) : i_Rel (k + 3) u v := h
theorem go_T00 {s : Nat → Int32} (I : ∀ r, r < 49 → s r = 2) : go_T 0 0 s := by
  refine ⟨fun t => ?_, fun t => ?_, fun t ht => Or.inr (Or.inr (I t ht))⟩
  · rw [go_0]
    exact ⟨fun z => absurd z (by decide), fun z => absurd ((I t z.1).symm.trans z.2) (by decide)⟩
  · rw [go_0]
    exact ⟨fun z => absurd z (by decide), fun z => absurd ((I t z.1).symm.trans z.2) (by decide)⟩
theorem i_vc0 : wpX_init (fun u => wpY_init (fun v => i_Rel 0 u v)) := by
  show wpY_init (fun v => i_Rel 0 (0, (fun _ => 0), (fun _ => 0)) v)
  refine loop_0 (fun n i (s : Nat → Int32) => wY_init_70 (fun v => i_Rel 0 (0, (fun _ => 0), (fun _ => 0)) v) 0 n (nI i) s (fun _ => 0) (fun _ => 0) (fun _ => 0) (fun _ => 0) (fun _ => 0) (fun _ => 0) (fun _ => 0)) (fun i s => ∀ r, r < i → s r = 2) 49 (fun _ => 0) (fun r hr => absurd hr (Nat.not_lt_zero r)) ?_ ?_
  · intro n s I
    exact br_t go_49 (go_mk (d := 0) ⟨by omega, fun n hn => absurd hn (Nat.not_lt_zero n), go_T00 I, rfl, rfl, rfl, rfl⟩)
  · intro n i s hi I ih
    refine br_f (go_n49 hi) ⟨go_in hi, nm_r (e' := upd s i 2) (by rw [go_cm hi]) (nm_r (nI_1 i) (ih _ (fun r hr => ?_)))⟩
    by_cases y : r = i
    · subst y
      exact pk_us
    · rw [pk_un y]
      exact I r (by omega)
