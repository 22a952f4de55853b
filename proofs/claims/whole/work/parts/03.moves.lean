/-! liberties -/
noncomputable def go_lib (b : Nat → Int32) (q : Nat) : Nat := go_n (fun l => b l = 2 ∧ ∃ s, go_ad s l ∧ go_Q b q s) 49
theorem go_lib_0 (b : Nat → Int32) (q : Nat) : go_lib b q = 0 ↔ ¬ go_K b 2 q := by
  unfold go_lib
  rw [go_n_0]
  constructor
  · rintro h ⟨e, he, l, a, p⟩
    exact h l p.1 ⟨p.2, e, go_ad_s a, he⟩
  · rintro h l hl ⟨p, s, a, hs⟩
    exact h ⟨s, hs, l, go_ad_s a, hl, p⟩
theorem go_lib_b {x e : Int64} {b : Nat → Int32} {q : Nat} (hx : ∀ t, go_b x t = true ↔ go_Q b q t) (hq : q < 49) (he : go_S e b 2) (t : Nat) (ht : t < 49) : go_b (go_N x &&& e) t = true ↔ (b t = 2 ∧ ∃ s, go_ad s t ∧ go_Q b q s) := by
  have wx : go_w x := by
    intro i hi
    cases z : go_b x i
    · rfl
    · have := (go_Q_in hq ((hx i).mp z)).1
      omega
  rw [go_and, Bool.and_eq_true, go_N_b wx, he t]
  constructor
  · rintro ⟨⟨_, s, a, h⟩, p⟩
    exact ⟨p.2, s, a, (hx s).mp h⟩
  · rintro ⟨p, s, a, h⟩
    exact ⟨⟨ht, s, a, (hx s).mpr h⟩, ht, p⟩
/-! a move of the player c (the other one is d) at the empty point q: the boards b, then bb with the stone, then bc without the groups that are taken -/
def go_D (bb : Nat → Int32) (d : Int32) (r : Nat) : Prop := bb r = d ∧ ¬ go_K bb 2 r
def go_C (bb bc : Nat → Int32) (d : Int32) : Prop := ∀ r, r < 49 → (go_D bb d r → bc r = 2) ∧ (¬ go_D bb d r → bc r = bb r)
theorem go_mv_own {x pt : Int64} {b bb : Nat → Int32} {c : Int32} {q : Nat} (hx : go_S x b c) (hp : ∀ t, go_b pt t = true ↔ t = q) (hq : q < 49) (h1 : bb q = c) (h2 : ∀ t, t ≠ q → bb t = b t) : go_S (x ||| pt) bb c := by
  intro t
  rw [go_or, Bool.or_eq_true, hx t, hp t]
  unfold go_P
  by_cases e : t = q
  · subst e
    exact ⟨fun _ => ⟨hq, h1⟩, fun _ => Or.inr rfl⟩
  · rw [h2 t e]
    exact ⟨fun z => z.resolve_right e, Or.inl⟩
theorem go_mv_other {x : Int64} {b bb : Nat → Int32} {c d : Int32} {q : Nat} (hx : go_S x b d) (hb : b q ≠ d) (hc : c ≠ d) (h1 : bb q = c) (h2 : ∀ t, t ≠ q → bb t = b t) : go_S x bb d := by
  intro t
  rw [hx t]
  unfold go_P
  by_cases e : t = q
  · subst e
    exact ⟨fun z => absurd z.2 hb, fun z => absurd (h1.symm.trans z.2) hc⟩
  · rw [h2 t e]
theorem go_mv_val {b bb : Nat → Int32} {c d : Int32} {q : Nat} (hb : ∀ t, t < 49 → b t = c ∨ b t = d ∨ b t = 2) (h1 : bb q = c) (h2 : ∀ t, t ≠ q → bb t = b t) : ∀ t, t < 49 → bb t = c ∨ bb t = d ∨ bb t = 2 := by
  intro t ht
  by_cases e : t = q
  · subst e; exact Or.inl h1
  · rw [h2 t e]; exact hb t ht
theorem go_cp_val {bb bc : Nat → Int32} {c d : Int32} (hb : ∀ t, t < 49 → bb t = c ∨ bb t = d ∨ bb t = 2) (h : go_C bb bc d) : ∀ t, t < 49 → bc t = c ∨ bc t = d ∨ bc t = 2 := by
  intro t ht
  by_cases e : go_D bb d t
  · exact Or.inr (Or.inr ((h t ht).1 e))
  · rw [(h t ht).2 e]; exact hb t ht
theorem go_cp_own {x : Int64} {bb bc : Nat → Int32} {c d : Int32} (hx : go_S x bb c) (hcd : c ≠ d) (hc : c ≠ 2) (h : go_C bb bc d) : go_S x bc c := by
  intro t
  rw [hx t]
  unfold go_P
  constructor
  · rintro ⟨ht, z⟩
    exact ⟨ht, by rw [(h t ht).2 (fun y => hcd (z.symm.trans y.1))]; exact z⟩
  · rintro ⟨ht, z⟩
    refine ⟨ht, ?_⟩
    by_cases e : go_D bb d t
    · exact absurd (z.symm.trans ((h t ht).1 e)) hc
    · rw [← (h t ht).2 e]; exact z
theorem go_cp_left {x y : Int64} {bb bc : Nat → Int32} {c d : Int32} (hx : go_S x bb c) (hy : go_S y bb d) (hb : ∀ t, t < 49 → bb t = c ∨ bb t = d ∨ bb t = 2) (hc : c ≠ 2) (hd : d ≠ 2) (h : go_C bb bc d) : go_S (go_L y x) bc d := by
  intro t
  rw [go_L_b hy hx (fun t ht => (hb t ht).elim (fun z => Or.inr (Or.inl z)) (fun z => z.elim Or.inl (fun z => Or.inr (Or.inr z)))) hd hc]
  unfold go_P
  constructor
  · rintro ⟨⟨ht, z⟩, k⟩
    exact ⟨ht, by rw [(h t ht).2 (fun y => y.2 k)]; exact z⟩
  · rintro ⟨ht, z⟩
    by_cases e : go_D bb d t
    · exact absurd (z.symm.trans ((h t ht).1 e)) hd
    · rw [(h t ht).2 e] at z
      exact ⟨⟨ht, z⟩, Classical.byContradiction fun y => e ⟨z, y⟩⟩
/-- the stones that are taken -/
theorem go_cp_n {x y : Int64} {bb bc : Nat → Int32} {d : Int32} (hy : go_S y bb d) (hl : go_S x bc d) (hd : d ≠ 2) (h : go_C bb bc d) (t : Nat) (ht : t < 49) : go_b (y &&& (x ^^^ (-1))) t = true ↔ go_D bb d t := by
  rw [go_and, Bool.and_eq_true, go_not _ (by omega), Bool.not_eq_true', hy t, ← Bool.not_eq_true, hl t]
  unfold go_P
  constructor
  · rintro ⟨⟨_, z⟩, k⟩
    refine Classical.byContradiction fun e => k ⟨ht, ?_⟩
    rw [(h t ht).2 e]; exact z
  · intro e
    refine ⟨⟨ht, e.1⟩, fun k => ?_⟩
    exact hd (k.2.symm.trans ((h t ht).1 e))
/-- the new stone's group -/
theorem go_cp_alive {x y : Int64} {bc : Nat → Int32} {c d : Int32} {q : Nat} (hx : go_S x bc c) (hl : go_S y bc d) (hb : ∀ t, t < 49 → bc t = c ∨ bc t = d ∨ bc t = 2) (hc : c ≠ 2) (hd : d ≠ 2) (hq : q < 49) (h1 : bc q = c) : go_b (go_L x y) q = true ↔ go_lib bc q ≠ 0 := by
  rw [go_L_b hx hl hb hc hd, Ne, go_lib_0]
  exact ⟨fun z y => y z.2, fun z => ⟨⟨hq, h1⟩, Classical.byContradiction z⟩⟩
/-- two boards are the same where both players' stones are -/
theorem go_same {x y x' y' : Int64} {b b' : Nat → Int32} {c d : Int32} (hx : go_S x b c) (hy : go_S y b d) (hx' : go_S x' b' c) (hy' : go_S y' b' d) (hb : ∀ t, t < 49 → b t = c ∨ b t = d ∨ b t = 2) (hb' : ∀ t, t < 49 → b' t = c ∨ b' t = d ∨ b' t = 2) : (x = x' ∧ y = y') ↔ ∀ t, t < 49 → b t = b' t := by
  constructor
  · rintro ⟨rfl, rfl⟩ t ht
    rcases hb t ht with z | z | z
    · exact z.trans ((hx' t).mp ((hx t).mpr ⟨ht, z⟩)).2.symm
    · exact z.trans ((hy' t).mp ((hy t).mpr ⟨ht, z⟩)).2.symm
    · rcases hb' t ht with w | w | w
      · exact ((hx t).mp ((hx' t).mpr ⟨ht, w⟩)).2.trans w.symm
      · exact ((hy t).mp ((hy' t).mpr ⟨ht, w⟩)).2.trans w.symm
      · exact z.trans w.symm
  · intro h
    have e1 : go_S x' b c := fun t => (hx' t).trans ⟨fun z => ⟨z.1, (h t z.1).trans z.2⟩, fun z => ⟨z.1, (h t z.1).symm.trans z.2⟩⟩
    have e2 : go_S y' b d := fun t => (hy' t).trans ⟨fun z => ⟨z.1, (h t z.1).trans z.2⟩, fun z => ⟨z.1, (h t z.1).symm.trans z.2⟩⟩
    exact ⟨go_S_u hx e1, go_S_u hy e2⟩
/-! the first point of its group; the groups counted one by one -/
def go_first (b : Nat → Int32) (q : Nat) : Prop := ∀ r, go_Q b q r → q ≤ r
/-- the stones of c in no group of a point before q -/
def go_un (b : Nat → Int32) (c : Int32) (q t : Nat) : Prop := go_P b c t ∧ ∀ s, s < q → b s = c → ¬ go_Q b s t
theorem go_un_q {b : Nat → Int32} {c : Int32} {q : Nat} (hq : q < 49) : go_un b c q q ↔ (b q = c ∧ go_first b q) := by
  constructor
  · rintro ⟨p, h⟩
    refine ⟨p.2, fun r hr => ?_⟩
    rcases Nat.lt_or_ge r q with z | z
    · have e := go_Q_in hq hr
      exact absurd (go_Q_sy hq hr) (h r z (e.2.trans p.2))
    · exact z
  · rintro ⟨p, h⟩
    refine ⟨⟨hq, p⟩, fun s hs _ k => ?_⟩
    have := h s (go_Q_sy (by omega) k)
    omega
theorem go_un_s {b : Nat → Int32} {c : Int32} {q : Nat} (hq : q < 49) (t : Nat) : go_un b c (q + 1) t ↔ (go_un b c q t ∧ (go_un b c q q → ¬ go_Q b q t)) := by
  constructor
  · rintro ⟨p, h⟩
    exact ⟨⟨p, fun s hs => h s (by omega)⟩, fun k => h q (by omega) k.1.2⟩
  · rintro ⟨⟨p, h⟩, k⟩
    refine ⟨p, fun s hs e z => ?_⟩
    rcases Nat.lt_or_ge s q with y | y
    · exact h s y e z
    · obtain rfl : s = q := by omega
      refine k ⟨⟨hq, e⟩, fun r hr er y => ?_⟩ z
      exact h r hr er (go_Q_tr (by omega) y z)
