/-! the point q as a set; boards after set and play -/
def go_p (q : Nat) : Int64 := (1 : Int64) <<< ((nI q).toInt64 &&& 63)
theorem go_p_b {q : Nat} (hq : q < 49) (t : Nat) : go_b (go_p q) t = true ↔ t = q := by
  rcases Nat.lt_or_ge t 64 with h | h
  · unfold go_p
    rw [go_pt (by omega) h, decide_eq_true_eq]
  · unfold go_p
    rw [go_big _ h]
    exact ⟨fun z => absurd z (by decide), fun z => absurd z (by omega)⟩
theorem go_p_w {q : Nat} (hq : q < 49) : go_w (go_p q) := go_w_pt hq
theorem go_rm {x : Int64} {b : Nat → Int32} {c : Int32} {q : Nat} (hx : go_S x b c) (hc : c ≠ 2) (hq : q < 49) : go_S (x &&& (go_p q ^^^ (-1))) (upd b q 2) c := by
  intro t
  have w := go_S_w hx
  rcases Nat.lt_or_ge t 49 with ht | ht
  · rw [go_and, Bool.and_eq_true, hx t, go_not _ (by omega), Bool.not_eq_true', ← Bool.not_eq_true, go_p_b hq]
    unfold go_P
    by_cases z : t = q
    · subst z
      rw [show upd b t 2 t = 2 from if_pos rfl]
      exact ⟨fun y => absurd rfl y.2, fun y => absurd y.2.symm hc⟩
    · rw [show upd b q 2 t = b t from if_neg z]
      exact ⟨fun y => y.1, fun y => ⟨y, z⟩⟩
  · rw [go_and, w t ht, Bool.false_and]
    exact ⟨fun z => absurd z (by decide), fun z => absurd z.1 (by omega)⟩
theorem go_up_v {b : Nat → Int32} {q : Nat} {c : Int32} (hb : ∀ t, t < 49 → b t = 0 ∨ b t = 1 ∨ b t = 2) (hc : c = 0 ∨ c = 1 ∨ c = 2) : ∀ t, t < 49 → upd b q c t = 0 ∨ upd b q c t = 1 ∨ upd b q c t = 2 := by
  intro t ht
  by_cases z : t = q
  · rw [show upd b q c t = c from if_pos z]; exact hc
  · rw [show upd b q c t = b t from if_neg z]; exact hb t ht
theorem go_T_rm {x y : Int64} {b : Nat → Int32} {q : Nat} (T : go_T x y b) (hq : q < 49) : go_T (x &&& (go_p q ^^^ (-1))) (y &&& (go_p q ^^^ (-1))) (upd b q 2) := ⟨go_rm T.1 (by decide) hq, go_rm T.2.1 (by decide) hq, go_up_v T.2.2 (Or.inr (Or.inr rfl))⟩
theorem go_T_0 {x y : Int64} {b : Nat → Int32} {q : Nat} (T : go_T x y b) (hq : q < 49) (e : b q = 2) : go_T (x ||| go_p q) y (upd b q 0) :=
  ⟨go_mv_own T.1 (go_p_b hq) hq (if_pos rfl) (fun t ht => if_neg ht), go_mv_other (c := 0) T.2.1 (by rw [e]; decide) (by decide) (if_pos rfl) (fun t ht => if_neg ht), go_up_v T.2.2 (Or.inl rfl)⟩
theorem go_T_1 {x y : Int64} {b : Nat → Int32} {q : Nat} (T : go_T x y b) (hq : q < 49) (e : b q = 2) : go_T x (y ||| go_p q) (upd b q 1) :=
  ⟨go_mv_other (c := 1) T.1 (by rw [e]; decide) (by decide) (if_pos rfl) (fun t ht => if_neg ht), go_mv_own T.2.1 (go_p_b hq) hq (if_pos rfl) (fun t ht => if_neg ht), go_up_v T.2.2 (Or.inr (Or.inl rfl))⟩
/-- the stones of the player i (0 or 1), and the other's number -/
theorem go_v2 {b : Nat → Int32} (h : ∀ t, t < 49 → b t = 0 ∨ b t = 1 ∨ b t = 2) : ∀ t, t < 49 → b t = 1 ∨ b t = 0 ∨ b t = 2 := by
  intro t ht
  rcases h t ht with z | z | z
  · exact Or.inr (Or.inl z)
  · exact Or.inl z
  · exact Or.inr (Or.inr z)
/-- stones of player i and of the other one, in the row d -/
def go_U (st : Nat → Int64) (d : Nat) (b : Nat → Int32) (i : Nat) : Prop := i < 2 ∧ go_S (st (2 * d + i)) b (nI i) ∧ go_S (st (2 * d + (1 - i))) b (nI (1 - i)) ∧ (∀ t, t < 49 → b t = nI i ∨ b t = nI (1 - i) ∨ b t = 2) ∧ nI i ≠ nI (1 - i) ∧ nI i ≠ 2 ∧ nI (1 - i) ≠ 2
theorem go_U_T {st : Nat → Int64} {d : Nat} {b : Nat → Int32} (T : go_T (st (2 * d)) (st (2 * d + 1)) b) {i : Nat} (hi : i < 2) : go_U st d b i := by
  rcases (by omega : i = 0 ∨ i = 1) with rfl | rfl
  · exact ⟨hi, T.1, T.2.1, T.2.2, by decide, by decide, by decide⟩
  · exact ⟨hi, T.2.1, T.1, go_v2 T.2.2, by decide, by decide, by decide⟩
theorem go_T_U {st : Nat → Int64} {d : Nat} {b : Nat → Int32} {i : Nat} (hi : i < 2) (h1 : go_S (st (2 * d + i)) b (nI i)) (h2 : go_S (st (2 * d + (1 - i))) b (nI (1 - i))) (hb : ∀ t, t < 49 → b t = nI i ∨ b t = nI (1 - i) ∨ b t = 2) : go_T (st (2 * d)) (st (2 * d + 1)) b := by
  rcases (by omega : i = 0 ∨ i = 1) with rfl | rfl
  · exact ⟨h1, h2, hb⟩
  · refine ⟨h2, h1, fun t ht => ?_⟩
    rcases hb t ht with z | z | z
    · exact Or.inr (Or.inl z)
    · exact Or.inl z
    · exact Or.inr (Or.inr z)
/-- the free points of a board -/
theorem go_T_e {x y : Int64} {b : Nat → Int32} (T : go_T x y b) : go_S (562949953421311 &&& ((x ||| y) ^^^ (-1))) b 2 := go_S_e T.1 T.2.1 T.2.2 (by decide) (by decide)
/-- points that score for c -/
def go_sc (b : Nat → Int32) (c e : Int32) (q : Nat) : Prop := b q = c ∨ (b q = 2 ∧ go_K b c q ∧ ¬ go_K b e q)
theorem go_sc_b {x y f : Int64} {b : Nat → Int32} {c e : Int32} (hx : go_S x b c) (hy : go_S y b e) (hf : go_S f b 2) (t : Nat) (ht : t < 49) : go_b (x ||| (go_G (go_N x &&& f) f &&& (go_G (go_N y &&& f) f ^^^ (-1)))) t = true ↔ go_sc b c e t := by
  rw [go_or, Bool.or_eq_true, hx t, go_and, Bool.and_eq_true, go_not _ (by omega), Bool.not_eq_true', ← Bool.not_eq_true, go_K_b hf hx, go_K_b hf hy]
  unfold go_sc go_P
  constructor
  · rintro (h | ⟨⟨h, k⟩, n⟩)
    · exact Or.inl h.2
    · exact Or.inr ⟨h.2, k, fun z => n ⟨h, z⟩⟩
  · rintro (h | ⟨h, k, n⟩)
    · exact Or.inl ⟨ht, h⟩
    · exact Or.inr ⟨⟨⟨ht, h⟩, k⟩, fun z => n z.2⟩
theorem go_x01 {p : Int32} : p = 0 ∨ p = 1 ∨ (¬ p = 0 ∧ ¬ p = 1) := by
  by_cases h : p = 0
  · exact Or.inl h
  · by_cases h1 : p = 1
    · exact Or.inr (Or.inl h1)
    · exact Or.inr (Or.inr ⟨h, h1⟩)
theorem go_pl (p : Int32) : (∃ i, i < 2 ∧ p = nI i) ∨ (¬ p = 0 ∧ ¬ p = 1) := by
  rcases go_x01 (p := p) with h | h | h
  · exact Or.inl ⟨0, by omega, h⟩
  · exact Or.inl ⟨1, by omega, h⟩
  · exact Or.inr h
