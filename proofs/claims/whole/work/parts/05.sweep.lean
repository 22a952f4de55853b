/-! the reference's flood: R is its array of marks, c how many it counted -/
def go_W (b : Nat → Int32) (q : Nat) (R : Nat → Int32) (c : Nat) : Prop := (∀ r, r < 49 → ¬ R r = 0 → go_Q b q r) ∧ ¬ R q = 0 ∧ go_n (fun r => ¬ R r = 0) 49 = c
def go_nr (b : Nat → Int32) (c : Int32) (R : Nat → Int32) (r : Nat) : Prop := ∃ s, s < 49 ∧ go_ad r s ∧ b s = c ∧ ¬ R s = 0
def go_cl (b : Nat → Int32) (q : Nat) (R : Nat → Int32) (i : Nat) : Prop := ∀ r, r < i → b r = b q → go_nr b (b q) R r → ¬ R r = 0
/-- the flood's end -/
def go_F (b : Nat → Int32) (q : Nat) (R : Nat → Int32) : Prop := ∀ r, r < 49 → (¬ R r = 0 ↔ go_Q b q r)
theorem go_W_c {b R : Nat → Int32} {q c : Nat} (h : go_W b q R c) : c ≤ 49 := by rw [← h.2.2]; exact go_n_le _ 49
theorem go_W_F {b R : Nat → Int32} {q c : Nat} (hq : q < 49) (h : go_W b q R c) (k : go_cl b q R 49) : go_F b q R := by
  intro r hr
  refine ⟨h.1 r hr, fun z => ?_⟩
  refine (z (fun r => r < 49 ∧ ¬ R r = 0) ?_ ?_).2
  · rintro s rfl
    exact ⟨hq, h.2.1⟩
  · rintro s t ⟨hs, rs⟩ a p
    exact ⟨p.1, k t p.1 p.2 ⟨s, hs, go_ad_s a, (go_Q_in hq (h.1 s hs rs)).2, rs⟩⟩
theorem go_W_n {b R : Nat → Int32} {q c : Nat} (h : go_W b q R c) (F : go_F b q R) : c = go_n (go_Q b q) 49 := by
  rw [← h.2.2]
  exact go_n_c 49 F
theorem go_W_s {b R : Nat → Int32} {q c r : Nat} {x : Int32} (hq : q < 49) (h : go_W b q R c) (hr : r < 49) (z : R r = 0) (e : b r = b q) (n : go_nr b (b q) R r) (hx : ¬ x = 0) : go_W b q (upd R r x) (c + 1) := by
  have ur : upd R r x r = x := if_pos rfl
  have un : ∀ t, t ≠ r → upd R r x t = R t := fun t ht => if_neg ht
  refine ⟨?_, ?_, ?_⟩
  · intro t ht
    by_cases y : t = r
    · subst y
      intro _
      obtain ⟨s, hs, a, es, rs⟩ := n
      exact go_R_t (h.1 s hs rs) (go_ad_s a) ⟨ht, e⟩
    · rw [un t y]; exact h.1 t ht
  · by_cases y : q = r
    · rw [y, ur]; exact hx
    · rw [un q y]; exact h.2.1
  · rw [← h.2.2]
    refine go_n_u (k := r) (fun y => y z) (by rw [ur]; exact hx) 49 hr (fun i _ hi => ?_)
    rw [un i hi]
theorem go_W_0 {b R : Nat → Int32} {q : Nat} (hq : q < 49) (h1 : ¬ R q = 0) (h0 : ∀ r, r < 49 → r ≠ q → R r = 0) : go_W b q R 1 := by
  refine ⟨fun r hr z => ?_, h1, ?_⟩
  · by_cases y : r = q
    · rw [y]; exact go_R_s rfl
    · exact absurd (h0 r hr y) z
  · have e := go_n_u (P := fun _ => False) (Q := fun r => ¬ R r = 0) (k := q) (fun y => y) h1 49 hq (fun i hi hn => ⟨fun y => y.elim, fun y => y (h0 i hi hn)⟩)
    rw [e, (go_n_0 49).mpr (fun i _ y => y)]
theorem go_cl_0 (b : Nat → Int32) (q : Nat) (R : Nat → Int32) : go_cl b q R 0 := fun r hr => absurd hr (Nat.not_lt_zero r)
theorem go_cl_s {b R : Nat → Int32} {q i : Nat} (h : go_cl b q R i) (k : b i = b q → go_nr b (b q) R i → ¬ R i = 0) : go_cl b q R (i + 1) := by
  intro r hr
  by_cases y : r = i
  · rw [y]; exact k
  · exact h r (by omega)
/-! marks and liberties -/
def go_lr (b R : Nat → Int32) (l : Nat) : Prop := b l = 2 ∧ ∃ s, s < 49 ∧ go_ad l s ∧ ¬ R s = 0
theorem go_F_lib {b R : Nat → Int32} {q : Nat} (hq : q < 49) (F : go_F b q R) : go_n (go_lr b R) 49 = go_lib b q := by
  unfold go_lib
  refine go_n_c 49 (fun l _ => ?_)
  constructor
  · rintro ⟨e, s, hs, a, rs⟩
    exact ⟨e, s, go_ad_s a, (F s hs).mp rs⟩
  · rintro ⟨e, s, a, z⟩
    have hs := (go_Q_in hq z).1
    exact ⟨e, s, hs, go_ad_s a, (F s hs).mpr z⟩
/-- the marked points touch c -/
def go_tc (b R : Nat → Int32) (c : Int32) : Prop := ∃ r, r < 49 ∧ ¬ R r = 0 ∧ ∃ s, s < 49 ∧ go_ad r s ∧ b s = c
theorem go_F_K {b R : Nat → Int32} {q : Nat} (hq : q < 49) (F : go_F b q R) (c : Int32) : go_tc b R c ↔ go_K b c q := by
  constructor
  · rintro ⟨r, hr, rr, s, hs, a, e⟩
    exact ⟨r, (F r hr).mp rr, s, go_ad_s a, hs, e⟩
  · rintro ⟨r, z, s, a, hs, e⟩
    have hr := (go_Q_in hq z).1
    exact ⟨r, hr, (F r hr).mpr z, s, hs, go_ad_s a, e⟩
/-- the first marked point -/
def go_fm (R : Nat → Int32) (f : Nat) : Prop := f < 49 ∧ ¬ R f = 0 ∧ ∀ r, r < 49 → ¬ R r = 0 → f ≤ r
theorem go_F_first {b R : Nat → Int32} {q f : Nat} (hq : q < 49) (F : go_F b q R) (h : go_fm R f) : f = q ↔ go_first b q := by
  obtain ⟨hf, rf, hm⟩ := h
  constructor
  · rintro rfl r z
    have hr := (go_Q_in hq z).1
    exact hm r hr ((F r hr).mpr z)
  · intro k
    have h1 := k f ((F f hf).mp rf)
    have h2 := hm q hq ((F q hq).mpr (go_R_s rfl))
    omega
/-! what the hits of four directions say -/
theorem go_dir {q : Nat} (hq : q < 49) (H : Nat → Prop) : (∃ d, d < 4 ∧ ∃ s, s < 49 ∧ go_nb q d = nI s ∧ H s) ↔ ∃ s, s < 49 ∧ go_ad q s ∧ H s := by
  constructor
  · rintro ⟨d, _, s, hs, e, h⟩
    rcases go_nb_c hq d with z | ⟨t, ht, z, a⟩
    · exact absurd (e.symm.trans z) (go_m1_lt hs)
    · obtain rfl : s = t := (nI_eq (by omega) (by omega)).mp (e.symm.trans z)
      exact ⟨s, hs, a, h⟩
  · rintro ⟨s, hs, a, h⟩
    obtain ⟨d, hd, e⟩ := go_nb_e hq hs a
    exact ⟨d, hd, s, hs, e, h⟩
/-- a hit among the first i directions -/
def go_h (q : Nat) (H : Nat → Prop) (i : Nat) : Prop := ∃ d, d < i ∧ ∃ s, s < 49 ∧ go_nb q d = nI s ∧ H s
theorem go_h_0 (q : Nat) (H : Nat → Prop) : ¬ go_h q H 0 := fun ⟨d, hd, _⟩ => Nat.not_lt_zero d hd
theorem go_h_m {q i : Nat} {H : Nat → Prop} (h : go_h q H i) : go_h q H (i + 1) := by
  obtain ⟨d, hd, z⟩ := h
  exact ⟨d, by omega, z⟩
theorem go_h_t {q i s : Nat} {H : Nat → Prop} (hs : s < 49) (e : go_nb q i = nI s) (h : H s) : go_h q H (i + 1) := ⟨i, by omega, s, hs, e, h⟩
theorem go_h_f {q i s : Nat} {H : Nat → Prop} (n : ¬ go_h q H i) (hs : s < 49) (e : go_nb q i = nI s) (h : ¬ H s) : ¬ go_h q H (i + 1) := by
  rintro ⟨d, hd, t, ht, e2, k⟩
  by_cases y : d = i
  · subst y
    obtain rfl : s = t := (nI_eq (by omega) (by omega)).mp (e.symm.trans e2)
    exact h k
  · exact n ⟨d, by omega, t, ht, e2, k⟩
theorem go_h_n {q i : Nat} {H : Nat → Prop} (n : ¬ go_h q H i) (e : go_nb q i = -1) : ¬ go_h q H (i + 1) := by
  rintro ⟨d, hd, t, ht, e2, k⟩
  by_cases y : d = i
  · subst y
    exact absurd (e2.symm.trans e) (go_m1_lt ht)
  · exact n ⟨d, by omega, t, ht, e2, k⟩
