/-! how many of the first n -/
noncomputable def go_n (P : Nat → Prop) : Nat → Nat
  | 0 => 0
  | n + 1 => go_n P n + @ite Nat (P n) (Classical.propDecidable _) 1 0
theorem go_n_t {P : Nat → Prop} {n : Nat} (h : P n) : go_n P (n + 1) = go_n P n + 1 := by rw [go_n, if_pos h]
theorem go_n_f {P : Nat → Prop} {n : Nat} (h : ¬ P n) : go_n P (n + 1) = go_n P n := by rw [go_n, if_neg h, Nat.add_zero]
theorem go_n_le (P : Nat → Prop) : ∀ n, go_n P n ≤ n := by
  intro n
  induction n with
  | zero => exact Nat.le_refl 0
  | succ n ih =>
    by_cases h : P n
    · rw [go_n_t h]; omega
    · rw [go_n_f h]; omega
theorem go_n_c {P Q : Nat → Prop} : ∀ n, (∀ i, i < n → (P i ↔ Q i)) → go_n P n = go_n Q n := by
  intro n
  induction n with
  | zero => intro _; rfl
  | succ n ih =>
    intro h
    have e := ih (fun i hi => h i (by omega))
    by_cases z : P n
    · rw [go_n_t z, go_n_t ((h n (by omega)).mp z), e]
    · rw [go_n_f z, go_n_f (fun q => z ((h n (by omega)).mpr q)), e]
theorem go_n_u {P Q : Nat → Prop} {k : Nat} (hp : ¬ P k) (hq : Q k) : ∀ n, k < n → (∀ i, i < n → i ≠ k → (P i ↔ Q i)) → go_n Q n = go_n P n + 1 := by
  intro n
  induction n with
  | zero => intro h _; omega
  | succ n ih =>
    intro hk h
    by_cases e : k = n
    · subst e
      rw [go_n_t hq, go_n_f hp, go_n_c k (fun i hi => h i (by omega) (by omega))]
    · have e1 := ih (by omega) (fun i hi => h i (by omega))
      by_cases z : P n
      · rw [go_n_t z, go_n_t ((h n (by omega) (fun q => e q.symm)).mp z), e1]
      · rw [go_n_f z, go_n_f (fun q => z ((h n (by omega) (fun q => e q.symm)).mpr q)), e1]
theorem go_n_m {P Q : Nat → Prop} : ∀ n, (∀ i, i < n → P i → Q i) → go_n P n ≤ go_n Q n := by
  intro n
  induction n with
  | zero => intro _; exact Nat.le_refl 0
  | succ n ih =>
    intro h
    have e := ih (fun i hi => h i (by omega))
    by_cases z : P n
    · rw [go_n_t z, go_n_t (h n (by omega) z)]; omega
    · by_cases y : Q n
      · rw [go_n_f z, go_n_t y]; omega
      · rw [go_n_f z, go_n_f y]; exact e
theorem go_n_l {P Q : Nat → Prop} {k : Nat} (hp : ¬ P k) (hq : Q k) : ∀ n, k < n → (∀ i, i < n → P i → Q i) → go_n P n < go_n Q n := by
  intro n
  induction n with
  | zero => intro h _; omega
  | succ n ih =>
    intro hk h
    by_cases e : k = n
    · subst e
      have := go_n_m k (fun i hi => h i (by omega))
      rw [go_n_t hq, go_n_f hp]; omega
    · have e1 := ih (by omega) (fun i hi => h i (by omega))
      by_cases z : P n
      · rw [go_n_t z, go_n_t (h n (by omega) z)]; omega
      · by_cases y : Q n
        · rw [go_n_f z, go_n_t y]; omega
        · rw [go_n_f z, go_n_f y]; exact e1
theorem go_n_0 {P : Nat → Prop} : ∀ n, go_n P n = 0 ↔ ∀ i, i < n → ¬ P i := by
  intro n
  induction n with
  | zero => exact ⟨fun _ i hi => absurd hi (Nat.not_lt_zero i), fun _ => rfl⟩
  | succ n ih =>
    by_cases z : P n
    · rw [go_n_t z]
      exact ⟨fun h => absurd h (by omega), fun h => absurd z (h n (by omega))⟩
    · rw [go_n_f z, ih]
      constructor
      · intro h i hi
        by_cases e : i = n
        · subst e; exact z
        · exact h i (by omega)
      · exact fun h i hi => h i (by omega)
/-! what can be reached: the least set that holds S and is closed under steps into P -/
def go_R (P S : Nat → Prop) (r : Nat) : Prop := ∀ C : Nat → Prop, (∀ s, S s → C s) → (∀ s t, C s → go_ad s t → P t → C t) → C r
theorem go_R_s {P S : Nat → Prop} {r : Nat} (h : S r) : go_R P S r := fun _ h1 _ => h1 r h
theorem go_R_t {P S : Nat → Prop} {s t : Nat} (h : go_R P S s) (a : go_ad s t) (p : P t) : go_R P S t := fun C h1 h2 => h2 s t (h C h1 h2) a p
theorem go_R_in {P S : Nat → Prop} (hS : ∀ s, S s → P s) {r : Nat} (h : go_R P S r) : P r := h P hS (fun _ _ _ _ p => p)
theorem go_R_tr {P S T : Nat → Prop} (hS : ∀ s, S s → go_R P T s) {r : Nat} (h : go_R P S r) : go_R P T r := h (go_R P T) hS (fun _ _ z a p => go_R_t z a p)
theorem go_R_sy {P : Nat → Prop} {q r : Nat} (hq : P q) (h : go_R P (fun s => s = q) r) : go_R P (fun s => s = r) q := by
  refine (h (fun r => P r ∧ go_R P (fun s => s = r) q) ?_ ?_).2
  · rintro s rfl
    exact ⟨hq, go_R_s rfl⟩
  · rintro s t ⟨ps, z⟩ a p
    refine ⟨p, go_R_tr ?_ z⟩
    rintro x rfl
    exact go_R_t (go_R_s rfl) (go_ad_s a) ps
/-- from one of E to r: from r to one of E -/
theorem go_R_E {P E : Nat → Prop} (hE : ∀ e, E e → P e) {r : Nat} (hr : P r) : go_R P E r ↔ ∃ e, E e ∧ go_R P (fun s => s = r) e := by
  constructor
  · intro h
    refine (h (fun r => P r ∧ ∃ e, E e ∧ go_R P (fun s => s = r) e) ?_ ?_).2
    · exact fun s hs => ⟨hE s hs, s, hs, go_R_s rfl⟩
    · rintro s t ⟨ps, e, he, z⟩ a p
      refine ⟨p, e, he, go_R_tr ?_ z⟩
      rintro x rfl
      exact go_R_t (go_R_s rfl) (go_ad_s a) ps
  · rintro ⟨e, he, z⟩
    refine go_R_tr ?_ (go_R_sy hr z)
    rintro x rfl
    exact go_R_s he
theorem go_R_c {P P' S S' : Nat → Prop} (hP : ∀ t, P t ↔ P' t) (hS : ∀ t, S t ↔ S' t) (r : Nat) : go_R P S r ↔ go_R P' S' r := by
  obtain rfl : P = P' := funext fun t => propext (hP t)
  obtain rfl : S = S' := funext fun t => propext (hS t)
  exact Iff.rfl
/-! the component's growing set -/
def go_I (s w : Int64) : Nat → Int64
  | 0 => s
  | k + 1 => go_I s w k ||| (go_N (go_I s w k) &&& w)
def go_G (s w : Int64) : Int64 := go_I s w 49
theorem go_I_w {s w : Int64} (hs : go_w s) : ∀ k, go_w (go_I s w k) := by
  intro k
  induction k with
  | zero => exact hs
  | succ k ih => exact go_w_or ih (go_w_and (go_N_w _) _)
theorem go_I_s {s w : Int64} (hs : go_w s) (k t : Nat) : go_b (go_I s w (k + 1)) t = true ↔ go_b (go_I s w k) t = true ∨ ((t < 49 ∧ ∃ a, go_ad a t ∧ go_b (go_I s w k) a = true) ∧ go_b w t = true) := by
  show go_b (go_I s w k ||| (go_N (go_I s w k) &&& w)) t = true ↔ _
  rw [go_or, go_and, Bool.or_eq_true, Bool.and_eq_true, go_N_b (go_I_w hs k)]
theorem go_I_R {s w : Int64} (hs : go_w s) : ∀ k t, go_b (go_I s w k) t = true → go_R (fun t => go_b w t = true) (fun t => go_b s t = true) t := by
  intro k
  induction k with
  | zero => exact fun t h => go_R_s h
  | succ k ih =>
    intro t h
    rcases (go_I_s hs k t).mp h with z | ⟨⟨_, a, ha, z⟩, p⟩
    · exact ih t z
    · exact go_R_t (ih a z) ha p
theorem go_I_n {s w : Int64} (hs : go_w s) (k : Nat) (h : go_I s w (k + 1) ≠ go_I s w k) : go_n (fun t => go_b (go_I s w k) t = true) 49 < go_n (fun t => go_b (go_I s w (k + 1)) t = true) 49 := by
  have m : ∀ t, go_b (go_I s w k) t = true → go_b (go_I s w (k + 1)) t = true := fun t z => (go_I_s hs k t).mpr (Or.inl z)
  by_cases e : ∀ t, go_b (go_I s w (k + 1)) t = true → go_b (go_I s w k) t = true
  · exact absurd (go_w_ext (go_I_w hs (k + 1)) (go_I_w hs k) (fun t _ => ⟨e t, m t⟩)) h
  · obtain ⟨t, z⟩ := Classical.not_forall.mp e
    have z1 : go_b (go_I s w (k + 1)) t = true := Classical.byContradiction fun y => z fun x => absurd x y
    have z2 : ¬ go_b (go_I s w k) t = true := fun y => z fun _ => y
    exact go_n_l z2 z1 49 (go_w_lt (go_I_w hs (k + 1)) z1) (fun i _ => m i)
theorem go_I_k {s w : Int64} (hs : go_w s) : ∀ k, go_I s w (k + 1) = go_I s w k ∨ k + 1 ≤ go_n (fun t => go_b (go_I s w (k + 1)) t = true) 49 := by
  intro k
  induction k with
  | zero =>
    by_cases e : go_I s w (0 + 1) = go_I s w 0
    · exact Or.inl e
    · have := go_I_n hs 0 e
      exact Or.inr (by omega)
  | succ k ih =>
    rcases ih with ih | ih
    · refine Or.inl ?_
      show go_I s w (k + 1) ||| (go_N (go_I s w (k + 1)) &&& w) = go_I s w (k + 1)
      rw [ih]
      exact ih
    · by_cases e : go_I s w (k + 1 + 1) = go_I s w (k + 1)
      · exact Or.inl e
      · have := go_I_n hs (k + 1) e
        exact Or.inr (by omega)
theorem go_G_b {s w : Int64} (hs : go_w s) (hw : go_w w) (t : Nat) : go_b (go_G s w) t = true ↔ go_R (fun t => go_b w t = true) (fun t => go_b s t = true) t := by
  have e : go_I s w (49 + 1) = go_I s w 49 := by
    rcases go_I_k hs (w := w) 49 with h | h
    · exact h
    · have := go_n_le (fun t => go_b (go_I s w (49 + 1)) t = true) 49
      exact absurd h (by omega)
  have m : ∀ k t, go_b s t = true → go_b (go_I s w k) t = true := by
    intro k
    induction k with
    | zero => exact fun t h => h
    | succ k ih => exact fun t h => (go_I_s hs k t).mpr (Or.inl (ih t h))
  constructor
  · exact go_I_R hs 49 t
  · intro h
    refine h (fun t => go_b (go_I s w 49) t = true) (m 49) ?_
    intro a t ha ad p
    have z : go_b (go_I s w (49 + 1)) t = true := (go_I_s hs 49 t).mpr (Or.inr ⟨⟨go_w_lt hw p, a, ad, ha⟩, p⟩)
    rw [e] at z
    exact z
theorem go_G_w {s w : Int64} (hs : go_w s) : go_w (go_G s w) := go_I_w hs 49
/-! a board: b q is 0, 1 (a stone of that player) or 2 (none); the set x holds the points with c -/
def go_P (b : Nat → Int32) (c : Int32) (t : Nat) : Prop := t < 49 ∧ b t = c
def go_S (x : Int64) (b : Nat → Int32) (c : Int32) : Prop := ∀ t, go_b x t = true ↔ go_P b c t
theorem go_S_w {x : Int64} {b : Nat → Int32} {c : Int32} (h : go_S x b c) : go_w x := by
  intro i hi
  cases e : go_b x i
  · rfl
  · have := ((h i).mp e).1
    omega
theorem go_S_u {x y : Int64} {b : Nat → Int32} {c : Int32} (hx : go_S x b c) (hy : go_S y b c) : x = y := go_w_ext (go_S_w hx) (go_S_w hy) (fun i _ => (hx i).trans (hy i).symm)
/-- both players' stones and the board -/
def go_T (x y : Int64) (b : Nat → Int32) : Prop := go_S x b 0 ∧ go_S y b 1 ∧ ∀ t, t < 49 → b t = 0 ∨ b t = 1 ∨ b t = 2
/-- the free points -/
theorem go_S_e {x y : Int64} {b : Nat → Int32} {c d : Int32} (hx : go_S x b c) (hy : go_S y b d) (hb : ∀ t, t < 49 → b t = c ∨ b t = d ∨ b t = 2) (hc : c ≠ 2) (hd : d ≠ 2) : go_S (562949953421311 &&& ((x ||| y) ^^^ (-1))) b 2 := by
  intro t
  rcases Nat.lt_or_ge t 49 with ht | ht
  · rw [go_and, go_not _ (by omega), go_or, go_bd t (by omega), decide_eq_true ht, Bool.true_and, Bool.not_eq_true', Bool.or_eq_false_iff]
    have h1 := hx t
    have h2 := hy t
    constructor
    · rintro ⟨e1, e2⟩
      refine ⟨ht, ?_⟩
      rcases hb t ht with z | z | z
      · rw [h1.mpr ⟨ht, z⟩] at e1; exact absurd e1 (by decide)
      · rw [h2.mpr ⟨ht, z⟩] at e2; exact absurd e2 (by decide)
      · exact z
    · rintro ⟨_, z⟩
      constructor
      · cases e : go_b x t
        · rfl
        · exact absurd ((h1.mp e).2.symm.trans z) hc
      · cases e : go_b y t
        · rfl
        · exact absurd ((h2.mp e).2.symm.trans z) hd
  · rw [go_w_bd' _ t ht]
    exact ⟨fun z => absurd z (by decide), fun z => absurd z.1 (by omega)⟩
/-- the group (or region) of q -/
def go_Q (b : Nat → Int32) (q r : Nat) : Prop := go_R (go_P b (b q)) (fun s => s = q) r
theorem go_Q_in {b : Nat → Int32} {q r : Nat} (hq : q < 49) (h : go_Q b q r) : r < 49 ∧ b r = b q := go_R_in (P := go_P b (b q)) (fun s hs => by rw [hs]; exact ⟨hq, rfl⟩) h
theorem go_Q_sy {b : Nat → Int32} {q r : Nat} (hq : q < 49) (h : go_Q b q r) : go_Q b r q := by
  have e := (go_Q_in hq h).2
  unfold go_Q
  rw [e]
  exact go_R_sy (P := go_P b (b q)) ⟨hq, rfl⟩ h
theorem go_Q_tr {b : Nat → Int32} {q r t : Nat} (hq : q < 49) (h : go_Q b q r) (h2 : go_Q b r t) : go_Q b q t := by
  have e := (go_Q_in hq h).2
  unfold go_Q at h2
  rw [e] at h2
  refine go_R_tr ?_ h2
  rintro x rfl
  exact h
theorem go_Q_b {x p : Int64} {b : Nat → Int32} {q : Nat} (hx : go_S x b (b q)) (hp : ∀ t, go_b p t = true ↔ t = q) (hq : q < 49) (t : Nat) : go_b (go_G p x) t = true ↔ go_Q b q t := by
  have wp : go_w p := by
    intro i hi
    cases e : go_b p i
    · rfl
    · have := (hp i).mp e
      omega
  rw [go_G_b wp (go_S_w hx)]
  exact go_R_c hx hp t
/-- the group of q has a neighbour with c -/
def go_K (b : Nat → Int32) (c : Int32) (q : Nat) : Prop := ∃ e, go_Q b q e ∧ ∃ l, go_ad l e ∧ go_P b c l
/-- the points with c' whose group has a neighbour with c -/
theorem go_K_b {x y : Int64} {b : Nat → Int32} {c d : Int32} (hx : go_S x b d) (hy : go_S y b c) (r : Nat) : go_b (go_G (go_N y &&& x) x) r = true ↔ go_P b d r ∧ go_K b c r := by
  have w1 : go_w (go_N y &&& x) := go_w_and (go_N_w y) x
  have hE : ∀ e, go_b (go_N y &&& x) e = true ↔ go_P b d e ∧ ∃ l, go_ad l e ∧ go_P b c l := by
    intro e
    rw [go_and, Bool.and_eq_true, go_N_b (go_S_w hy), hx e]
    constructor
    · rintro ⟨⟨_, l, a, h⟩, p⟩
      exact ⟨p, l, a, (hy l).mp h⟩
    · rintro ⟨p, l, a, h⟩
      exact ⟨⟨p.1, l, a, (hy l).mpr h⟩, p⟩
  rw [go_G_b w1 (go_S_w hx), go_R_c hx hE]
  constructor
  · intro h
    have p : go_P b d r := go_R_in (P := go_P b d) (fun s hs => hs.1) h
    refine ⟨p, ?_⟩
    obtain ⟨e, he, z⟩ := (go_R_E (P := go_P b d) (fun s hs => hs.1) p).mp h
    refine ⟨e, ?_, he.2⟩
    unfold go_Q
    rw [p.2]
    exact z
  · rintro ⟨p, e, z, k⟩
    have hz := go_Q_in p.1 z
    unfold go_Q at z
    rw [p.2] at z hz
    exact (go_R_E (P := go_P b d) (fun s hs => hs.1) p).mpr ⟨e, ⟨hz, k⟩, z⟩
/-- the component's withLiberties -/
def go_L (m o : Int64) : Int64 := go_G (go_N (562949953421311 &&& ((m ||| o) ^^^ (-1))) &&& m) m
theorem go_L_b {m o : Int64} {b : Nat → Int32} {c d : Int32} (hm : go_S m b c) (ho : go_S o b d) (hb : ∀ t, t < 49 → b t = c ∨ b t = d ∨ b t = 2) (hc : c ≠ 2) (hd : d ≠ 2) (r : Nat) : go_b (go_L m o) r = true ↔ go_P b c r ∧ go_K b 2 r := go_K_b hm (go_S_e hm ho hb hc hd) r
