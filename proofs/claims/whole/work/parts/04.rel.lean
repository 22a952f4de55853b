/-! the reference's neighbours, by direction -/
def go_nb (q d : Nat) : Int32 := if d = 0 then (if q < 7 then -1 else nI (q - 7)) else if d = 1 then (if 41 < q then -1 else nI (q + 7)) else if d = 2 then (if q % 7 = 0 then -1 else nI (q - 1)) else (if q % 7 = 6 then -1 else nI (q + 1))
theorem go_nb_c {q : Nat} (hq : q < 49) (d : Nat) : go_nb q d = -1 ∨ ∃ s, s < 49 ∧ go_nb q d = nI s ∧ go_ad q s := by
  unfold go_nb
  by_cases d0 : d = 0
  · rw [if_pos d0]
    by_cases z : q < 7
    · rw [if_pos z]; exact Or.inl rfl
    · rw [if_neg z]; exact Or.inr ⟨q - 7, by omega, rfl, Or.inr (Or.inl (by omega))⟩
  · rw [if_neg d0]
    by_cases d1 : d = 1
    · rw [if_pos d1]
      by_cases z : 41 < q
      · rw [if_pos z]; exact Or.inl rfl
      · rw [if_neg z]; exact Or.inr ⟨q + 7, by omega, rfl, Or.inl (by omega)⟩
    · rw [if_neg d1]
      by_cases d2 : d = 2
      · rw [if_pos d2]
        by_cases z : q % 7 = 0
        · rw [if_pos z]; exact Or.inl rfl
        · rw [if_neg z]; exact Or.inr ⟨q - 1, by omega, rfl, Or.inr (Or.inr (Or.inr (by omega)))⟩
      · rw [if_neg d2]
        by_cases z : q % 7 = 6
        · rw [if_pos z]; exact Or.inl rfl
        · rw [if_neg z]; exact Or.inr ⟨q + 1, by omega, rfl, Or.inr (Or.inr (Or.inl (by omega)))⟩
theorem go_nb_e {q s : Nat} (hq : q < 49) (hs : s < 49) (a : go_ad q s) : ∃ d, d < 4 ∧ go_nb q d = nI s := by
  unfold go_nb
  rcases a with h | h | h | h
  · refine ⟨1, by omega, ?_⟩
    rw [if_neg (by omega), if_pos rfl, if_neg (by omega), h]
  · refine ⟨0, by omega, ?_⟩
    rw [if_pos rfl, if_neg (by omega), h]; rfl
  · refine ⟨3, by omega, ?_⟩
    rw [if_neg (by omega), if_neg (by omega), if_neg (by omega), if_neg (by omega), h.1]
  · refine ⟨2, by omega, ?_⟩
    rw [if_neg (by omega), if_neg (by omega), if_pos rfl, if_neg (by omega), h.1]; rfl
theorem go_m1_lt {s : Nat} (hs : s < 49) : nI s ≠ -1 := by
  intro h
  have h1 := congrArg Int32.toInt h
  rw [nI_toInt (by omega)] at h1
  exact absurd h1 (by rw [show (-1 : Int32).toInt = -1 from by decide]; omega)
/-! boards that agree on the 49 points -/
theorem go_P_c {b b' : Nat → Int32} (h : ∀ t, t < 49 → b t = b' t) (c : Int32) : go_P b c = go_P b' c := funext fun t => propext ⟨fun z => ⟨z.1, (h t z.1).symm.trans z.2⟩, fun z => ⟨z.1, (h t z.1).trans z.2⟩⟩
theorem go_S_c {b b' : Nat → Int32} (h : ∀ t, t < 49 → b t = b' t) {x : Int64} {c : Int32} (hx : go_S x b c) : go_S x b' c := by
  unfold go_S at hx ⊢
  rw [← go_P_c h]; exact hx
theorem go_T_c {b b' : Nat → Int32} (h : ∀ t, t < 49 → b t = b' t) {x y : Int64} (hx : go_T x y b) : go_T x y b' := ⟨go_S_c h hx.1, go_S_c h hx.2.1, fun t ht => by rw [← h t ht]; exact hx.2.2 t ht⟩
theorem go_Q_c {b b' : Nat → Int32} (h : ∀ t, t < 49 → b t = b' t) {q : Nat} (hq : q < 49) : go_Q b q = go_Q b' q := by
  funext r
  unfold go_Q
  rw [h q hq, go_P_c h]
theorem go_K_c {b b' : Nat → Int32} (h : ∀ t, t < 49 → b t = b' t) (c : Int32) {q : Nat} (hq : q < 49) : go_K b c q ↔ go_K b' c q := by
  unfold go_K
  rw [go_Q_c h hq, go_P_c h]
theorem go_lib_c {b b' : Nat → Int32} (h : ∀ t, t < 49 → b t = b' t) {q : Nat} (hq : q < 49) : go_lib b q = go_lib b' q := by
  unfold go_lib
  refine go_n_c 49 (fun l hl => ?_)
  rw [h l hl, go_Q_c h hq]
theorem go_D_c {b b' : Nat → Int32} (h : ∀ t, t < 49 → b t = b' t) (e : Int32) {r : Nat} (hr : r < 49) : go_D b e r ↔ go_D b' e r := by
  unfold go_D
  rw [h r hr, go_K_c h 2 hr]
/-- the board when the groups of e without liberties are gone -/
noncomputable def go_cap (bb : Nat → Int32) (e : Int32) : Nat → Int32 := fun r => @ite Int32 (go_D bb e r) (Classical.propDecidable _) 2 (bb r)
theorem go_cap_C (bb : Nat → Int32) (e : Int32) : go_C bb (go_cap bb e) e := fun r _ => ⟨fun h => if_pos h, fun h => if_neg h⟩
theorem go_cap_e {bb bc : Nat → Int32} {e : Int32} (h : go_C bb bc e) : ∀ t, t < 49 → bc t = go_cap bb e t := by
  intro t ht
  by_cases z : go_D bb e t
  · exact ((h t ht).1 z).trans ((go_cap_C bb e t ht).1 z).symm
  · exact ((h t ht).2 z).trans ((go_cap_C bb e t ht).2 z).symm
theorem go_cap_c {b b' : Nat → Int32} (h : ∀ t, t < 49 → b t = b' t) (e : Int32) : ∀ t, t < 49 → go_cap b e t = go_cap b' e t := by
  intro t ht
  by_cases z : go_D b e t
  · exact ((go_cap_C b e t ht).1 z).trans ((go_cap_C b' e t ht).1 ((go_D_c h e ht).mp z)).symm
  · exact ((go_cap_C b e t ht).2 z).trans ((h t ht).trans ((go_cap_C b' e t ht).2 (fun y => z ((go_D_c h e ht).mpr y))).symm)
/-- the board with a stone of c at q, and what it takes -/
noncomputable def go_mv (b : Nat → Int32) (c e : Int32) (q : Nat) : Nat → Int32 := go_cap (upd b q c) e
theorem go_upd_c {b b' : Nat → Int32} (h : ∀ t, t < 49 → b t = b' t) (q : Nat) (c : Int32) : ∀ t, t < 49 → upd b q c t = upd b' q c t := by
  intro t ht
  unfold upd
  by_cases z : t = q
  · rw [if_pos z, if_pos z]
  · rw [if_neg z, if_neg z]; exact h t ht
/-- what a move of c at q answers: hb is the board before the last of the d moves and passes -/
noncomputable def go_ans (b hb : Nat → Int32) (d : Nat) (c e : Int32) (q : Nat) : Int32 :=
  @ite Int32 (go_lib (go_mv b c e q) q = 0) (Classical.propDecidable _) (-5) (@ite Int32 (0 < d ∧ ∀ t, t < 49 → go_mv b c e q t = hb t) (Classical.propDecidable _) (-6) (nI (go_n (go_D (upd b q c) e) 49)))
theorem go_ans_s {b hb : Nat → Int32} {d : Nat} {c e : Int32} {q : Nat} (h : go_lib (go_mv b c e q) q = 0) : go_ans b hb d c e q = -5 := if_pos h
theorem go_ans_k {b hb : Nat → Int32} {d : Nat} {c e : Int32} {q : Nat} (h : ¬ go_lib (go_mv b c e q) q = 0) (h2 : 0 < d ∧ ∀ t, t < 49 → go_mv b c e q t = hb t) : go_ans b hb d c e q = -6 := (if_neg h).trans (if_pos h2)
theorem go_ans_n {b hb : Nat → Int32} {d : Nat} {c e : Int32} {q : Nat} (h : ¬ go_lib (go_mv b c e q) q = 0) (h2 : ¬ (0 < d ∧ ∀ t, t < 49 → go_mv b c e q t = hb t)) : go_ans b hb d c e q = nI (go_n (go_D (upd b q c) e) 49) := (if_neg h).trans (if_neg h2)
theorem go_ans_c {b b' hb : Nat → Int32} (h : ∀ t, t < 49 → b t = b' t) (d : Nat) (c e : Int32) {q : Nat} (hq : q < 49) : go_ans b hb d c e q = go_ans b' hb d c e q := by
  have hu := go_upd_c h q c
  have hm : ∀ t, t < 49 → go_mv b c e q t = go_mv b' c e q t := go_cap_c hu e
  have hl : go_lib (go_mv b c e q) q = go_lib (go_mv b' c e q) q := go_lib_c hm hq
  have hn : go_n (go_D (upd b q c) e) 49 = go_n (go_D (upd b' q c) e) 49 := go_n_c 49 (fun i hi => go_D_c hu e hi)
  by_cases z : go_lib (go_mv b c e q) q = 0
  · rw [go_ans_s z, go_ans_s (by rw [← hl]; exact z)]
  · have z' : ¬ go_lib (go_mv b' c e q) q = 0 := by rw [← hl]; exact z
    by_cases y : 0 < d ∧ ∀ t, t < 49 → go_mv b c e q t = hb t
    · rw [go_ans_k z y, go_ans_k z' ⟨y.1, fun t ht => (hm t ht).symm.trans (y.2 t ht)⟩]
    · rw [go_ans_n z y, go_ans_n z' (fun w => y ⟨w.1, fun t ht => (hm t ht).trans (w.2 t ht)⟩), hn]
/-- an answer that isn't below 0 -/
theorem go_ans_p (b hb : Nat → Int32) (d : Nat) (c e : Int32) (q : Nat) : (go_ans b hb d c e q < 0 ∧ ¬ 0 ≤ go_ans b hb d c e q) ∨ (∃ m, m ≤ 49 ∧ go_ans b hb d c e q = nI m) := by
  by_cases z : go_lib (go_mv b c e q) q = 0
  · rw [go_ans_s z]; exact Or.inl ⟨by decide, by decide⟩
  · by_cases y : 0 < d ∧ ∀ t, t < 49 → go_mv b c e q t = hb t
    · rw [go_ans_k z y]; exact Or.inl ⟨by decide, by decide⟩
    · rw [go_ans_n z y]; exact Or.inr ⟨_, go_n_le _ 49, rfl⟩
/-! the component's side of a move -/
theorem go_mv_T {x y pt : Int64} {b : Nat → Int32} {c e : Int32} {q : Nat} (hx : go_S x b c) (hy : go_S y b e) (hb : ∀ t, t < 49 → b t = c ∨ b t = e ∨ b t = 2) (hp : ∀ t, go_b pt t = true ↔ t = q) (hq : q < 49) (h2 : b q = 2) (hce : c ≠ e) (hc : c ≠ 2) (he : e ≠ 2) :
    go_S (x ||| pt) (go_mv b c e q) c ∧ go_S (go_L y (x ||| pt)) (go_mv b c e q) e ∧ (∀ t, t < 49 → go_mv b c e q t = c ∨ go_mv b c e q t = e ∨ go_mv b c e q t = 2) ∧ (∀ t, t < 49 → (go_b (y &&& (go_L y (x ||| pt) ^^^ (-1))) t = true ↔ go_D (upd b q c) e t)) ∧ (go_b (go_L (x ||| pt) (go_L y (x ||| pt))) q = true ↔ go_lib (go_mv b c e q) q ≠ 0) := by
  have u1 : upd b q c q = c := if_pos rfl
  have u2 : ∀ t, t ≠ q → upd b q c t = b t := fun t ht => if_neg ht
  have s1 : go_S (x ||| pt) (upd b q c) c := go_mv_own hx hp hq u1 u2
  have s2 : go_S y (upd b q c) e := go_mv_other hy (fun z => he (z.symm.trans h2)) hce u1 u2
  have v1 := go_mv_val hb u1 u2
  have C : go_C (upd b q c) (go_mv b c e q) e := go_cap_C _ _
  have v2 := go_cp_val v1 C
  have t1 : go_S (x ||| pt) (go_mv b c e q) c := go_cp_own s1 hce hc C
  have t2 : go_S (go_L y (x ||| pt)) (go_mv b c e q) e := go_cp_left s1 s2 v1 hc he C
  refine ⟨t1, t2, v2, fun t ht => go_cp_n s2 t2 he C t ht, ?_⟩
  have e1 : go_mv b c e q q = c := by
    rw [(C q hq).2 (fun z => hce (u1.symm.trans z.1))]; exact u1
  exact go_cp_alive t1 t2 v2 hc he hq e1
/-! the relation's own part -/
def go_J (d : Nat) (st : Nat → Int64) (pr : Nat → Int32) (bo hi h1 h2 ca : Nat → Int32) : Prop :=
  d ≤ 40 ∧ (∀ n, n < d → go_T (st (2 * n)) (st (2 * n + 1)) (fun t => hi (49 * n + t)) ∧ pr (2 * n) = h1 n ∧ pr (2 * n + 1) = h2 n) ∧ go_T (st (2 * d)) (st (2 * d + 1)) bo ∧ pr (2 * d) = ca 0 ∧ pr (2 * d + 1) = ca 1 ∧ pr 0 = 0 ∧ pr 1 = 0
theorem go_J_b {d : Nat} {st : Nat → Int64} {pr bo hi h1 h2 ca bo' : Nat → Int32} (J : go_J d st pr bo hi h1 h2 ca) (h : ∀ t, t < 49 → bo t = bo' t) : go_J d st pr bo' hi h1 h2 ca := ⟨J.1, J.2.1, go_T_c h J.2.2.1, J.2.2.2⟩
theorem go_J_next {d : Nat} {st st' : Nat → Int64} {pr pr' bo bo' hi hi' h1 h1' h2 h2' ca ca' : Nat → Int32} (J : go_J d st pr bo hi h1 h2 ca) (hd : d < 40) (hs : ∀ i, i < 2 * d + 2 → st' i = st i) (hp : ∀ i, i < 2 * d + 2 → pr' i = pr i) (hh : ∀ i, i < 49 * d → hi' i = hi i) (hh2 : ∀ t, t < 49 → hi' (49 * d + t) = bo t) (e1 : ∀ i, i < d → h1' i = h1 i) (e1d : h1' d = ca 0) (e2 : ∀ i, i < d → h2' i = h2 i) (e2d : h2' d = ca 1) (T : go_T (st' (2 * d + 2)) (st' (2 * d + 3)) bo') (p1 : pr' (2 * d + 2) = ca' 0) (p2 : pr' (2 * d + 3) = ca' 1) : go_J (d + 1) st' pr' bo' hi' h1' h2' ca' := by
  obtain ⟨_, J2, J3, J4, J5, J6, J7⟩ := J
  refine ⟨by omega, ?_, T, p1, p2, (hp 0 (by omega)).trans J6, (hp 1 (by omega)).trans J7⟩
  intro n hn
  rw [hs (2 * n) (by omega), hs (2 * n + 1) (by omega), hp (2 * n) (by omega), hp (2 * n + 1) (by omega)]
  by_cases z : n = d
  · subst z
    rw [e1d, e2d]
    exact ⟨go_T_c (fun t ht => (hh2 t ht).symm) J3, J4, J5⟩
  · rw [e1 n (by omega), e2 n (by omega)]
    obtain ⟨a, b, c⟩ := J2 n (by omega)
    exact ⟨go_T_c (fun t ht => (hh (49 * n + t) (by omega)).symm) a, b, c⟩
theorem go_J_back {d : Nat} {st : Nat → Int64} {pr bo bo' hi h1 h2 ca ca' : Nat → Int32} (J : go_J (d + 1) st pr bo hi h1 h2 ca) (hb : ∀ t, t < 49 → bo' t = hi (49 * d + t)) (c0 : ca' 0 = h1 d) (c1 : ca' 1 = h2 d) : go_J d st pr bo' hi h1 h2 ca' := by
  obtain ⟨J1, J2, _, _, _, J6, J7⟩ := J
  obtain ⟨a, b, c⟩ := J2 d (by omega)
  exact ⟨by omega, fun n hn => J2 n (by omega), go_T_c (fun t ht => (hb t ht).symm) a, b.trans c0.symm, c.trans c1.symm, J6, J7⟩
theorem go_J_set {d : Nat} {st st' : Nat → Int64} {pr bo bo' hi h1 h2 ca ca' : Nat → Int32} (J : go_J d st pr bo hi h1 h2 ca) (T : go_T (st' 0) (st' 1) bo') (c0 : ca' 0 = 0) (c1 : ca' 1 = 0) : go_J 0 st' pr bo' hi h1 h2 ca' := ⟨by omega, fun n hn => absurd hn (Nat.not_lt_zero n), T, J.2.2.2.2.2.1.trans c0.symm, J.2.2.2.2.2.2.trans c1.symm, J.2.2.2.2.2.1, J.2.2.2.2.2.2⟩
