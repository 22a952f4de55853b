/-! GoBoard: a set of points is a long; bit q stands for point q -/
def go_b (x : Int64) (q : Nat) : Bool := x.toBitVec.getLsbD q
theorem go_ext {x y : Int64} (h : ∀ i, i < 64 → go_b x i = go_b y i) : x = y := Int64.toBitVec_inj.mp (BitVec.eq_of_getLsbD_eq (fun i hi => h i hi))
theorem go_or (x y : Int64) (i : Nat) : go_b (x ||| y) i = (go_b x i || go_b y i) := by unfold go_b; rw [Int64.toBitVec_or, BitVec.getLsbD_or]
theorem go_and (x y : Int64) (i : Nat) : go_b (x &&& y) i = (go_b x i && go_b y i) := by unfold go_b; rw [Int64.toBitVec_and, BitVec.getLsbD_and]
theorem go_big (x : Int64) {i : Nat} (h : 64 ≤ i) : go_b x i = false := BitVec.getLsbD_of_ge _ _ h
theorem go_0 (i : Nat) : go_b 0 i = false := BitVec.getLsbD_zero
theorem go_m1 : ∀ i, i < 64 → go_b (-1) i = true := by decide +kernel
theorem go_xor (x y : Int64) (i : Nat) : go_b (x ^^^ y) i = (go_b x i ^^ go_b y i) := by unfold go_b; rw [Int64.toBitVec_xor, BitVec.getLsbD_xor]
theorem go_not (x : Int64) {i : Nat} (hi : i < 64) : go_b (x ^^^ (-1)) i = !go_b x i := by
  rw [go_xor, go_m1 i hi]
  cases go_b x i <;> rfl
theorem go_1 : ∀ i, i < 64 → go_b 1 i = decide (i = 0) := by decide +kernel
theorem go_sl : ∀ n, n < 64 → (((nI n).toInt64 &&& 63).toBitVec.smod 64).toNat = n := by decide +kernel
theorem go_su : ∀ n, n < 64 → (((nI n).toInt64.toUInt64 &&& Int64.toUInt64 63).toBitVec % 64).toNat = n := by decide +kernel
theorem go_shl (n : Nat) (hn : n < 64) (x : Int64) {i : Nat} (hi : i < 64) : go_b (x <<< ((nI n).toInt64 &&& 63)) i = (decide (n ≤ i) && go_b x (i - n)) := by
  unfold go_b
  rw [Int64.toBitVec_shiftLeft]
  show (x.toBitVec <<< (((nI n).toInt64 &&& 63).toBitVec.smod 64).toNat).getLsbD i = _
  rw [go_sl n hn, BitVec.getLsbD_shiftLeft]
  rcases Nat.lt_or_ge i n with h | h
  · simp [h, Nat.not_le.mpr h]
  · simp [hi, h, Nat.not_lt.mpr h]
theorem go_shr (n : Nat) (hn : n < 64) (x : Int64) (i : Nat) : go_b ((x.toUInt64 >>> ((nI n).toInt64.toUInt64 &&& Int64.toUInt64 63)).toInt64) i = go_b x (n + i) := by
  show (x.toUInt64 >>> ((nI n).toInt64.toUInt64 &&& Int64.toUInt64 63)).toBitVec.getLsbD i = x.toUInt64.toBitVec.getLsbD (n + i)
  rw [UInt64.toBitVec_shiftRight]
  show (x.toUInt64.toBitVec >>> (((nI n).toInt64.toUInt64 &&& Int64.toUInt64 63).toBitVec % 64).toNat).getLsbD i = _
  rw [go_su n hn, BitVec.getLsbD_ushiftRight]
theorem go_shl1 (x : Int64) {i : Nat} (hi : i < 64) : go_b (x <<< ((1 : Int32).toInt64 &&& 63)) i = (decide (1 ≤ i) && go_b x (i - 1)) := go_shl 1 (by omega) x hi
theorem go_shl7 (x : Int64) {i : Nat} (hi : i < 64) : go_b (x <<< ((7 : Int32).toInt64 &&& 63)) i = (decide (7 ≤ i) && go_b x (i - 7)) := go_shl 7 (by omega) x hi
theorem go_shr1 (x : Int64) (i : Nat) : go_b ((x.toUInt64 >>> ((1 : Int32).toInt64.toUInt64 &&& Int64.toUInt64 63)).toInt64) i = go_b x (1 + i) := go_shr 1 (by omega) x i
theorem go_shr7 (x : Int64) (i : Nat) : go_b ((x.toUInt64 >>> ((7 : Int32).toInt64.toUInt64 &&& Int64.toUInt64 63)).toInt64) i = go_b x (7 + i) := go_shr 7 (by omega) x i
/-- the point q alone -/
theorem go_pt {q i : Nat} (hq : q < 64) (hi : i < 64) : go_b ((1 : Int64) <<< ((nI q).toInt64 &&& 63)) i = decide (i = q) := by
  rw [go_shl q hq 1 hi, go_1 (i - q) (by omega), Bool.eq_iff_iff, Bool.and_eq_true, decide_eq_true_eq, decide_eq_true_eq, decide_eq_true_eq]
  omega
/-- the test of one point -/
theorem go_has (x : Int64) {q : Nat} (hq : q < 64) : ((x.toUInt64 >>> ((nI q).toInt64.toUInt64 &&& Int64.toUInt64 63)).toInt64 &&& 1) = 0 ↔ go_b x q = false := by
  constructor
  · intro h
    have t : go_b ((x.toUInt64 >>> ((nI q).toInt64.toUInt64 &&& Int64.toUInt64 63)).toInt64 &&& 1) 0 = go_b 0 0 := by rw [h]
    rw [go_and, go_shr q hq, go_0, go_1 0 (by omega), Nat.add_zero] at t
    cases e : go_b x q
    · rfl
    · rw [e] at t; exact absurd t (by decide)
  · intro h
    apply go_ext
    intro i hi
    rw [go_and, go_shr q hq, go_0, go_1 i hi]
    by_cases e : i = 0
    · subst e; rw [Nat.add_zero, h]; rfl
    · rw [decide_eq_false e, Bool.and_false]
/-! the points, their neighbours -/
theorem go_bd : ∀ i, i < 64 → go_b 562949953421311 i = decide (i < 49) := by decide +kernel
theorem go_nF : ∀ i, i < 64 → go_b (-4432676798594) i = !(decide (i % 7 = 0) && decide (i < 49)) := by decide +kernel
theorem go_nL : ∀ i, i < 64 → go_b (-283691315109953) i = !(decide (i % 7 = 6) && decide (i < 49)) := by decide +kernel
/-- no point beyond the board -/
def go_w (x : Int64) : Prop := ∀ i, 49 ≤ i → go_b x i = false
theorem go_w_lt {x : Int64} (h : go_w x) {i : Nat} (hi : go_b x i = true) : i < 49 := by
  rcases Nat.lt_or_ge i 49 with z | z
  · exact z
  · rw [h i z] at hi; exact absurd hi (by decide)
theorem go_w_ext {x y : Int64} (hx : go_w x) (hy : go_w y) (h : ∀ i, i < 49 → (go_b x i = true ↔ go_b y i = true)) : x = y := by
  apply go_ext
  intro i _
  rcases Nat.lt_or_ge i 49 with z | z
  · exact Bool.eq_iff_iff.mpr (h i z)
  · rw [hx i z, hy i z]
theorem go_w_bd (x : Int64) : go_w (x &&& 562949953421311) := by
  intro i hi
  rw [go_and]
  rcases Nat.lt_or_ge i 64 with z | z
  · rw [go_bd i z, decide_eq_false (by omega), Bool.and_false]
  · rw [go_big _ z, Bool.false_and]
theorem go_w_bd' (x : Int64) : go_w (562949953421311 &&& x) := by
  intro i hi
  rw [go_and]
  rcases Nat.lt_or_ge i 64 with z | z
  · rw [go_bd i z, decide_eq_false (by omega), Bool.false_and]
  · rw [go_big _ z, Bool.false_and]
theorem go_w_and {x : Int64} (h : go_w x) (y : Int64) : go_w (x &&& y) := by
  intro i hi
  rw [go_and, h i hi, Bool.false_and]
theorem go_w_and' {y : Int64} (h : go_w y) (x : Int64) : go_w (x &&& y) := by
  intro i hi
  rw [go_and, h i hi, Bool.and_false]
theorem go_w_or {x y : Int64} (hx : go_w x) (hy : go_w y) : go_w (x ||| y) := by
  intro i hi
  rw [go_or, hx i hi, hy i hi]; rfl
theorem go_w_0 : go_w 0 := fun i _ => go_0 i
theorem go_w_pt {q : Nat} (hq : q < 49) : go_w ((1 : Int64) <<< ((nI q).toInt64 &&& 63)) := by
  intro i hi
  rcases Nat.lt_or_ge i 64 with z | z
  · rw [go_pt (by omega) z, decide_eq_false (by omega)]
  · exact go_big _ z
/-- points that differ by one in x or in y -/
def go_ad (s t : Nat) : Prop := t = s + 7 ∨ s = t + 7 ∨ (t = s + 1 ∧ s % 7 ≠ 6) ∨ (s = t + 1 ∧ t % 7 ≠ 6)
theorem go_ad_s {s t : Nat} (h : go_ad s t) : go_ad t s := by
  rcases h with h | h | h | h
  · exact Or.inr (Or.inl h)
  · exact Or.inl h
  · exact Or.inr (Or.inr (Or.inr h))
  · exact Or.inr (Or.inr (Or.inl h))
/-- the neighbours of a set, as the component reckons them -/
def go_N (x : Int64) : Int64 :=
  (((((x &&& (-283691315109953)) <<< ((1 : Int32).toInt64 &&& 63)) ||| ((x &&& (-4432676798594)).toUInt64 >>> ((1 : Int32).toInt64.toUInt64 &&& Int64.toUInt64 63)).toInt64) ||| (x <<< ((7 : Int32).toInt64 &&& 63))) ||| (x.toUInt64 >>> ((7 : Int32).toInt64.toUInt64 &&& Int64.toUInt64 63)).toInt64) &&& 562949953421311
theorem go_N_w (x : Int64) : go_w (go_N x) := go_w_bd _
theorem go_N_e (x : Int64) {t : Nat} (ht : t < 49) : go_b (go_N x) t = ((((decide (1 ≤ t) && (go_b x (t - 1) && !(decide ((t - 1) % 7 = 6) && decide (t - 1 < 49)))) || (go_b x (1 + t) && !(decide ((1 + t) % 7 = 0) && decide (1 + t < 49)))) || (decide (7 ≤ t) && go_b x (t - 7))) || go_b x (7 + t)) := by
  unfold go_N
  rw [go_and, go_or, go_or, go_or, go_shl1 _ (by omega), go_shr1, go_shl7 _ (by omega), go_shr7, go_and, go_and, go_bd t (by omega), go_nL (t - 1) (by omega), go_nF (1 + t) (by omega), decide_eq_true ht, Bool.and_true]
theorem go_N_b {x : Int64} (hx : go_w x) (t : Nat) : go_b (go_N x) t = true ↔ t < 49 ∧ ∃ s, go_ad s t ∧ go_b x s = true := by
  constructor
  · intro h
    have ht := go_w_lt (go_N_w x) h
    refine ⟨ht, ?_⟩
    rw [go_N_e x ht] at h
    simp only [Bool.or_eq_true, Bool.and_eq_true, decide_eq_true_eq, Bool.not_eq_true', Bool.and_eq_false_iff, decide_eq_false_iff_not] at h
    rcases h with ((h | h) | h) | h
    · exact ⟨t - 1, Or.inr (Or.inr (Or.inl (by omega))), h.2.1⟩
    · have := go_w_lt hx h.1
      exact ⟨1 + t, Or.inr (Or.inr (Or.inr (by omega))), h.1⟩
    · exact ⟨t - 7, Or.inl (by omega), h.2⟩
    · exact ⟨7 + t, Or.inr (Or.inl (by omega)), h⟩
  · rintro ⟨ht, s, ha, hs⟩
    have hs' := go_w_lt hx hs
    rw [go_N_e x ht]
    simp only [Bool.or_eq_true, Bool.and_eq_true, decide_eq_true_eq, Bool.not_eq_true', Bool.and_eq_false_iff, decide_eq_false_iff_not]
    rcases ha with h | h | h | h
    · obtain e : t - 7 = s := by omega
      exact Or.inl (Or.inr ⟨by omega, by rw [e]; exact hs⟩)
    · obtain e : 7 + t = s := by omega
      exact Or.inr (by rw [e]; exact hs)
    · obtain e : t - 1 = s := by omega
      exact Or.inl (Or.inl (Or.inl ⟨by omega, by rw [e]; exact hs, by omega⟩))
    · obtain e : 1 + t = s := by omega
      exact Or.inl (Or.inl (Or.inr ⟨by rw [e]; exact hs, by omega⟩))
