section
theorem pk_us {f : Nat → Int32} {k : Nat} {x : Int32} : upd f k x k = x := if_pos rfl
theorem pk_un {f : Nat → Int32} {k j : Nat} {x : Int32} (h : j ≠ k) : upd f k x j = f j := if_neg h
theorem pk_uLs {f : Nat → Int64} {k : Nat} {x : Int64} : vp_updL f k x k = x := if_pos rfl
theorem pk_uLn {f : Nat → Int64} {k j : Nat} {x : Int64} (h : j ≠ k) : vp_updL f k x j = f j := if_neg h
theorem pk_sub {a b : Nat} (h : b ≤ a) : nI a - nI b = nI (a - b) := by
  obtain ⟨c, rfl⟩ : ∃ c, a = c + b := ⟨a - b, by omega⟩
  rw [← nI_add, Int32.add_sub_cancel, Nat.add_sub_cancel]
theorem pk_m1 (n : Nat) : nI (n + 1) + (-1) = nI n := by
  rw [← nI_1, Int32.add_assoc, show (1 : Int32) + (-1) = 0 from rfl, Int32.add_zero]
theorem pk_mul (a b : Nat) : nI a * nI b = nI (a * b) := (Int32.ofNat_mul a b).symm
theorem pk_div {a d : Nat} (ha : a < 2 ^ 31) (h0 : 0 < d) (hd : d < 2 ^ 31) : nI a / nI d = nI (a / d) := by
  apply Int32.toInt_inj.mp
  rw [lg_idiv_nonneg (by rw [nI_toInt ha]; omega) (by rw [nI_toInt hd]; omega), nI_toInt ha, nI_toInt hd, nI_toInt (Nat.lt_of_le_of_lt (Nat.div_le_self a d) ha)]
  first | rfl | exact (Int.natCast_ediv _ _).symm
theorem pk_rem {a d : Nat} (ha : a < 2 ^ 31) (h0 : 0 < d) (hd : d < 2 ^ 31) : nI a - nI a / nI d * nI d = nI (a % d) := by
  rw [pk_div ha h0 hd, pk_mul, pk_sub (Nat.div_mul_le_self a d)]
  exact congrArg nI (by have := Nat.div_add_mod' a d; omega)
theorem pk_sub_toInt {a b : Nat} (ha : a < 2 ^ 30) (hb : b < 2 ^ 30) : (nI a - nI b).toInt = (a : Int) - b := by
  rw [Int32.toInt_sub, nI_toInt (by omega), nI_toInt (by omega)]
  exact Int.bmod_eq_of_le (by omega) (by omega)
theorem pk_sneg {a b : Nat} (hb : b < 2 ^ 30) (h : a < b) : nI a - nI b < 0 := by
  rw [Int32.lt_iff_toInt_lt, pk_sub_toInt (by omega) hb, show (0 : Int32).toInt = 0 from by decide]
  omega
theorem pk_ix (x : Int32) {n : Nat} (hn : n < 2 ^ 31) : x < 0 ∨ nI n ≤ x ∨ ∃ j : Nat, j < n ∧ x = nI j := by
  by_cases h : x < 0
  · exact Or.inl h
  · obtain ⟨j, hj, rfl⟩ := nI_of h
    by_cases h2 : j < n
    · exact Or.inr (Or.inr ⟨j, h2, rfl⟩)
    · exact Or.inr (Or.inl (nI_le (by omega) hj))
theorem pk_le {x y : Int32} {A B : Prop} (a b : Nat) (f : a ≤ b → A) (g : b < a → B) (hx : x = nI a := by rfl) (hy : y = nI b := by rfl) (ha : a < 2 ^ 31 := by omega) (hb : b < 2 ^ 31 := by omega) : (x ≤ y → A) ∧ (¬ x ≤ y → B) := by
  subst hx hy
  rw [nI_leI ha hb]
  exact ⟨f, fun z => g (by omega)⟩
theorem pk_lt {x y : Int32} {A B : Prop} (a b : Nat) (f : a < b → A) (g : b ≤ a → B) (hx : x = nI a := by rfl) (hy : y = nI b := by rfl) (ha : a < 2 ^ 31 := by omega) (hb : b < 2 ^ 31 := by omega) : (x < y → A) ∧ (¬ x < y → B) := by
  subst hx hy
  rw [nI_ltI ha hb]
  exact ⟨f, fun z => g (by omega)⟩
theorem pk_eq {x y : Int32} {A B : Prop} (a b : Nat) (f : a = b → A) (g : a ≠ b → B) (hx : x = nI a := by rfl) (hy : y = nI b := by rfl) (ha : a < 2 ^ 31 := by omega) (hb : b < 2 ^ 31 := by omega) : (x = y → A) ∧ (¬ x = y → B) := by
  subst hx hy
  rw [nI_eq ha hb]
  exact ⟨f, g⟩
theorem pk_in {x : Int32} (n N : Nat) (h : n < N) (hx : x = nI n := by rfl) (hN : N < 2 ^ 31 := by omega) : vp_in x N := by
  subst hx
  exact vp_in_nI h hN
theorem pk_cl {x : Int32} (n : Nat) (hx : x = nI n := by rfl) (h : n < 2 ^ 31 := by omega) : x.toNatClampNeg = n := by
  subst hx
  exact nI_clamp h
theorem pk_loop {σ : Type} (W : Nat → Nat → σ → Prop) (I : Nat → σ → Prop) (e i0 : Nat) (s : σ) (hi : i0 ≤ e) (h0 : I i0 s) (hx : ∀ n s, I e s → W (n + 1) e s)
    (hs : ∀ n i s, i < e → I i s → (∀ s', I (i + 1) s' → W n (i + 1) s') → W (n + 1) i s) : ∃ n, W n i0 s :=
  ⟨e + 1, loop_i W I e hx hs (e + 1) i0 s hi (by omega) h0⟩
theorem pk_loopD {σ : Type} (W : Nat → Nat → σ → Prop) (I : Nat → σ → Prop) (hx : ∀ n s, I 0 s → W (n + 1) 0 s)
    (hs : ∀ n i s, I (i + 1) s → (∀ s', I i s' → W n i s') → W (n + 1) (i + 1) s) : ∀ (e : Nat) (s : σ), I e s → W (e + 1) e s := by
  intro e
  induction e with
  | zero => exact fun s h => hx 0 s h
  | succ e ih => exact fun s h => hs (e + 1) e s h (fun s' h' => ih s' h')
end
section
/-! GoBoard: a set of points is a long; bit q stands for point q -/
def go_b (x : Int64) (q : Nat) : Bool := x.toBitVec.getLsbD q
theorem go_ext {x y : Int64} (h : ∀ i, i < 64 → go_b x i = go_b y i) : x = y := Int64.toBitVec_inj.mp (BitVec.eq_of_getLsbD_eq (fun i hi => h i hi))
theorem go_or (x y : Int64) (i : Nat) : go_b (x ||| y) i = (go_b x i || go_b y i) := by unfold go_b; rw [Int64.toBitVec_or, BitVec.getLsbD_or]
theorem go_and (x y : Int64) (i : Nat) : go_b (x &&& y) i = (go_b x i && go_b y i) := by unfold go_b; rw [Int64.toBitVec_and, BitVec.getLsbD_and]
theorem go_big (x : Int64) {i : Nat} (h : 64 ≤ i) : go_b x i = false := BitVec.getLsbD_of_ge _ _ h
theorem go_0 (i : Nat) : go_b 0 i = false := BitVec.getLsbD_zero
theorem go_m1 : ∀ i, i < 64 → go_b (-1) i = true := by decide +kernel
theorem go_xor (x y : Int64) (i : Nat) : go_b (x ^^^ y) i = (go_b x i ^^ go_b y i) := by unfold go_b; rw [Int64.toBitVec_xor, BitVec.getLsbD_xor]
theorem go_not (x : Int64) {i : Nat} (hi : i < 64) : go_b (x ^^^ (-1)) i = !go_b x i := by
  rw [go_xor, go_m1 i hi]
  cases go_b x i <;> rfl
theorem go_1 : ∀ i, i < 64 → go_b 1 i = decide (i = 0) := by decide +kernel
theorem go_sl : ∀ n, n < 64 → (((nI n).toInt64 &&& 63).toBitVec.smod 64).toNat = n := by decide +kernel
theorem go_su : ∀ n, n < 64 → (((nI n).toInt64.toUInt64 &&& Int64.toUInt64 63).toBitVec % 64).toNat = n := by decide +kernel
theorem go_shl (n : Nat) (hn : n < 64) (x : Int64) {i : Nat} (hi : i < 64) : go_b (x <<< ((nI n).toInt64 &&& 63)) i = (decide (n ≤ i) && go_b x (i - n)) := by
  unfold go_b
  rw [Int64.toBitVec_shiftLeft]
  show (x.toBitVec <<< (((nI n).toInt64 &&& 63).toBitVec.smod 64).toNat).getLsbD i = _
  rw [go_sl n hn, BitVec.getLsbD_shiftLeft]
  rcases Nat.lt_or_ge i n with h | h
  · simp [h, Nat.not_le.mpr h]
  · simp [hi, h, Nat.not_lt.mpr h]
theorem go_shr (n : Nat) (hn : n < 64) (x : Int64) (i : Nat) : go_b ((x.toUInt64 >>> ((nI n).toInt64.toUInt64 &&& Int64.toUInt64 63)).toInt64) i = go_b x (n + i) := by
  show (x.toUInt64 >>> ((nI n).toInt64.toUInt64 &&& Int64.toUInt64 63)).toBitVec.getLsbD i = x.toUInt64.toBitVec.getLsbD (n + i)
  rw [UInt64.toBitVec_shiftRight]
  show (x.toUInt64.toBitVec >>> (((nI n).toInt64.toUInt64 &&& Int64.toUInt64 63).toBitVec % 64).toNat).getLsbD i = _
  rw [go_su n hn, BitVec.getLsbD_ushiftRight]
theorem go_shl1 (x : Int64) {i : Nat} (hi : i < 64) : go_b (x <<< ((1 : Int32).toInt64 &&& 63)) i = (decide (1 ≤ i) && go_b x (i - 1)) := go_shl 1 (by omega) x hi
theorem go_shl7 (x : Int64) {i : Nat} (hi : i < 64) : go_b (x <<< ((7 : Int32).toInt64 &&& 63)) i = (decide (7 ≤ i) && go_b x (i - 7)) := go_shl 7 (by omega) x hi
theorem go_shr1 (x : Int64) (i : Nat) : go_b ((x.toUInt64 >>> ((1 : Int32).toInt64.toUInt64 &&& Int64.toUInt64 63)).toInt64) i = go_b x (1 + i) := go_shr 1 (by omega) x i
theorem go_shr7 (x : Int64) (i : Nat) : go_b ((x.toUInt64 >>> ((7 : Int32).toInt64.toUInt64 &&& Int64.toUInt64 63)).toInt64) i = go_b x (7 + i) := go_shr 7 (by omega) x i
/-- the point q alone -/
theorem go_pt {q i : Nat} (hq : q < 64) (hi : i < 64) : go_b ((1 : Int64) <<< ((nI q).toInt64 &&& 63)) i = decide (i = q) := by
  rw [go_shl q hq 1 hi, go_1 (i - q) (by omega), Bool.eq_iff_iff, Bool.and_eq_true, decide_eq_true_eq, decide_eq_true_eq, decide_eq_true_eq]
  omega
/-- the test of one point -/
theorem go_has (x : Int64) {q : Nat} (hq : q < 64) : ((x.toUInt64 >>> ((nI q).toInt64.toUInt64 &&& Int64.toUInt64 63)).toInt64 &&& 1) = 0 ↔ go_b x q = false := by
  constructor
  · intro h
    have t : go_b ((x.toUInt64 >>> ((nI q).toInt64.toUInt64 &&& Int64.toUInt64 63)).toInt64 &&& 1) 0 = go_b 0 0 := by rw [h]
    rw [go_and, go_shr q hq, go_0, go_1 0 (by omega), Nat.add_zero] at t
    cases e : go_b x q
    · rfl
    · rw [e] at t; exact absurd t (by decide)
  · intro h
    apply go_ext
    intro i hi
    rw [go_and, go_shr q hq, go_0, go_1 i hi]
    by_cases e : i = 0
    · subst e; rw [Nat.add_zero, h]; rfl
    · rw [decide_eq_false e, Bool.and_false]
/-! the points, their neighbours -/
theorem go_bd : ∀ i, i < 64 → go_b 562949953421311 i = decide (i < 49) := by decide +kernel
theorem go_nF : ∀ i, i < 64 → go_b (-4432676798594) i = !(decide (i % 7 = 0) && decide (i < 49)) := by decide +kernel
theorem go_nL : ∀ i, i < 64 → go_b (-283691315109953) i = !(decide (i % 7 = 6) && decide (i < 49)) := by decide +kernel
/-- no point beyond the board -/
def go_w (x : Int64) : Prop := ∀ i, 49 ≤ i → go_b x i = false
theorem go_w_lt {x : Int64} (h : go_w x) {i : Nat} (hi : go_b x i = true) : i < 49 := by
  rcases Nat.lt_or_ge i 49 with z | z
  · exact z
  · rw [h i z] at hi; exact absurd hi (by decide)
theorem go_w_ext {x y : Int64} (hx : go_w x) (hy : go_w y) (h : ∀ i, i < 49 → (go_b x i = true ↔ go_b y i = true)) : x = y := by
  apply go_ext
  intro i _
  rcases Nat.lt_or_ge i 49 with z | z
  · exact Bool.eq_iff_iff.mpr (h i z)
  · rw [hx i z, hy i z]
theorem go_w_bd (x : Int64) : go_w (x &&& 562949953421311) := by
  intro i hi
  rw [go_and]
  rcases Nat.lt_or_ge i 64 with z | z
  · rw [go_bd i z, decide_eq_false (by omega), Bool.and_false]
  · rw [go_big _ z, Bool.false_and]
theorem go_w_bd' (x : Int64) : go_w (562949953421311 &&& x) := by
  intro i hi
  rw [go_and]
  rcases Nat.lt_or_ge i 64 with z | z
  · rw [go_bd i z, decide_eq_false (by omega), Bool.false_and]
  · rw [go_big _ z, Bool.false_and]
theorem go_w_and {x : Int64} (h : go_w x) (y : Int64) : go_w (x &&& y) := by
  intro i hi
  rw [go_and, h i hi, Bool.false_and]
theorem go_w_and' {y : Int64} (h : go_w y) (x : Int64) : go_w (x &&& y) := by
  intro i hi
  rw [go_and, h i hi, Bool.and_false]
theorem go_w_or {x y : Int64} (hx : go_w x) (hy : go_w y) : go_w (x ||| y) := by
  intro i hi
  rw [go_or, hx i hi, hy i hi]; rfl
theorem go_w_0 : go_w 0 := fun i _ => go_0 i
theorem go_w_pt {q : Nat} (hq : q < 49) : go_w ((1 : Int64) <<< ((nI q).toInt64 &&& 63)) := by
  intro i hi
  rcases Nat.lt_or_ge i 64 with z | z
  · rw [go_pt (by omega) z, decide_eq_false (by omega)]
  · exact go_big _ z
/-- points that differ by one in x or in y -/
def go_ad (s t : Nat) : Prop := t = s + 7 ∨ s = t + 7 ∨ (t = s + 1 ∧ s % 7 ≠ 6) ∨ (s = t + 1 ∧ t % 7 ≠ 6)
theorem go_ad_s {s t : Nat} (h : go_ad s t) : go_ad t s := by
  rcases h with h | h | h | h
  · exact Or.inr (Or.inl h)
  · exact Or.inl h
  · exact Or.inr (Or.inr (Or.inr h))
  · exact Or.inr (Or.inr (Or.inl h))
/-- the neighbours of a set, as the component reckons them -/
def go_N (x : Int64) : Int64 :=
  (((((x &&& (-283691315109953)) <<< ((1 : Int32).toInt64 &&& 63)) ||| ((x &&& (-4432676798594)).toUInt64 >>> ((1 : Int32).toInt64.toUInt64 &&& Int64.toUInt64 63)).toInt64) ||| (x <<< ((7 : Int32).toInt64 &&& 63))) ||| (x.toUInt64 >>> ((7 : Int32).toInt64.toUInt64 &&& Int64.toUInt64 63)).toInt64) &&& 562949953421311
theorem go_N_w (x : Int64) : go_w (go_N x) := go_w_bd _
theorem go_N_e (x : Int64) {t : Nat} (ht : t < 49) : go_b (go_N x) t = ((((decide (1 ≤ t) && (go_b x (t - 1) && !(decide ((t - 1) % 7 = 6) && decide (t - 1 < 49)))) || (go_b x (1 + t) && !(decide ((1 + t) % 7 = 0) && decide (1 + t < 49)))) || (decide (7 ≤ t) && go_b x (t - 7))) || go_b x (7 + t)) := by
  unfold go_N
  rw [go_and, go_or, go_or, go_or, go_shl1 _ (by omega), go_shr1, go_shl7 _ (by omega), go_shr7, go_and, go_and, go_bd t (by omega), go_nL (t - 1) (by omega), go_nF (1 + t) (by omega), decide_eq_true ht, Bool.and_true]
theorem go_N_b {x : Int64} (hx : go_w x) (t : Nat) : go_b (go_N x) t = true ↔ t < 49 ∧ ∃ s, go_ad s t ∧ go_b x s = true := by
  constructor
  · intro h
    have ht := go_w_lt (go_N_w x) h
    refine ⟨ht, ?_⟩
    rw [go_N_e x ht] at h
    simp only [Bool.or_eq_true, Bool.and_eq_true, decide_eq_true_eq, Bool.not_eq_true', Bool.and_eq_false_iff, decide_eq_false_iff_not] at h
    rcases h with ((h | h) | h) | h
    · exact ⟨t - 1, Or.inr (Or.inr (Or.inl (by omega))), h.2.1⟩
    · have := go_w_lt hx h.1
      exact ⟨1 + t, Or.inr (Or.inr (Or.inr (by omega))), h.1⟩
    · exact ⟨t - 7, Or.inl (by omega), h.2⟩
    · exact ⟨7 + t, Or.inr (Or.inl (by omega)), h⟩
  · rintro ⟨ht, s, ha, hs⟩
    have hs' := go_w_lt hx hs
    rw [go_N_e x ht]
    simp only [Bool.or_eq_true, Bool.and_eq_true, decide_eq_true_eq, Bool.not_eq_true', Bool.and_eq_false_iff, decide_eq_false_iff_not]
    rcases ha with h | h | h | h
    · obtain e : t - 7 = s := by omega
      exact Or.inl (Or.inr ⟨by omega, by rw [e]; exact hs⟩)
    · obtain e : 7 + t = s := by omega
      exact Or.inr (by rw [e]; exact hs)
    · obtain e : t - 1 = s := by omega
      exact Or.inl (Or.inl (Or.inl ⟨by omega, by rw [e]; exact hs, by omega⟩))
    · obtain e : 1 + t = s := by omega
      exact Or.inl (Or.inl (Or.inr ⟨by rw [e]; exact hs, by omega⟩))
end
section
/-! how many of the first n -/
noncomputable def go_n (P : Nat → Prop) : Nat → Nat
  | 0 => 0
  | n + 1 => go_n P n + @ite Nat (P n) (Classical.propDecidable _) 1 0
theorem go_n_t {P : Nat → Prop} {n : Nat} (h : P n) : go_n P (n + 1) = go_n P n + 1 := by rw [go_n, if_pos h]
theorem go_n_f {P : Nat → Prop} {n : Nat} (h : ¬ P n) : go_n P (n + 1) = go_n P n := by rw [go_n, if_neg h, Nat.add_zero]
theorem go_n_le (P : Nat → Prop) : ∀ n, go_n P n ≤ n := by
  intro n
  induction n with
  | zero => exact Nat.le_refl 0
  | succ n ih =>
    by_cases h : P n
    · rw [go_n_t h]; omega
    · rw [go_n_f h]; omega
theorem go_n_c {P Q : Nat → Prop} : ∀ n, (∀ i, i < n → (P i ↔ Q i)) → go_n P n = go_n Q n := by
  intro n
  induction n with
  | zero => intro _; rfl
  | succ n ih =>
    intro h
    have e := ih (fun i hi => h i (by omega))
    by_cases z : P n
    · rw [go_n_t z, go_n_t ((h n (by omega)).mp z), e]
    · rw [go_n_f z, go_n_f (fun q => z ((h n (by omega)).mpr q)), e]
theorem go_n_u {P Q : Nat → Prop} {k : Nat} (hp : ¬ P k) (hq : Q k) : ∀ n, k < n → (∀ i, i < n → i ≠ k → (P i ↔ Q i)) → go_n Q n = go_n P n + 1 := by
  intro n
  induction n with
  | zero => intro h _; omega
  | succ n ih =>
    intro hk h
    by_cases e : k = n
    · subst e
      rw [go_n_t hq, go_n_f hp, go_n_c k (fun i hi => h i (by omega) (by omega))]
    · have e1 := ih (by omega) (fun i hi => h i (by omega))
      by_cases z : P n
      · rw [go_n_t z, go_n_t ((h n (by omega) (fun q => e q.symm)).mp z), e1]
      · rw [go_n_f z, go_n_f (fun q => z ((h n (by omega) (fun q => e q.symm)).mpr q)), e1]
theorem go_n_m {P Q : Nat → Prop} : ∀ n, (∀ i, i < n → P i → Q i) → go_n P n ≤ go_n Q n := by
  intro n
  induction n with
  | zero => intro _; exact Nat.le_refl 0
  | succ n ih =>
    intro h
    have e := ih (fun i hi => h i (by omega))
    by_cases z : P n
    · rw [go_n_t z, go_n_t (h n (by omega) z)]; omega
    · by_cases y : Q n
      · rw [go_n_f z, go_n_t y]; omega
      · rw [go_n_f z, go_n_f y]; exact e
theorem go_n_l {P Q : Nat → Prop} {k : Nat} (hp : ¬ P k) (hq : Q k) : ∀ n, k < n → (∀ i, i < n → P i → Q i) → go_n P n < go_n Q n := by
  intro n
  induction n with
  | zero => intro h _; omega
  | succ n ih =>
    intro hk h
    by_cases e : k = n
    · subst e
      have := go_n_m k (fun i hi => h i (by omega))
      rw [go_n_t hq, go_n_f hp]; omega
    · have e1 := ih (by omega) (fun i hi => h i (by omega))
      by_cases z : P n
      · rw [go_n_t z, go_n_t (h n (by omega) z)]; omega
      · by_cases y : Q n
        · rw [go_n_f z, go_n_t y]; omega
        · rw [go_n_f z, go_n_f y]; exact e1
theorem go_n_0 {P : Nat → Prop} : ∀ n, go_n P n = 0 ↔ ∀ i, i < n → ¬ P i := by
  intro n
  induction n with
  | zero => exact ⟨fun _ i hi => absurd hi (Nat.not_lt_zero i), fun _ => rfl⟩
  | succ n ih =>
    by_cases z : P n
    · rw [go_n_t z]
      exact ⟨fun h => absurd h (by omega), fun h => absurd z (h n (by omega))⟩
    · rw [go_n_f z, ih]
      constructor
      · intro h i hi
        by_cases e : i = n
        · subst e; exact z
        · exact h i (by omega)
      · exact fun h i hi => h i (by omega)
/-! what can be reached: the least set that holds S and is closed under steps into P -/
def go_R (P S : Nat → Prop) (r : Nat) : Prop := ∀ C : Nat → Prop, (∀ s, S s → C s) → (∀ s t, C s → go_ad s t → P t → C t) → C r
theorem go_R_s {P S : Nat → Prop} {r : Nat} (h : S r) : go_R P S r := fun _ h1 _ => h1 r h
theorem go_R_t {P S : Nat → Prop} {s t : Nat} (h : go_R P S s) (a : go_ad s t) (p : P t) : go_R P S t := fun C h1 h2 => h2 s t (h C h1 h2) a p
theorem go_R_in {P S : Nat → Prop} (hS : ∀ s, S s → P s) {r : Nat} (h : go_R P S r) : P r := h P hS (fun _ _ _ _ p => p)
theorem go_R_tr {P S T : Nat → Prop} (hS : ∀ s, S s → go_R P T s) {r : Nat} (h : go_R P S r) : go_R P T r := h (go_R P T) hS (fun _ _ z a p => go_R_t z a p)
theorem go_R_sy {P : Nat → Prop} {q r : Nat} (hq : P q) (h : go_R P (fun s => s = q) r) : go_R P (fun s => s = r) q := by
  refine (h (fun r => P r ∧ go_R P (fun s => s = r) q) ?_ ?_).2
  · rintro s rfl
    exact ⟨hq, go_R_s rfl⟩
  · rintro s t ⟨ps, z⟩ a p
    refine ⟨p, go_R_tr ?_ z⟩
    rintro x rfl
    exact go_R_t (go_R_s rfl) (go_ad_s a) ps
/-- from one of E to r: from r to one of E -/
theorem go_R_E {P E : Nat → Prop} (hE : ∀ e, E e → P e) {r : Nat} (hr : P r) : go_R P E r ↔ ∃ e, E e ∧ go_R P (fun s => s = r) e := by
  constructor
  · intro h
    refine (h (fun r => P r ∧ ∃ e, E e ∧ go_R P (fun s => s = r) e) ?_ ?_).2
    · exact fun s hs => ⟨hE s hs, s, hs, go_R_s rfl⟩
    · rintro s t ⟨ps, e, he, z⟩ a p
      refine ⟨p, e, he, go_R_tr ?_ z⟩
      rintro x rfl
      exact go_R_t (go_R_s rfl) (go_ad_s a) ps
  · rintro ⟨e, he, z⟩
    refine go_R_tr ?_ (go_R_sy hr z)
    rintro x rfl
    exact go_R_s he
theorem go_R_c {P P' S S' : Nat → Prop} (hP : ∀ t, P t ↔ P' t) (hS : ∀ t, S t ↔ S' t) (r : Nat) : go_R P S r ↔ go_R P' S' r := by
  obtain rfl : P = P' := funext fun t => propext (hP t)
  obtain rfl : S = S' := funext fun t => propext (hS t)
  exact Iff.rfl
/-! the component's growing set -/
def go_I (s w : Int64) : Nat → Int64
  | 0 => s
  | k + 1 => go_I s w k ||| (go_N (go_I s w k) &&& w)
def go_G (s w : Int64) : Int64 := go_I s w 49
theorem go_I_w {s w : Int64} (hs : go_w s) : ∀ k, go_w (go_I s w k) := by
  intro k
  induction k with
  | zero => exact hs
  | succ k ih => exact go_w_or ih (go_w_and (go_N_w _) _)
theorem go_I_s {s w : Int64} (hs : go_w s) (k t : Nat) : go_b (go_I s w (k + 1)) t = true ↔ go_b (go_I s w k) t = true ∨ ((t < 49 ∧ ∃ a, go_ad a t ∧ go_b (go_I s w k) a = true) ∧ go_b w t = true) := by
  show go_b (go_I s w k ||| (go_N (go_I s w k) &&& w)) t = true ↔ _
  rw [go_or, go_and, Bool.or_eq_true, Bool.and_eq_true, go_N_b (go_I_w hs k)]
theorem go_I_R {s w : Int64} (hs : go_w s) : ∀ k t, go_b (go_I s w k) t = true → go_R (fun t => go_b w t = true) (fun t => go_b s t = true) t := by
  intro k
  induction k with
  | zero => exact fun t h => go_R_s h
  | succ k ih =>
    intro t h
    rcases (go_I_s hs k t).mp h with z | ⟨⟨_, a, ha, z⟩, p⟩
    · exact ih t z
    · exact go_R_t (ih a z) ha p
theorem go_I_n {s w : Int64} (hs : go_w s) (k : Nat) (h : go_I s w (k + 1) ≠ go_I s w k) : go_n (fun t => go_b (go_I s w k) t = true) 49 < go_n (fun t => go_b (go_I s w (k + 1)) t = true) 49 := by
  have m : ∀ t, go_b (go_I s w k) t = true → go_b (go_I s w (k + 1)) t = true := fun t z => (go_I_s hs k t).mpr (Or.inl z)
  by_cases e : ∀ t, go_b (go_I s w (k + 1)) t = true → go_b (go_I s w k) t = true
  · exact absurd (go_w_ext (go_I_w hs (k + 1)) (go_I_w hs k) (fun t _ => ⟨e t, m t⟩)) h
  · obtain ⟨t, z⟩ := Classical.not_forall.mp e
    have z1 : go_b (go_I s w (k + 1)) t = true := Classical.byContradiction fun y => z fun x => absurd x y
    have z2 : ¬ go_b (go_I s w k) t = true := fun y => z fun _ => y
    exact go_n_l z2 z1 49 (go_w_lt (go_I_w hs (k + 1)) z1) (fun i _ => m i)
theorem go_I_k {s w : Int64} (hs : go_w s) : ∀ k, go_I s w (k + 1) = go_I s w k ∨ k + 1 ≤ go_n (fun t => go_b (go_I s w (k + 1)) t = true) 49 := by
  intro k
  induction k with
  | zero =>
    by_cases e : go_I s w (0 + 1) = go_I s w 0
    · exact Or.inl e
    · have := go_I_n hs 0 e
      exact Or.inr (by omega)
  | succ k ih =>
    rcases ih with ih | ih
    · refine Or.inl ?_
      show go_I s w (k + 1) ||| (go_N (go_I s w (k + 1)) &&& w) = go_I s w (k + 1)
      rw [ih]
      exact ih
    · by_cases e : go_I s w (k + 1 + 1) = go_I s w (k + 1)
      · exact Or.inl e
      · have := go_I_n hs (k + 1) e
        exact Or.inr (by omega)
theorem go_G_b {s w : Int64} (hs : go_w s) (hw : go_w w) (t : Nat) : go_b (go_G s w) t = true ↔ go_R (fun t => go_b w t = true) (fun t => go_b s t = true) t := by
  have e : go_I s w (49 + 1) = go_I s w 49 := by
    rcases go_I_k hs (w := w) 49 with h | h
    · exact h
    · have := go_n_le (fun t => go_b (go_I s w (49 + 1)) t = true) 49
      exact absurd h (by omega)
  have m : ∀ k t, go_b s t = true → go_b (go_I s w k) t = true := by
    intro k
    induction k with
    | zero => exact fun t h => h
    | succ k ih => exact fun t h => (go_I_s hs k t).mpr (Or.inl (ih t h))
  constructor
  · exact go_I_R hs 49 t
  · intro h
    refine h (fun t => go_b (go_I s w 49) t = true) (m 49) ?_
    intro a t ha ad p
    have z : go_b (go_I s w (49 + 1)) t = true := (go_I_s hs 49 t).mpr (Or.inr ⟨⟨go_w_lt hw p, a, ad, ha⟩, p⟩)
    rw [e] at z
    exact z
theorem go_G_w {s w : Int64} (hs : go_w s) : go_w (go_G s w) := go_I_w hs 49
/-! a board: b q is 0, 1 (a stone of that player) or 2 (none); the set x holds the points with c -/
def go_P (b : Nat → Int32) (c : Int32) (t : Nat) : Prop := t < 49 ∧ b t = c
def go_S (x : Int64) (b : Nat → Int32) (c : Int32) : Prop := ∀ t, go_b x t = true ↔ go_P b c t
theorem go_S_w {x : Int64} {b : Nat → Int32} {c : Int32} (h : go_S x b c) : go_w x := by
  intro i hi
  cases e : go_b x i
  · rfl
  · have := ((h i).mp e).1
    omega
theorem go_S_u {x y : Int64} {b : Nat → Int32} {c : Int32} (hx : go_S x b c) (hy : go_S y b c) : x = y := go_w_ext (go_S_w hx) (go_S_w hy) (fun i _ => (hx i).trans (hy i).symm)
/-- both players' stones and the board -/
def go_T (x y : Int64) (b : Nat → Int32) : Prop := go_S x b 0 ∧ go_S y b 1 ∧ ∀ t, t < 49 → b t = 0 ∨ b t = 1 ∨ b t = 2
/-- the free points -/
theorem go_S_e {x y : Int64} {b : Nat → Int32} {c d : Int32} (hx : go_S x b c) (hy : go_S y b d) (hb : ∀ t, t < 49 → b t = c ∨ b t = d ∨ b t = 2) (hc : c ≠ 2) (hd : d ≠ 2) : go_S (562949953421311 &&& ((x ||| y) ^^^ (-1))) b 2 := by
  intro t
  rcases Nat.lt_or_ge t 49 with ht | ht
  · rw [go_and, go_not _ (by omega), go_or, go_bd t (by omega), decide_eq_true ht, Bool.true_and, Bool.not_eq_true', Bool.or_eq_false_iff]
    have h1 := hx t
    have h2 := hy t
    constructor
    · rintro ⟨e1, e2⟩
      refine ⟨ht, ?_⟩
      rcases hb t ht with z | z | z
      · rw [h1.mpr ⟨ht, z⟩] at e1; exact absurd e1 (by decide)
      · rw [h2.mpr ⟨ht, z⟩] at e2; exact absurd e2 (by decide)
      · exact z
    · rintro ⟨_, z⟩
      constructor
      · cases e : go_b x t
        · rfl
        · exact absurd ((h1.mp e).2.symm.trans z) hc
      · cases e : go_b y t
        · rfl
        · exact absurd ((h2.mp e).2.symm.trans z) hd
  · rw [go_w_bd' _ t ht]
    exact ⟨fun z => absurd z (by decide), fun z => absurd z.1 (by omega)⟩
/-- the group (or region) of q -/
def go_Q (b : Nat → Int32) (q r : Nat) : Prop := go_R (go_P b (b q)) (fun s => s = q) r
theorem go_Q_in {b : Nat → Int32} {q r : Nat} (hq : q < 49) (h : go_Q b q r) : r < 49 ∧ b r = b q := go_R_in (P := go_P b (b q)) (fun s hs => by rw [hs]; exact ⟨hq, rfl⟩) h
theorem go_Q_sy {b : Nat → Int32} {q r : Nat} (hq : q < 49) (h : go_Q b q r) : go_Q b r q := by
  have e := (go_Q_in hq h).2
  unfold go_Q
  rw [e]
  exact go_R_sy (P := go_P b (b q)) ⟨hq, rfl⟩ h
theorem go_Q_tr {b : Nat → Int32} {q r t : Nat} (hq : q < 49) (h : go_Q b q r) (h2 : go_Q b r t) : go_Q b q t := by
  have e := (go_Q_in hq h).2
  unfold go_Q at h2
  rw [e] at h2
  refine go_R_tr ?_ h2
  rintro x rfl
  exact h
theorem go_Q_b {x p : Int64} {b : Nat → Int32} {q : Nat} (hx : go_S x b (b q)) (hp : ∀ t, go_b p t = true ↔ t = q) (hq : q < 49) (t : Nat) : go_b (go_G p x) t = true ↔ go_Q b q t := by
  have wp : go_w p := by
    intro i hi
    cases e : go_b p i
    · rfl
    · have := (hp i).mp e
      omega
  rw [go_G_b wp (go_S_w hx)]
  exact go_R_c hx hp t
/-- the group of q has a neighbour with c -/
def go_K (b : Nat → Int32) (c : Int32) (q : Nat) : Prop := ∃ e, go_Q b q e ∧ ∃ l, go_ad l e ∧ go_P b c l
/-- the points with c' whose group has a neighbour with c -/
theorem go_K_b {x y : Int64} {b : Nat → Int32} {c d : Int32} (hx : go_S x b d) (hy : go_S y b c) (r : Nat) : go_b (go_G (go_N y &&& x) x) r = true ↔ go_P b d r ∧ go_K b c r := by
  have w1 : go_w (go_N y &&& x) := go_w_and (go_N_w y) x
  have hE : ∀ e, go_b (go_N y &&& x) e = true ↔ go_P b d e ∧ ∃ l, go_ad l e ∧ go_P b c l := by
    intro e
    rw [go_and, Bool.and_eq_true, go_N_b (go_S_w hy), hx e]
    constructor
    · rintro ⟨⟨_, l, a, h⟩, p⟩
      exact ⟨p, l, a, (hy l).mp h⟩
    · rintro ⟨p, l, a, h⟩
      exact ⟨⟨p.1, l, a, (hy l).mpr h⟩, p⟩
  rw [go_G_b w1 (go_S_w hx), go_R_c hx hE]
  constructor
  · intro h
    have p : go_P b d r := go_R_in (P := go_P b d) (fun s hs => hs.1) h
    refine ⟨p, ?_⟩
    obtain ⟨e, he, z⟩ := (go_R_E (P := go_P b d) (fun s hs => hs.1) p).mp h
    refine ⟨e, ?_, he.2⟩
    unfold go_Q
    rw [p.2]
    exact z
  · rintro ⟨p, e, z, k⟩
    have hz := go_Q_in p.1 z
    unfold go_Q at z
    rw [p.2] at z hz
    exact (go_R_E (P := go_P b d) (fun s hs => hs.1) p).mpr ⟨e, ⟨hz, k⟩, z⟩
/-- the component's withLiberties -/
def go_L (m o : Int64) : Int64 := go_G (go_N (562949953421311 &&& ((m ||| o) ^^^ (-1))) &&& m) m
theorem go_L_b {m o : Int64} {b : Nat → Int32} {c d : Int32} (hm : go_S m b c) (ho : go_S o b d) (hb : ∀ t, t < 49 → b t = c ∨ b t = d ∨ b t = 2) (hc : c ≠ 2) (hd : d ≠ 2) (r : Nat) : go_b (go_L m o) r = true ↔ go_P b c r ∧ go_K b 2 r := go_K_b hm (go_S_e hm ho hb hc hd) r
end
section
/-! liberties -/
noncomputable def go_lib (b : Nat → Int32) (q : Nat) : Nat := go_n (fun l => b l = 2 ∧ ∃ s, go_ad s l ∧ go_Q b q s) 49
theorem go_lib_0 (b : Nat → Int32) (q : Nat) : go_lib b q = 0 ↔ ¬ go_K b 2 q := by
  unfold go_lib
  rw [go_n_0]
  constructor
  · rintro h ⟨e, he, l, a, p⟩
    exact h l p.1 ⟨p.2, e, go_ad_s a, he⟩
  · rintro h l hl ⟨p, s, a, hs⟩
    exact h ⟨s, hs, l, go_ad_s a, hl, p⟩
theorem go_lib_b {x e : Int64} {b : Nat → Int32} {q : Nat} (hx : ∀ t, go_b x t = true ↔ go_Q b q t) (hq : q < 49) (he : go_S e b 2) (t : Nat) (ht : t < 49) : go_b (go_N x &&& e) t = true ↔ (b t = 2 ∧ ∃ s, go_ad s t ∧ go_Q b q s) := by
  have wx : go_w x := by
    intro i hi
    cases z : go_b x i
    · rfl
    · have := (go_Q_in hq ((hx i).mp z)).1
      omega
  rw [go_and, Bool.and_eq_true, go_N_b wx, he t]
  constructor
  · rintro ⟨⟨_, s, a, h⟩, p⟩
    exact ⟨p.2, s, a, (hx s).mp h⟩
  · rintro ⟨p, s, a, h⟩
    exact ⟨⟨ht, s, a, (hx s).mpr h⟩, ht, p⟩
/-! a move of the player c (the other one is d) at the empty point q: the boards b, then bb with the stone, then bc without the groups that are taken -/
def go_D (bb : Nat → Int32) (d : Int32) (r : Nat) : Prop := bb r = d ∧ ¬ go_K bb 2 r
def go_C (bb bc : Nat → Int32) (d : Int32) : Prop := ∀ r, r < 49 → (go_D bb d r → bc r = 2) ∧ (¬ go_D bb d r → bc r = bb r)
theorem go_mv_own {x pt : Int64} {b bb : Nat → Int32} {c : Int32} {q : Nat} (hx : go_S x b c) (hp : ∀ t, go_b pt t = true ↔ t = q) (hq : q < 49) (h1 : bb q = c) (h2 : ∀ t, t ≠ q → bb t = b t) : go_S (x ||| pt) bb c := by
  intro t
  rw [go_or, Bool.or_eq_true, hx t, hp t]
  unfold go_P
  by_cases e : t = q
  · subst e
    exact ⟨fun _ => ⟨hq, h1⟩, fun _ => Or.inr rfl⟩
  · rw [h2 t e]
    exact ⟨fun z => z.resolve_right e, Or.inl⟩
theorem go_mv_other {x : Int64} {b bb : Nat → Int32} {c d : Int32} {q : Nat} (hx : go_S x b d) (hb : b q ≠ d) (hc : c ≠ d) (h1 : bb q = c) (h2 : ∀ t, t ≠ q → bb t = b t) : go_S x bb d := by
  intro t
  rw [hx t]
  unfold go_P
  by_cases e : t = q
  · subst e
    exact ⟨fun z => absurd z.2 hb, fun z => absurd (h1.symm.trans z.2) hc⟩
  · rw [h2 t e]
theorem go_mv_val {b bb : Nat → Int32} {c d : Int32} {q : Nat} (hb : ∀ t, t < 49 → b t = c ∨ b t = d ∨ b t = 2) (h1 : bb q = c) (h2 : ∀ t, t ≠ q → bb t = b t) : ∀ t, t < 49 → bb t = c ∨ bb t = d ∨ bb t = 2 := by
  intro t ht
  by_cases e : t = q
  · subst e; exact Or.inl h1
  · rw [h2 t e]; exact hb t ht
theorem go_cp_val {bb bc : Nat → Int32} {c d : Int32} (hb : ∀ t, t < 49 → bb t = c ∨ bb t = d ∨ bb t = 2) (h : go_C bb bc d) : ∀ t, t < 49 → bc t = c ∨ bc t = d ∨ bc t = 2 := by
  intro t ht
  by_cases e : go_D bb d t
  · exact Or.inr (Or.inr ((h t ht).1 e))
  · rw [(h t ht).2 e]; exact hb t ht
theorem go_cp_own {x : Int64} {bb bc : Nat → Int32} {c d : Int32} (hx : go_S x bb c) (hcd : c ≠ d) (hc : c ≠ 2) (h : go_C bb bc d) : go_S x bc c := by
  intro t
  rw [hx t]
  unfold go_P
  constructor
  · rintro ⟨ht, z⟩
    exact ⟨ht, by rw [(h t ht).2 (fun y => hcd (z.symm.trans y.1))]; exact z⟩
  · rintro ⟨ht, z⟩
    refine ⟨ht, ?_⟩
    by_cases e : go_D bb d t
    · exact absurd (z.symm.trans ((h t ht).1 e)) hc
    · rw [← (h t ht).2 e]; exact z
theorem go_cp_left {x y : Int64} {bb bc : Nat → Int32} {c d : Int32} (hx : go_S x bb c) (hy : go_S y bb d) (hb : ∀ t, t < 49 → bb t = c ∨ bb t = d ∨ bb t = 2) (hc : c ≠ 2) (hd : d ≠ 2) (h : go_C bb bc d) : go_S (go_L y x) bc d := by
  intro t
  rw [go_L_b hy hx (fun t ht => (hb t ht).elim (fun z => Or.inr (Or.inl z)) (fun z => z.elim Or.inl (fun z => Or.inr (Or.inr z)))) hd hc]
  unfold go_P
  constructor
  · rintro ⟨⟨ht, z⟩, k⟩
    exact ⟨ht, by rw [(h t ht).2 (fun y => y.2 k)]; exact z⟩
  · rintro ⟨ht, z⟩
    by_cases e : go_D bb d t
    · exact absurd (z.symm.trans ((h t ht).1 e)) hd
    · rw [(h t ht).2 e] at z
      exact ⟨⟨ht, z⟩, Classical.byContradiction fun y => e ⟨z, y⟩⟩
/-- the stones that are taken -/
theorem go_cp_n {x y : Int64} {bb bc : Nat → Int32} {d : Int32} (hy : go_S y bb d) (hl : go_S x bc d) (hd : d ≠ 2) (h : go_C bb bc d) (t : Nat) (ht : t < 49) : go_b (y &&& (x ^^^ (-1))) t = true ↔ go_D bb d t := by
  rw [go_and, Bool.and_eq_true, go_not _ (by omega), Bool.not_eq_true', hy t, ← Bool.not_eq_true, hl t]
  unfold go_P
  constructor
  · rintro ⟨⟨_, z⟩, k⟩
    refine Classical.byContradiction fun e => k ⟨ht, ?_⟩
    rw [(h t ht).2 e]; exact z
  · intro e
    refine ⟨⟨ht, e.1⟩, fun k => ?_⟩
    exact hd (k.2.symm.trans ((h t ht).1 e))
/-- the new stone's group -/
theorem go_cp_alive {x y : Int64} {bc : Nat → Int32} {c d : Int32} {q : Nat} (hx : go_S x bc c) (hl : go_S y bc d) (hb : ∀ t, t < 49 → bc t = c ∨ bc t = d ∨ bc t = 2) (hc : c ≠ 2) (hd : d ≠ 2) (hq : q < 49) (h1 : bc q = c) : go_b (go_L x y) q = true ↔ go_lib bc q ≠ 0 := by
  rw [go_L_b hx hl hb hc hd, Ne, go_lib_0]
  exact ⟨fun z y => y z.2, fun z => ⟨⟨hq, h1⟩, Classical.byContradiction z⟩⟩
/-- two boards are the same where both players' stones are -/
theorem go_same {x y x' y' : Int64} {b b' : Nat → Int32} {c d : Int32} (hx : go_S x b c) (hy : go_S y b d) (hx' : go_S x' b' c) (hy' : go_S y' b' d) (hb : ∀ t, t < 49 → b t = c ∨ b t = d ∨ b t = 2) (hb' : ∀ t, t < 49 → b' t = c ∨ b' t = d ∨ b' t = 2) : (x = x' ∧ y = y') ↔ ∀ t, t < 49 → b t = b' t := by
  constructor
  · rintro ⟨rfl, rfl⟩ t ht
    rcases hb t ht with z | z | z
    · exact z.trans ((hx' t).mp ((hx t).mpr ⟨ht, z⟩)).2.symm
    · exact z.trans ((hy' t).mp ((hy t).mpr ⟨ht, z⟩)).2.symm
    · rcases hb' t ht with w | w | w
      · exact ((hx t).mp ((hx' t).mpr ⟨ht, w⟩)).2.trans w.symm
      · exact ((hy t).mp ((hy' t).mpr ⟨ht, w⟩)).2.trans w.symm
      · exact z.trans w.symm
  · intro h
    have e1 : go_S x' b c := fun t => (hx' t).trans ⟨fun z => ⟨z.1, (h t z.1).trans z.2⟩, fun z => ⟨z.1, (h t z.1).symm.trans z.2⟩⟩
    have e2 : go_S y' b d := fun t => (hy' t).trans ⟨fun z => ⟨z.1, (h t z.1).trans z.2⟩, fun z => ⟨z.1, (h t z.1).symm.trans z.2⟩⟩
    exact ⟨go_S_u hx e1, go_S_u hy e2⟩
/-! the first point of its group; the groups counted one by one -/
def go_first (b : Nat → Int32) (q : Nat) : Prop := ∀ r, go_Q b q r → q ≤ r
/-- the stones of c in no group of a point before q -/
def go_un (b : Nat → Int32) (c : Int32) (q t : Nat) : Prop := go_P b c t ∧ ∀ s, s < q → b s = c → ¬ go_Q b s t
theorem go_un_q {b : Nat → Int32} {c : Int32} {q : Nat} (hq : q < 49) : go_un b c q q ↔ (b q = c ∧ go_first b q) := by
  constructor
  · rintro ⟨p, h⟩
    refine ⟨p.2, fun r hr => ?_⟩
    rcases Nat.lt_or_ge r q with z | z
    · have e := go_Q_in hq hr
      exact absurd (go_Q_sy hq hr) (h r z (e.2.trans p.2))
    · exact z
  · rintro ⟨p, h⟩
    refine ⟨⟨hq, p⟩, fun s hs _ k => ?_⟩
    have := h s (go_Q_sy (by omega) k)
    omega
theorem go_un_s {b : Nat → Int32} {c : Int32} {q : Nat} (hq : q < 49) (t : Nat) : go_un b c (q + 1) t ↔ (go_un b c q t ∧ (go_un b c q q → ¬ go_Q b q t)) := by
  constructor
  · rintro ⟨p, h⟩
    exact ⟨⟨p, fun s hs => h s (by omega)⟩, fun k => h q (by omega) k.1.2⟩
  · rintro ⟨⟨p, h⟩, k⟩
    refine ⟨p, fun s hs e z => ?_⟩
    rcases Nat.lt_or_ge s q with y | y
    · exact h s y e z
    · obtain rfl : s = q := by omega
      refine k ⟨⟨hq, e⟩, fun r hr er y => ?_⟩ z
      exact h r hr er (go_Q_tr (by omega) y z)
end
section
/-! the reference's neighbours, by direction -/
def go_nb (q d : Nat) : Int32 := if d = 0 then (if q < 7 then -1 else nI (q - 7)) else if d = 1 then (if 41 < q then -1 else nI (q + 7)) else if d = 2 then (if q % 7 = 0 then -1 else nI (q - 1)) else (if q % 7 = 6 then -1 else nI (q + 1))
theorem go_nb_c {q : Nat} (hq : q < 49) (d : Nat) : go_nb q d = -1 ∨ ∃ s, s < 49 ∧ go_nb q d = nI s ∧ go_ad q s := by
  unfold go_nb
  by_cases d0 : d = 0
  · rw [if_pos d0]
    by_cases z : q < 7
    · rw [if_pos z]; exact Or.inl rfl
    · rw [if_neg z]; exact Or.inr ⟨q - 7, by omega, rfl, Or.inr (Or.inl (by omega))⟩
  · rw [if_neg d0]
    by_cases d1 : d = 1
    · rw [if_pos d1]
      by_cases z : 41 < q
      · rw [if_pos z]; exact Or.inl rfl
      · rw [if_neg z]; exact Or.inr ⟨q + 7, by omega, rfl, Or.inl (by omega)⟩
    · rw [if_neg d1]
      by_cases d2 : d = 2
      · rw [if_pos d2]
        by_cases z : q % 7 = 0
        · rw [if_pos z]; exact Or.inl rfl
        · rw [if_neg z]; exact Or.inr ⟨q - 1, by omega, rfl, Or.inr (Or.inr (Or.inr (by omega)))⟩
      · rw [if_neg d2]
        by_cases z : q % 7 = 6
        · rw [if_pos z]; exact Or.inl rfl
        · rw [if_neg z]; exact Or.inr ⟨q + 1, by omega, rfl, Or.inr (Or.inr (Or.inl (by omega)))⟩
theorem go_nb_e {q s : Nat} (hq : q < 49) (hs : s < 49) (a : go_ad q s) : ∃ d, d < 4 ∧ go_nb q d = nI s := by
  unfold go_nb
  rcases a with h | h | h | h
  · refine ⟨1, by omega, ?_⟩
    rw [if_neg (by omega), if_pos rfl, if_neg (by omega), h]
  · refine ⟨0, by omega, ?_⟩
    rw [if_pos rfl, if_neg (by omega), h]; rfl
  · refine ⟨3, by omega, ?_⟩
    rw [if_neg (by omega), if_neg (by omega), if_neg (by omega), if_neg (by omega), h.1]
  · refine ⟨2, by omega, ?_⟩
    rw [if_neg (by omega), if_neg (by omega), if_pos rfl, if_neg (by omega), h.1]; rfl
theorem go_m1_lt {s : Nat} (hs : s < 49) : nI s ≠ -1 := by
  intro h
  have h1 := congrArg Int32.toInt h
  rw [nI_toInt (by omega)] at h1
  exact absurd h1 (by rw [show (-1 : Int32).toInt = -1 from by decide]; omega)
/-! boards that agree on the 49 points -/
theorem go_P_c {b b' : Nat → Int32} (h : ∀ t, t < 49 → b t = b' t) (c : Int32) : go_P b c = go_P b' c := funext fun t => propext ⟨fun z => ⟨z.1, (h t z.1).symm.trans z.2⟩, fun z => ⟨z.1, (h t z.1).trans z.2⟩⟩
theorem go_S_c {b b' : Nat → Int32} (h : ∀ t, t < 49 → b t = b' t) {x : Int64} {c : Int32} (hx : go_S x b c) : go_S x b' c := by
  unfold go_S at hx ⊢
  rw [← go_P_c h]; exact hx
theorem go_T_c {b b' : Nat → Int32} (h : ∀ t, t < 49 → b t = b' t) {x y : Int64} (hx : go_T x y b) : go_T x y b' := ⟨go_S_c h hx.1, go_S_c h hx.2.1, fun t ht => by rw [← h t ht]; exact hx.2.2 t ht⟩
theorem go_Q_c {b b' : Nat → Int32} (h : ∀ t, t < 49 → b t = b' t) {q : Nat} (hq : q < 49) : go_Q b q = go_Q b' q := by
  funext r
  unfold go_Q
  rw [h q hq, go_P_c h]
theorem go_K_c {b b' : Nat → Int32} (h : ∀ t, t < 49 → b t = b' t) (c : Int32) {q : Nat} (hq : q < 49) : go_K b c q ↔ go_K b' c q := by
  unfold go_K
  rw [go_Q_c h hq, go_P_c h]
theorem go_lib_c {b b' : Nat → Int32} (h : ∀ t, t < 49 → b t = b' t) {q : Nat} (hq : q < 49) : go_lib b q = go_lib b' q := by
  unfold go_lib
  refine go_n_c 49 (fun l hl => ?_)
  rw [h l hl, go_Q_c h hq]
theorem go_D_c {b b' : Nat → Int32} (h : ∀ t, t < 49 → b t = b' t) (e : Int32) {r : Nat} (hr : r < 49) : go_D b e r ↔ go_D b' e r := by
  unfold go_D
  rw [h r hr, go_K_c h 2 hr]
/-- the board when the groups of e without liberties are gone -/
noncomputable def go_cap (bb : Nat → Int32) (e : Int32) : Nat → Int32 := fun r => @ite Int32 (go_D bb e r) (Classical.propDecidable _) 2 (bb r)
theorem go_cap_C (bb : Nat → Int32) (e : Int32) : go_C bb (go_cap bb e) e := fun r _ => ⟨fun h => if_pos h, fun h => if_neg h⟩
theorem go_cap_e {bb bc : Nat → Int32} {e : Int32} (h : go_C bb bc e) : ∀ t, t < 49 → bc t = go_cap bb e t := by
  intro t ht
  by_cases z : go_D bb e t
  · exact ((h t ht).1 z).trans ((go_cap_C bb e t ht).1 z).symm
  · exact ((h t ht).2 z).trans ((go_cap_C bb e t ht).2 z).symm
theorem go_cap_c {b b' : Nat → Int32} (h : ∀ t, t < 49 → b t = b' t) (e : Int32) : ∀ t, t < 49 → go_cap b e t = go_cap b' e t := by
  intro t ht
  by_cases z : go_D b e t
  · exact ((go_cap_C b e t ht).1 z).trans ((go_cap_C b' e t ht).1 ((go_D_c h e ht).mp z)).symm
  · exact ((go_cap_C b e t ht).2 z).trans ((h t ht).trans ((go_cap_C b' e t ht).2 (fun y => z ((go_D_c h e ht).mpr y))).symm)
/-- the board with a stone of c at q, and what it takes -/
noncomputable def go_mv (b : Nat → Int32) (c e : Int32) (q : Nat) : Nat → Int32 := go_cap (upd b q c) e
theorem go_upd_c {b b' : Nat → Int32} (h : ∀ t, t < 49 → b t = b' t) (q : Nat) (c : Int32) : ∀ t, t < 49 → upd b q c t = upd b' q c t := by
  intro t ht
  unfold upd
  by_cases z : t = q
  · rw [if_pos z, if_pos z]
  · rw [if_neg z, if_neg z]; exact h t ht
/-- what a move of c at q answers: hb is the board before the last of the d moves and passes -/
noncomputable def go_ans (b hb : Nat → Int32) (d : Nat) (c e : Int32) (q : Nat) : Int32 :=
  @ite Int32 (go_lib (go_mv b c e q) q = 0) (Classical.propDecidable _) (-5) (@ite Int32 (0 < d ∧ ∀ t, t < 49 → go_mv b c e q t = hb t) (Classical.propDecidable _) (-6) (nI (go_n (go_D (upd b q c) e) 49)))
theorem go_ans_s {b hb : Nat → Int32} {d : Nat} {c e : Int32} {q : Nat} (h : go_lib (go_mv b c e q) q = 0) : go_ans b hb d c e q = -5 := if_pos h
theorem go_ans_k {b hb : Nat → Int32} {d : Nat} {c e : Int32} {q : Nat} (h : ¬ go_lib (go_mv b c e q) q = 0) (h2 : 0 < d ∧ ∀ t, t < 49 → go_mv b c e q t = hb t) : go_ans b hb d c e q = -6 := (if_neg h).trans (if_pos h2)
theorem go_ans_n {b hb : Nat → Int32} {d : Nat} {c e : Int32} {q : Nat} (h : ¬ go_lib (go_mv b c e q) q = 0) (h2 : ¬ (0 < d ∧ ∀ t, t < 49 → go_mv b c e q t = hb t)) : go_ans b hb d c e q = nI (go_n (go_D (upd b q c) e) 49) := (if_neg h).trans (if_neg h2)
theorem go_ans_c {b b' hb : Nat → Int32} (h : ∀ t, t < 49 → b t = b' t) (d : Nat) (c e : Int32) {q : Nat} (hq : q < 49) : go_ans b hb d c e q = go_ans b' hb d c e q := by
  have hu := go_upd_c h q c
  have hm : ∀ t, t < 49 → go_mv b c e q t = go_mv b' c e q t := go_cap_c hu e
  have hl : go_lib (go_mv b c e q) q = go_lib (go_mv b' c e q) q := go_lib_c hm hq
  have hn : go_n (go_D (upd b q c) e) 49 = go_n (go_D (upd b' q c) e) 49 := go_n_c 49 (fun i hi => go_D_c hu e hi)
  by_cases z : go_lib (go_mv b c e q) q = 0
  · rw [go_ans_s z, go_ans_s (by rw [← hl]; exact z)]
  · have z' : ¬ go_lib (go_mv b' c e q) q = 0 := by rw [← hl]; exact z
    by_cases y : 0 < d ∧ ∀ t, t < 49 → go_mv b c e q t = hb t
    · rw [go_ans_k z y, go_ans_k z' ⟨y.1, fun t ht => (hm t ht).symm.trans (y.2 t ht)⟩]
    · rw [go_ans_n z y, go_ans_n z' (fun w => y ⟨w.1, fun t ht => (hm t ht).trans (w.2 t ht)⟩), hn]
/-- an answer that isn't below 0 -/
theorem go_ans_p (b hb : Nat → Int32) (d : Nat) (c e : Int32) (q : Nat) : (go_ans b hb d c e q < 0 ∧ ¬ 0 ≤ go_ans b hb d c e q) ∨ (∃ m, m ≤ 49 ∧ go_ans b hb d c e q = nI m) := by
  by_cases z : go_lib (go_mv b c e q) q = 0
  · rw [go_ans_s z]; exact Or.inl ⟨by decide, by decide⟩
  · by_cases y : 0 < d ∧ ∀ t, t < 49 → go_mv b c e q t = hb t
    · rw [go_ans_k z y]; exact Or.inl ⟨by decide, by decide⟩
    · rw [go_ans_n z y]; exact Or.inr ⟨_, go_n_le _ 49, rfl⟩
/-! the component's side of a move -/
theorem go_mv_T {x y pt : Int64} {b : Nat → Int32} {c e : Int32} {q : Nat} (hx : go_S x b c) (hy : go_S y b e) (hb : ∀ t, t < 49 → b t = c ∨ b t = e ∨ b t = 2) (hp : ∀ t, go_b pt t = true ↔ t = q) (hq : q < 49) (h2 : b q = 2) (hce : c ≠ e) (hc : c ≠ 2) (he : e ≠ 2) :
    go_S (x ||| pt) (go_mv b c e q) c ∧ go_S (go_L y (x ||| pt)) (go_mv b c e q) e ∧ (∀ t, t < 49 → go_mv b c e q t = c ∨ go_mv b c e q t = e ∨ go_mv b c e q t = 2) ∧ (∀ t, t < 49 → (go_b (y &&& (go_L y (x ||| pt) ^^^ (-1))) t = true ↔ go_D (upd b q c) e t)) ∧ (go_b (go_L (x ||| pt) (go_L y (x ||| pt))) q = true ↔ go_lib (go_mv b c e q) q ≠ 0) := by
  have u1 : upd b q c q = c := if_pos rfl
  have u2 : ∀ t, t ≠ q → upd b q c t = b t := fun t ht => if_neg ht
  have s1 : go_S (x ||| pt) (upd b q c) c := go_mv_own hx hp hq u1 u2
  have s2 : go_S y (upd b q c) e := go_mv_other hy (fun z => he (z.symm.trans h2)) hce u1 u2
  have v1 := go_mv_val hb u1 u2
  have C : go_C (upd b q c) (go_mv b c e q) e := go_cap_C _ _
  have v2 := go_cp_val v1 C
  have t1 : go_S (x ||| pt) (go_mv b c e q) c := go_cp_own s1 hce hc C
  have t2 : go_S (go_L y (x ||| pt)) (go_mv b c e q) e := go_cp_left s1 s2 v1 hc he C
  refine ⟨t1, t2, v2, fun t ht => go_cp_n s2 t2 he C t ht, ?_⟩
  have e1 : go_mv b c e q q = c := by
    rw [(C q hq).2 (fun z => hce (u1.symm.trans z.1))]; exact u1
  exact go_cp_alive t1 t2 v2 hc he hq e1
/-! the relation's own part -/
def go_J (d : Nat) (st : Nat → Int64) (pr : Nat → Int32) (bo hi h1 h2 ca : Nat → Int32) : Prop :=
  d ≤ 40 ∧ (∀ n, n < d → go_T (st (2 * n)) (st (2 * n + 1)) (fun t => hi (49 * n + t)) ∧ pr (2 * n) = h1 n ∧ pr (2 * n + 1) = h2 n) ∧ go_T (st (2 * d)) (st (2 * d + 1)) bo ∧ pr (2 * d) = ca 0 ∧ pr (2 * d + 1) = ca 1 ∧ pr 0 = 0 ∧ pr 1 = 0
theorem go_J_b {d : Nat} {st : Nat → Int64} {pr bo hi h1 h2 ca bo' : Nat → Int32} (J : go_J d st pr bo hi h1 h2 ca) (h : ∀ t, t < 49 → bo t = bo' t) : go_J d st pr bo' hi h1 h2 ca := ⟨J.1, J.2.1, go_T_c h J.2.2.1, J.2.2.2⟩
theorem go_J_next {d : Nat} {st st' : Nat → Int64} {pr pr' bo bo' hi hi' h1 h1' h2 h2' ca ca' : Nat → Int32} (J : go_J d st pr bo hi h1 h2 ca) (hd : d < 40) (hs : ∀ i, i < 2 * d + 2 → st' i = st i) (hp : ∀ i, i < 2 * d + 2 → pr' i = pr i) (hh : ∀ i, i < 49 * d → hi' i = hi i) (hh2 : ∀ t, t < 49 → hi' (49 * d + t) = bo t) (e1 : ∀ i, i < d → h1' i = h1 i) (e1d : h1' d = ca 0) (e2 : ∀ i, i < d → h2' i = h2 i) (e2d : h2' d = ca 1) (T : go_T (st' (2 * d + 2)) (st' (2 * d + 3)) bo') (p1 : pr' (2 * d + 2) = ca' 0) (p2 : pr' (2 * d + 3) = ca' 1) : go_J (d + 1) st' pr' bo' hi' h1' h2' ca' := by
  obtain ⟨_, J2, J3, J4, J5, J6, J7⟩ := J
  refine ⟨by omega, ?_, T, p1, p2, (hp 0 (by omega)).trans J6, (hp 1 (by omega)).trans J7⟩
  intro n hn
  rw [hs (2 * n) (by omega), hs (2 * n + 1) (by omega), hp (2 * n) (by omega), hp (2 * n + 1) (by omega)]
  by_cases z : n = d
  · subst z
    rw [e1d, e2d]
    exact ⟨go_T_c (fun t ht => (hh2 t ht).symm) J3, J4, J5⟩
  · rw [e1 n (by omega), e2 n (by omega)]
    obtain ⟨a, b, c⟩ := J2 n (by omega)
    exact ⟨go_T_c (fun t ht => (hh (49 * n + t) (by omega)).symm) a, b, c⟩
theorem go_J_back {d : Nat} {st : Nat → Int64} {pr bo bo' hi h1 h2 ca ca' : Nat → Int32} (J : go_J (d + 1) st pr bo hi h1 h2 ca) (hb : ∀ t, t < 49 → bo' t = hi (49 * d + t)) (c0 : ca' 0 = h1 d) (c1 : ca' 1 = h2 d) : go_J d st pr bo' hi h1 h2 ca' := by
  obtain ⟨J1, J2, _, _, _, J6, J7⟩ := J
  obtain ⟨a, b, c⟩ := J2 d (by omega)
  exact ⟨by omega, fun n hn => J2 n (by omega), go_T_c (fun t ht => (hb t ht).symm) a, b.trans c0.symm, c.trans c1.symm, J6, J7⟩
theorem go_J_set {d : Nat} {st st' : Nat → Int64} {pr bo bo' hi h1 h2 ca ca' : Nat → Int32} (J : go_J d st pr bo hi h1 h2 ca) (T : go_T (st' 0) (st' 1) bo') (c0 : ca' 0 = 0) (c1 : ca' 1 = 0) : go_J 0 st' pr bo' hi h1 h2 ca' := ⟨by omega, fun n hn => absurd hn (Nat.not_lt_zero n), T, J.2.2.2.2.2.1.trans c0.symm, J.2.2.2.2.2.2.trans c1.symm, J.2.2.2.2.2.1, J.2.2.2.2.2.2⟩
end
section
/-! the reference's flood: R is its array of marks, c how many it counted -/
def go_W (b : Nat → Int32) (q : Nat) (R : Nat → Int32) (c : Nat) : Prop := (∀ r, r < 49 → ¬ R r = 0 → go_Q b q r) ∧ ¬ R q = 0 ∧ go_n (fun r => ¬ R r = 0) 49 = c
def go_nr (b : Nat → Int32) (c : Int32) (R : Nat → Int32) (r : Nat) : Prop := ∃ s, s < 49 ∧ go_ad r s ∧ b s = c ∧ ¬ R s = 0
def go_cl (b : Nat → Int32) (q : Nat) (R : Nat → Int32) (i : Nat) : Prop := ∀ r, r < i → b r = b q → go_nr b (b q) R r → ¬ R r = 0
/-- the flood's end -/
def go_F (b : Nat → Int32) (q : Nat) (R : Nat → Int32) : Prop := ∀ r, r < 49 → (¬ R r = 0 ↔ go_Q b q r)
theorem go_W_c {b R : Nat → Int32} {q c : Nat} (h : go_W b q R c) : c ≤ 49 := by rw [← h.2.2]; exact go_n_le _ 49
theorem go_W_F {b R : Nat → Int32} {q c : Nat} (hq : q < 49) (h : go_W b q R c) (k : go_cl b q R 49) : go_F b q R := by
  intro r hr
  refine ⟨h.1 r hr, fun z => ?_⟩
  refine (z (fun r => r < 49 ∧ ¬ R r = 0) ?_ ?_).2
  · rintro s rfl
    exact ⟨hq, h.2.1⟩
  · rintro s t ⟨hs, rs⟩ a p
    exact ⟨p.1, k t p.1 p.2 ⟨s, hs, go_ad_s a, (go_Q_in hq (h.1 s hs rs)).2, rs⟩⟩
theorem go_W_n {b R : Nat → Int32} {q c : Nat} (h : go_W b q R c) (F : go_F b q R) : c = go_n (go_Q b q) 49 := by
  rw [← h.2.2]
  exact go_n_c 49 F
theorem go_W_s {b R : Nat → Int32} {q c r : Nat} {x : Int32} (hq : q < 49) (h : go_W b q R c) (hr : r < 49) (z : R r = 0) (e : b r = b q) (n : go_nr b (b q) R r) (hx : ¬ x = 0) : go_W b q (upd R r x) (c + 1) := by
  have ur : upd R r x r = x := if_pos rfl
  have un : ∀ t, t ≠ r → upd R r x t = R t := fun t ht => if_neg ht
  refine ⟨?_, ?_, ?_⟩
  · intro t ht
    by_cases y : t = r
    · subst y
      intro _
      obtain ⟨s, hs, a, es, rs⟩ := n
      exact go_R_t (h.1 s hs rs) (go_ad_s a) ⟨ht, e⟩
    · rw [un t y]; exact h.1 t ht
  · by_cases y : q = r
    · rw [y, ur]; exact hx
    · rw [un q y]; exact h.2.1
  · rw [← h.2.2]
    refine go_n_u (k := r) (fun y => y z) (by rw [ur]; exact hx) 49 hr (fun i _ hi => ?_)
    rw [un i hi]
theorem go_W_0 {b R : Nat → Int32} {q : Nat} (hq : q < 49) (h1 : ¬ R q = 0) (h0 : ∀ r, r < 49 → r ≠ q → R r = 0) : go_W b q R 1 := by
  refine ⟨fun r hr z => ?_, h1, ?_⟩
  · by_cases y : r = q
    · rw [y]; exact go_R_s rfl
    · exact absurd (h0 r hr y) z
  · have e := go_n_u (P := fun _ => False) (Q := fun r => ¬ R r = 0) (k := q) (fun y => y) h1 49 hq (fun i hi hn => ⟨fun y => y.elim, fun y => y (h0 i hi hn)⟩)
    rw [e, (go_n_0 49).mpr (fun i _ y => y)]
theorem go_cl_0 (b : Nat → Int32) (q : Nat) (R : Nat → Int32) : go_cl b q R 0 := fun r hr => absurd hr (Nat.not_lt_zero r)
theorem go_cl_s {b R : Nat → Int32} {q i : Nat} (h : go_cl b q R i) (k : b i = b q → go_nr b (b q) R i → ¬ R i = 0) : go_cl b q R (i + 1) := by
  intro r hr
  by_cases y : r = i
  · rw [y]; exact k
  · exact h r (by omega)
/-! marks and liberties -/
def go_lr (b R : Nat → Int32) (l : Nat) : Prop := b l = 2 ∧ ∃ s, s < 49 ∧ go_ad l s ∧ ¬ R s = 0
theorem go_F_lib {b R : Nat → Int32} {q : Nat} (hq : q < 49) (F : go_F b q R) : go_n (go_lr b R) 49 = go_lib b q := by
  unfold go_lib
  refine go_n_c 49 (fun l _ => ?_)
  constructor
  · rintro ⟨e, s, hs, a, rs⟩
    exact ⟨e, s, go_ad_s a, (F s hs).mp rs⟩
  · rintro ⟨e, s, a, z⟩
    have hs := (go_Q_in hq z).1
    exact ⟨e, s, hs, go_ad_s a, (F s hs).mpr z⟩
/-- the marked points touch c -/
def go_tc (b R : Nat → Int32) (c : Int32) : Prop := ∃ r, r < 49 ∧ ¬ R r = 0 ∧ ∃ s, s < 49 ∧ go_ad r s ∧ b s = c
theorem go_F_K {b R : Nat → Int32} {q : Nat} (hq : q < 49) (F : go_F b q R) (c : Int32) : go_tc b R c ↔ go_K b c q := by
  constructor
  · rintro ⟨r, hr, rr, s, hs, a, e⟩
    exact ⟨r, (F r hr).mp rr, s, go_ad_s a, hs, e⟩
  · rintro ⟨r, z, s, a, hs, e⟩
    have hr := (go_Q_in hq z).1
    exact ⟨r, hr, (F r hr).mpr z, s, hs, go_ad_s a, e⟩
/-- the first marked point -/
def go_fm (R : Nat → Int32) (f : Nat) : Prop := f < 49 ∧ ¬ R f = 0 ∧ ∀ r, r < 49 → ¬ R r = 0 → f ≤ r
theorem go_F_first {b R : Nat → Int32} {q f : Nat} (hq : q < 49) (F : go_F b q R) (h : go_fm R f) : f = q ↔ go_first b q := by
  obtain ⟨hf, rf, hm⟩ := h
  constructor
  · rintro rfl r z
    have hr := (go_Q_in hq z).1
    exact hm r hr ((F r hr).mpr z)
  · intro k
    have h1 := k f ((F f hf).mp rf)
    have h2 := hm q hq ((F q hq).mpr (go_R_s rfl))
    omega
/-! what the hits of four directions say -/
theorem go_dir {q : Nat} (hq : q < 49) (H : Nat → Prop) : (∃ d, d < 4 ∧ ∃ s, s < 49 ∧ go_nb q d = nI s ∧ H s) ↔ ∃ s, s < 49 ∧ go_ad q s ∧ H s := by
  constructor
  · rintro ⟨d, _, s, hs, e, h⟩
    rcases go_nb_c hq d with z | ⟨t, ht, z, a⟩
    · exact absurd (e.symm.trans z) (go_m1_lt hs)
    · obtain rfl : s = t := (nI_eq (by omega) (by omega)).mp (e.symm.trans z)
      exact ⟨s, hs, a, h⟩
  · rintro ⟨s, hs, a, h⟩
    obtain ⟨d, hd, e⟩ := go_nb_e hq hs a
    exact ⟨d, hd, s, hs, e, h⟩
/-- a hit among the first i directions -/
def go_h (q : Nat) (H : Nat → Prop) (i : Nat) : Prop := ∃ d, d < i ∧ ∃ s, s < 49 ∧ go_nb q d = nI s ∧ H s
theorem go_h_0 (q : Nat) (H : Nat → Prop) : ¬ go_h q H 0 := fun ⟨d, hd, _⟩ => Nat.not_lt_zero d hd
theorem go_h_m {q i : Nat} {H : Nat → Prop} (h : go_h q H i) : go_h q H (i + 1) := by
  obtain ⟨d, hd, z⟩ := h
  exact ⟨d, by omega, z⟩
theorem go_h_t {q i s : Nat} {H : Nat → Prop} (hs : s < 49) (e : go_nb q i = nI s) (h : H s) : go_h q H (i + 1) := ⟨i, by omega, s, hs, e, h⟩
theorem go_h_f {q i s : Nat} {H : Nat → Prop} (n : ¬ go_h q H i) (hs : s < 49) (e : go_nb q i = nI s) (h : ¬ H s) : ¬ go_h q H (i + 1) := by
  rintro ⟨d, hd, t, ht, e2, k⟩
  by_cases y : d = i
  · subst y
    obtain rfl : s = t := (nI_eq (by omega) (by omega)).mp (e.symm.trans e2)
    exact h k
  · exact n ⟨d, by omega, t, ht, e2, k⟩
theorem go_h_n {q i : Nat} {H : Nat → Prop} (n : ¬ go_h q H i) (e : go_nb q i = -1) : ¬ go_h q H (i + 1) := by
  rintro ⟨d, hd, t, ht, e2, k⟩
  by_cases y : d = i
  · subst y
    exact absurd (e2.symm.trans e) (go_m1_lt ht)
  · exact n ⟨d, by omega, t, ht, e2, k⟩
end
section
/-! the point q as a set; boards after set and play -/
def go_p (q : Nat) : Int64 := (1 : Int64) <<< ((nI q).toInt64 &&& 63)
theorem go_p_b {q : Nat} (hq : q < 49) (t : Nat) : go_b (go_p q) t = true ↔ t = q := by
  rcases Nat.lt_or_ge t 64 with h | h
  · unfold go_p
    rw [go_pt (by omega) h, decide_eq_true_eq]
  · unfold go_p
    rw [go_big _ h]
    exact ⟨fun z => absurd z (by decide), fun z => absurd z (by omega)⟩
theorem go_p_w {q : Nat} (hq : q < 49) : go_w (go_p q) := go_w_pt hq
theorem go_rm {x : Int64} {b : Nat → Int32} {c : Int32} {q : Nat} (hx : go_S x b c) (hc : c ≠ 2) (hq : q < 49) : go_S (x &&& (go_p q ^^^ (-1))) (upd b q 2) c := by
  intro t
  have w := go_S_w hx
  rcases Nat.lt_or_ge t 49 with ht | ht
  · rw [go_and, Bool.and_eq_true, hx t, go_not _ (by omega), Bool.not_eq_true', ← Bool.not_eq_true, go_p_b hq]
    unfold go_P
    by_cases z : t = q
    · subst z
      rw [show upd b t 2 t = 2 from if_pos rfl]
      exact ⟨fun y => absurd rfl y.2, fun y => absurd y.2.symm hc⟩
    · rw [show upd b q 2 t = b t from if_neg z]
      exact ⟨fun y => y.1, fun y => ⟨y, z⟩⟩
  · rw [go_and, w t ht, Bool.false_and]
    exact ⟨fun z => absurd z (by decide), fun z => absurd z.1 (by omega)⟩
theorem go_up_v {b : Nat → Int32} {q : Nat} {c : Int32} (hb : ∀ t, t < 49 → b t = 0 ∨ b t = 1 ∨ b t = 2) (hc : c = 0 ∨ c = 1 ∨ c = 2) : ∀ t, t < 49 → upd b q c t = 0 ∨ upd b q c t = 1 ∨ upd b q c t = 2 := by
  intro t ht
  by_cases z : t = q
  · rw [show upd b q c t = c from if_pos z]; exact hc
  · rw [show upd b q c t = b t from if_neg z]; exact hb t ht
theorem go_T_rm {x y : Int64} {b : Nat → Int32} {q : Nat} (T : go_T x y b) (hq : q < 49) : go_T (x &&& (go_p q ^^^ (-1))) (y &&& (go_p q ^^^ (-1))) (upd b q 2) := ⟨go_rm T.1 (by decide) hq, go_rm T.2.1 (by decide) hq, go_up_v T.2.2 (Or.inr (Or.inr rfl))⟩
theorem go_T_0 {x y : Int64} {b : Nat → Int32} {q : Nat} (T : go_T x y b) (hq : q < 49) (e : b q = 2) : go_T (x ||| go_p q) y (upd b q 0) :=
  ⟨go_mv_own T.1 (go_p_b hq) hq (if_pos rfl) (fun t ht => if_neg ht), go_mv_other (c := 0) T.2.1 (by rw [e]; decide) (by decide) (if_pos rfl) (fun t ht => if_neg ht), go_up_v T.2.2 (Or.inl rfl)⟩
theorem go_T_1 {x y : Int64} {b : Nat → Int32} {q : Nat} (T : go_T x y b) (hq : q < 49) (e : b q = 2) : go_T x (y ||| go_p q) (upd b q 1) :=
  ⟨go_mv_other (c := 1) T.1 (by rw [e]; decide) (by decide) (if_pos rfl) (fun t ht => if_neg ht), go_mv_own T.2.1 (go_p_b hq) hq (if_pos rfl) (fun t ht => if_neg ht), go_up_v T.2.2 (Or.inr (Or.inl rfl))⟩
/-- the stones of the player i (0 or 1), and the other's number -/
theorem go_v2 {b : Nat → Int32} (h : ∀ t, t < 49 → b t = 0 ∨ b t = 1 ∨ b t = 2) : ∀ t, t < 49 → b t = 1 ∨ b t = 0 ∨ b t = 2 := by
  intro t ht
  rcases h t ht with z | z | z
  · exact Or.inr (Or.inl z)
  · exact Or.inl z
  · exact Or.inr (Or.inr z)
/-- stones of player i and of the other one, in the row d -/
def go_U (st : Nat → Int64) (d : Nat) (b : Nat → Int32) (i : Nat) : Prop := i < 2 ∧ go_S (st (2 * d + i)) b (nI i) ∧ go_S (st (2 * d + (1 - i))) b (nI (1 - i)) ∧ (∀ t, t < 49 → b t = nI i ∨ b t = nI (1 - i) ∨ b t = 2) ∧ nI i ≠ nI (1 - i) ∧ nI i ≠ 2 ∧ nI (1 - i) ≠ 2
theorem go_U_T {st : Nat → Int64} {d : Nat} {b : Nat → Int32} (T : go_T (st (2 * d)) (st (2 * d + 1)) b) {i : Nat} (hi : i < 2) : go_U st d b i := by
  rcases (by omega : i = 0 ∨ i = 1) with rfl | rfl
  · exact ⟨hi, T.1, T.2.1, T.2.2, by decide, by decide, by decide⟩
  · exact ⟨hi, T.2.1, T.1, go_v2 T.2.2, by decide, by decide, by decide⟩
theorem go_T_U {st : Nat → Int64} {d : Nat} {b : Nat → Int32} {i : Nat} (hi : i < 2) (h1 : go_S (st (2 * d + i)) b (nI i)) (h2 : go_S (st (2 * d + (1 - i))) b (nI (1 - i))) (hb : ∀ t, t < 49 → b t = nI i ∨ b t = nI (1 - i) ∨ b t = 2) : go_T (st (2 * d)) (st (2 * d + 1)) b := by
  rcases (by omega : i = 0 ∨ i = 1) with rfl | rfl
  · exact ⟨h1, h2, hb⟩
  · refine ⟨h2, h1, fun t ht => ?_⟩
    rcases hb t ht with z | z | z
    · exact Or.inr (Or.inl z)
    · exact Or.inl z
    · exact Or.inr (Or.inr z)
/-- the free points of a board -/
theorem go_T_e {x y : Int64} {b : Nat → Int32} (T : go_T x y b) : go_S (562949953421311 &&& ((x ||| y) ^^^ (-1))) b 2 := go_S_e T.1 T.2.1 T.2.2 (by decide) (by decide)
/-- points that score for c -/
def go_sc (b : Nat → Int32) (c e : Int32) (q : Nat) : Prop := b q = c ∨ (b q = 2 ∧ go_K b c q ∧ ¬ go_K b e q)
theorem go_sc_b {x y f : Int64} {b : Nat → Int32} {c e : Int32} (hx : go_S x b c) (hy : go_S y b e) (hf : go_S f b 2) (t : Nat) (ht : t < 49) : go_b (x ||| (go_G (go_N x &&& f) f &&& (go_G (go_N y &&& f) f ^^^ (-1)))) t = true ↔ go_sc b c e t := by
  rw [go_or, Bool.or_eq_true, hx t, go_and, Bool.and_eq_true, go_not _ (by omega), Bool.not_eq_true', ← Bool.not_eq_true, go_K_b hf hx, go_K_b hf hy]
  unfold go_sc go_P
  constructor
  · rintro (h | ⟨⟨h, k⟩, n⟩)
    · exact Or.inl h.2
    · exact Or.inr ⟨h.2, k, fun z => n ⟨h, z⟩⟩
  · rintro (h | ⟨h, k, n⟩)
    · exact Or.inl ⟨ht, h⟩
    · exact Or.inr ⟨⟨⟨ht, h⟩, k⟩, fun z => n z.2⟩
theorem go_x01 {p : Int32} : p = 0 ∨ p = 1 ∨ (¬ p = 0 ∧ ¬ p = 1) := by
  by_cases h : p = 0
  · exact Or.inl h
  · by_cases h1 : p = 1
    · exact Or.inr (Or.inl h1)
    · exact Or.inr (Or.inr ⟨h, h1⟩)
theorem go_pl (p : Int32) : (∃ i, i < 2 ∧ p = nI i) ∨ (¬ p = 0 ∧ ¬ p = 1) := by
  rcases go_x01 (p := p) with h | h | h
  · exact Or.inl ⟨0, by omega, h⟩
  · exact Or.inl ⟨1, by omega, h⟩
  · exact Or.inr h
end
section
/-! the component's helpers: 'post (its value) gives the walk' -/
theorem go_49 : (49 : Int32) ≤ nI 49 := nI_le (a := 49) (b := 49) (by omega) (by omega)
theorem go_n49 {i : Nat} (h : i < 49) : ¬ (49 : Int32) ≤ nI i := nI_ge (b := 49) h (by decide)
theorem go_in {i : Nat} (h : i < 49) : vp_in (nI i) 49 := vp_in_nI h (by decide)
theorem go_cm {i : Nat} (h : i < 49) : (nI i).toNatClampNeg = i := nI_clamp (by omega)
theorem go_ix (d i : Nat) : (2 : Int32) * nI d + nI i = nI (2 * d + i) := by rw [show (2 : Int32) = nI 2 from rfl, pk_mul, nI_add]
theorem go_i2 (d : Nat) : (2 : Int32) * nI d = nI (2 * d) := by rw [show (2 : Int32) = nI 2 from rfl, pk_mul]
theorem go_oth {i : Nat} (hi : i < 2) : (1 : Int32) - nI i = nI (1 - i) := pk_sub (a := 1) (b := i) (by omega)
theorem go_x_pl1 {post : Int32 → Prop} {i : Nat} (hi : i < 2) (h : post 1) : wpX_isPlayer post (nI i) := by
  rcases (by omega : i = 0 ∨ i = 1) with rfl | rfl
  · exact br_t rfl h
  · exact br_f (by decide) (br_t rfl h)
theorem go_x_pl0 {post : Int32 → Prop} {p : Int32} (n : ¬ p = 0 ∧ ¬ p = 1) (h : post 0) : wpX_isPlayer post p := br_f n.1 (br_f n.2 h)
theorem go_x_pt1 {post : Int32 → Prop} {q : Nat} (hq : q < 49) (h : post 1) : wpX_isPoint post (nI q) := br_f (nI_pos (by omega)) (br_f (go_n49 hq) h)
theorem go_x_pt0 {post : Int32 → Prop} {x : Int32} (n : x < 0 ∨ nI 49 ≤ x) (h : post 0) : wpX_isPoint post x := by
  by_cases z : x < 0
  · exact br_t z h
  · exact br_f z (br_t (n.resolve_left z) h)
theorem go_x_ps {post : Int64 → Prop} {q : Nat} (h : post (go_p q)) : wpX_pointSet post (nI q) := h
theorem go_x_co {post : Int32 → Prop} {x : Int64} {q : Nat} (hq : q < 49) (h1 : go_b x q = true → post 1) (h0 : go_b x q = false → post 0) : wpX_contains post x (nI q) := by
  refine br_c (fun z => h0 ((go_has x (by omega)).mp z)) (fun z => h1 ?_)
  cases e : go_b x q
  · exact absurd ((go_has x (by omega)).mpr e) z
  · rfl
theorem go_x_cn {post : Int32 → Prop} {x : Int64} (h : post (nI (go_n (fun t => go_b x t = true) 49))) : wpX_count post x := by
  refine loop_0 (fun n i s => wX_count_4 post x n s (nI i)) (fun i s => s = nI (go_n (fun t => go_b x t = true) i)) 49 0 rfl ?_ ?_
  · intro n s (hs : s = _)
    subst hs
    exact br_t go_49 h
  · intro n i s hi (hs : s = _) ih
    subst hs
    refine br_f (go_n49 hi) (go_x_co hi (fun z => br_f (by decide) (nm_r (nI_1 _) (nm_r (nI_1 i) (ih _ ?_)))) (fun z => br_t rfl (nm_r (nI_1 i) (ih _ ?_))))
    · exact congrArg nI (go_n_t (P := fun t => go_b x t = true) z).symm
    · exact congrArg nI (go_n_f (P := fun t => go_b x t = true) (by rw [z]; decide)).symm
theorem go_x_nb {post : Int64 → Prop} {x : Int64} (h : post (go_N x)) : wpX_neighbours post x := by
  intro y hy
  subst hy
  exact h
theorem go_x_gr {post : Int64 → Prop} {s w : Int64} (h : post (go_G s w)) : wpX_grown post s w := by
  refine loop_0 (fun n i x => wX_grown_6 post w n x (nI i)) (fun i x => x = go_I s w i) 49 s rfl ?_ ?_
  · intro n x (hx : x = _)
    subst hx
    exact br_t go_49 h
  · intro n i x hi (hx : x = _) ih
    subst hx
    exact br_f (go_n49 hi) (go_x_nb (nm_e (nm_r (nI_1 i) (ih _ rfl))))
theorem go_x_wl {post : Int64 → Prop} {m o : Int64} (h : post (go_L m o)) : wpX_withLiberties post m o := nm_e (go_x_nb (nm_e (go_x_gr h)))
theorem go_x_so {post : Int64 → Prop} {d i : Nat} {st : Nat → Int64} {pr : Nat → Int32} (hd : d ≤ 40) (hi : i < 2) (h : post (st (2 * d + i))) : wpX_stonesOf post (nI d, st, pr) (nI i) := by
  unfold wpX_stonesOf
  dsimp only
  rw [go_ix, nI_clamp (by omega)]
  exact ⟨vp_in_nI (by omega) (by omega), h⟩
theorem go_x_em {post : Int64 → Prop} {d : Nat} {st : Nat → Int64} {pr : Nat → Int32} (hd : d ≤ 40) (h : post (562949953421311 &&& ((st (2 * d) ||| st (2 * d + 1)) ^^^ (-1)))) : wpX_emptyPoints post (nI d, st, pr) := by
  unfold wpX_emptyPoints
  dsimp only
  exact go_x_so (i := 0) hd (by omega) (go_x_so (i := 1) hd (by omega) h)
theorem go_x_ho {post : Int32 → Prop} {d q : Nat} {st : Nat → Int64} {pr b : Nat → Int32} (hd : d ≤ 40) (T : go_T (st (2 * d)) (st (2 * d + 1)) b) (hq : q < 49) (h : post (b q)) : wpX_holderOf post (nI d, st, pr) (nI q) := by
  unfold wpX_holderOf
  dsimp only
  refine go_x_so (i := 0) hd (by omega) (go_x_so (i := 1) hd (by omega) (go_x_co hq (fun z => br_f (by decide) ?_) (fun z => br_t rfl (go_x_co hq (fun y => br_f (by decide) ?_) (fun y => br_t rfl ?_)))))
  · rw [((T.1 q).mp z).2] at h; exact h
  · rw [((T.2.1 q).mp y).2] at h; exact h
  · rcases T.2.2 q hq with e | e | e
    · exact absurd (z.symm.trans ((T.1 q).mpr ⟨hq, e⟩)) (by decide)
    · exact absurd (y.symm.trans ((T.2.1 q).mpr ⟨hq, e⟩)) (by decide)
    · rw [e] at h; exact h
theorem go_x_hs {post : Int32 → Prop} {d q : Nat} {st : Nat → Int64} {pr b : Nat → Int32} (hd : d ≤ 40) (T : go_T (st (2 * d)) (st (2 * d + 1)) b) (hq : q < 49) (h1 : ¬ b q = 2 → post 1) (h0 : b q = 2 → post 0) : wpX_hasStone post (nI d, st, pr) (nI q) := by
  unfold wpX_hasStone
  dsimp only
  exact go_x_ho hd T hq (br_c h0 h1)
theorem go_x_ga {post : Int64 → Prop} {d q : Nat} {st : Nat → Int64} {pr b : Nat → Int32} (hd : d ≤ 40) (T : go_T (st (2 * d)) (st (2 * d + 1)) b) (hq : q < 49) (n2 : ¬ b q = 2) (h : ∀ x, (∀ t, go_b x t = true ↔ go_Q b q t) → post x) : wpX_groupAt post (nI d, st, pr) (nI q) := by
  unfold wpX_groupAt
  dsimp only
  refine go_x_ps (go_x_ho hd T hq (br_c (fun z => go_x_so (i := 0) hd (by omega) (go_x_gr (h _ ?_))) (fun z => go_x_so (i := 1) hd (by omega) (go_x_gr (h _ ?_)))))
  · exact go_Q_b (by rw [z]; exact T.1) (go_p_b hq) hq
  · have e : b q = 1 := by
      rcases T.2.2 q hq with e | e | e
      · exact absurd e z
      · exact e
      · exact absurd e n2
    exact go_Q_b (by rw [e]; exact T.2.1) (go_p_b hq) hq
theorem go_x_lc {post : Int32 → Prop} {d q : Nat} {st : Nat → Int64} {pr b : Nat → Int32} {x : Int64} (hd : d ≤ 40) (T : go_T (st (2 * d)) (st (2 * d + 1)) b) (hq : q < 49) (hx : ∀ t, go_b x t = true ↔ go_Q b q t) (h : post (nI (go_lib b q))) : wpX_libertyCount post (nI d, st, pr) x := by
  unfold wpX_libertyCount
  dsimp only
  refine go_x_nb (go_x_em hd (nm_e (go_x_cn ?_)))
  have e : go_n (fun t => go_b (go_N x &&& (562949953421311 &&& ((st (2 * d) ||| st (2 * d + 1)) ^^^ (-1)))) t = true) 49 = go_lib b q := go_n_c 49 (fun t ht => go_lib_b hx hq (go_T_e T) t ht)
  rw [e]
  exact h
theorem go_x_rb {post : Int64 → Prop} {d : Nat} {st : Nat → Int64} {pr : Nat → Int32} {x : Int64} (hd : d ≤ 40) (h : post (go_G (go_N x &&& (562949953421311 &&& ((st (2 * d) ||| st (2 * d + 1)) ^^^ (-1)))) (562949953421311 &&& ((st (2 * d) ||| st (2 * d + 1)) ^^^ (-1))))) : wpX_regionsBeside post (nI d, st, pr) x := by
  unfold wpX_regionsBeside
  dsimp only
  exact go_x_em hd (go_x_nb (nm_e (go_x_gr h)))
theorem go_x_bb {post : Int32 → Prop} {d i : Nat} {st : Nat → Int64} {pr : Nat → Int32} {x y : Int64} (hd : d ≤ 40) (hi : i < 2) (h1 : (0 < d ∧ st (2 * (d - 1) + i) = x ∧ st (2 * (d - 1) + (1 - i)) = y) → post 1) (h0 : ¬ (0 < d ∧ st (2 * (d - 1) + i) = x ∧ st (2 * (d - 1) + (1 - i)) = y) → post 0) : wpX_isBoardBeforeLast post (nI d, st, pr) (nI i) x y := by
  unfold wpX_isBoardBeforeLast
  dsimp only
  by_cases z : d = 0
  · subst z
    exact br_t rfl (h0 (fun w => absurd w.1 (by omega)))
  · obtain ⟨e, rfl⟩ : ∃ e, d = e + 1 := ⟨d - 1, by omega⟩
    refine br_f (nI_ne0 (by omega) (by omega)) (nm_r (e' := nI (2 * e)) (by rw [nI_pred, go_i2]) ?_)
    have e1 : nI (2 * e) + nI i = nI (2 * e + i) := nI_add _ _
    have e2 : nI (2 * e) + 1 - nI i = nI (2 * e + (1 - i)) := by
      rw [nI_1, pk_sub (by omega)]
      exact congrArg nI (by omega)
    rw [e1, e2, nI_clamp (n := 2 * e + i) (by omega), nI_clamp (n := 2 * e + (1 - i)) (by omega)]
    exact ⟨vp_in_nI (by omega) (by omega), br_c (fun a => ⟨vp_in_nI (by omega) (by omega), br_c (fun c => h1 ⟨by omega, a, c⟩) (fun c => h0 (fun w => c w.2.2))⟩) (fun a => h0 (fun w => a w.2.1))⟩
theorem go_x_am {post : Int32 → Prop} {d i q : Nat} {st : Nat → Int64} {pr b hb : Nat → Int32} (hd : d ≤ 40) (hi : i < 2) (hq : q < 49) (T : go_T (st (2 * d)) (st (2 * d + 1)) b) (TH : 0 < d → go_T (st (2 * (d - 1))) (st (2 * (d - 1) + 1)) hb) (e2 : b q = 2) (h : post (go_ans b hb d (nI i) (nI (1 - i)) q)) : wpX_answerOfMove post (nI d, st, pr) (nI i) (nI q) := by
  obtain ⟨_, hx, hy, hv, n1, n2, n3⟩ := go_U_T T hi
  obtain ⟨t1, t2, v2, tn, ta⟩ := go_mv_T hx hy hv (go_p_b hq) hq e2 n1 n2 n3
  unfold wpX_answerOfMove
  dsimp only
  rw [go_oth hi]
  refine go_x_so hd hi (go_x_ps (nm_e (go_x_so hd (by omega) (go_x_wl (go_x_wl (go_x_co hq (fun z => br_f (by decide) (go_x_bb hd hi (fun w => br_f (by decide) ?_) (fun w => br_t rfl (go_x_cn ?_)))) (fun z => br_t rfl ?_)))))))
  · obtain ⟨_, kx, ky, kv, _⟩ := go_U_T (TH w.1) hi
    rw [go_ans_k (ta.mp z) ⟨w.1, (go_same t1 t2 kx ky v2 kv).mp ⟨w.2.1.symm, w.2.2.symm⟩⟩] at h
    exact h
  · have k : ¬ (0 < d ∧ ∀ t, t < 49 → go_mv b (nI i) (nI (1 - i)) q t = hb t) := by
      rintro ⟨k1, k2⟩
      obtain ⟨_, kx, ky, kv, _⟩ := go_U_T (TH k1) hi
      have := (go_same t1 t2 kx ky v2 kv).mpr k2
      exact w ⟨k1, this.1.symm, this.2.symm⟩
    rw [go_ans_n (ta.mp z) k] at h
    rw [go_n_c 49 tn]
    exact h
  · have k : go_lib (go_mv b (nI i) (nI (1 - i)) q) q = 0 := Classical.byContradiction fun k => absurd (z.symm.trans (ta.mpr k)) (by decide)
    rw [go_ans_s k] at h
    exact h
theorem go_x_sn {post : SX → Prop} {d : Nat} {st : Nat → Int64} {pr : Nat → Int32} (hd : d < 40) (h : ∀ st' pr', (∀ i, i < 2 * d + 2 → st' i = st i) → st' (2 * d + 2) = st (2 * d) → st' (2 * d + 3) = st (2 * d + 1) → (∀ i, i < 2 * d + 2 → pr' i = pr i) → pr' (2 * d + 2) = pr (2 * d) → pr' (2 * d + 3) = pr (2 * d + 1) → post (nI (d + 1), st', pr')) : wpX_startNextRow post (nI d, st, pr) := by
  unfold wpX_startNextRow
  dsimp only
  refine nm_r (go_i2 d) ?_
  have e1 : nI (2 * d) + 1 = nI (2 * d + 1) := nI_1 _
  have e2 : nI (2 * d) + 2 = nI (2 * d + 2) := nI_add (2 * d) 2
  have e3 : nI (2 * d) + 3 = nI (2 * d + 3) := nI_add (2 * d) 3
  rw [e1, e2, e3, nI_1 d, nI_clamp (n := 2 * d) (by omega), nI_clamp (n := 2 * d + 1) (by omega), nI_clamp (n := 2 * d + 2) (by omega), nI_clamp (n := 2 * d + 3) (by omega)]
  refine ⟨vp_in_nI (by omega) (by omega), vp_in_nI (by omega) (by omega), nm_e ⟨vp_in_nI (by omega) (by omega), vp_in_nI (by omega) (by omega), nm_e ⟨vp_in_nI (by omega) (by omega), vp_in_nI (by omega) (by omega), nm_e ⟨vp_in_nI (by omega) (by omega), vp_in_nI (by omega) (by omega), nm_e (nm_e (h _ _ ?_ ?_ ?_ ?_ ?_ ?_))⟩⟩⟩⟩
  · intro i hi
    rw [pk_uLn (k := 2 * d + 3) (j := i) (by omega), pk_uLn (k := 2 * d + 2) (j := i) (by omega)]
  · rw [pk_uLn (k := 2 * d + 3) (j := 2 * d + 2) (by omega), pk_uLs]
  · rw [pk_uLs, pk_uLn (k := 2 * d + 2) (j := 2 * d + 1) (by omega)]
  · intro i hi
    rw [pk_un (k := 2 * d + 3) (j := i) (by omega), pk_un (k := 2 * d + 2) (j := i) (by omega)]
  · rw [pk_un (k := 2 * d + 3) (j := 2 * d + 2) (by omega), pk_us]
  · rw [pk_us, pk_un (k := 2 * d + 2) (j := 2 * d + 1) (by omega)]
theorem go_x_fg {post : SX → Prop} {d : Nat} {st : Nat → Int64} {pr : Nat → Int32} (hd : d ≤ 40) (h : ∀ st', st' 0 = st (2 * d) → st' 1 = st (2 * d + 1) → post (0, st', pr)) : wpX_forgetWhatWasDone post (nI d, st, pr) := by
  unfold wpX_forgetWhatWasDone
  dsimp only
  rw [go_i2, nI_1, nI_clamp (n := 2 * d) (by omega), nI_clamp (n := 2 * d + 1) (by omega)]
  refine ⟨vp_in_nI (by omega) (by omega), nm_e ⟨vp_in_nI (by omega) (by omega), nm_e (h _ ?_ ?_)⟩⟩
  · rw [pk_uLn (k := 1) (j := 0) (by omega), pk_uLs]
  · rw [pk_uLs, pk_uLn (k := 0) (j := 2 * d + 1) (by omega)]
end
section
/-! the reference's helpers -/
theorem go_vb1 : vp_nar .boolean 1 = 1 := rfl
theorem go_vb0 : vp_nar .boolean 0 = 0 := rfl
theorem go_y_pl1 {post : Int32 → Prop} {v : SY} {i : Nat} (hi : i < 2) (h : post 1) : wpY_isPlayer post v (nI i) := by
  obtain ⟨f, b, hs, g1, g2, ca, re, de, ke⟩ := v
  rcases (by omega : i = 0 ∨ i = 1) with rfl | rfl
  · exact br_t rfl h
  · exact br_f (by decide) (br_t rfl h)
theorem go_y_pl0 {post : Int32 → Prop} {v : SY} {p : Int32} (n : ¬ p = 0 ∧ ¬ p = 1) (h : post 0) : wpY_isPlayer post v p := by
  obtain ⟨f, b, hs, g1, g2, ca, re, de, ke⟩ := v
  exact br_f n.1 (br_f n.2 h)
theorem go_y_pt1 {post : Int32 → Prop} {v : SY} {q : Nat} (hq : q < 49) (h : post 1) : wpY_isPoint post v (nI q) := by
  obtain ⟨f, b, hs, g1, g2, ca, re, de, ke⟩ := v
  exact br_f (nI_pos (by omega)) (br_f (nI_nlt (a := 48) (b := q) (by omega) (by omega)) h)
theorem go_y_pt0 {post : Int32 → Prop} {v : SY} {x : Int32} (n : x < 0 ∨ nI 49 ≤ x) (h : post 0) : wpY_isPoint post v x := by
  obtain ⟨f, b, hs, g1, g2, ca, re, de, ke⟩ := v
  by_cases z : x < 0
  · exact br_t z h
  · refine br_f z (br_t ?_ h)
    have k := n.resolve_left z
    obtain ⟨j, hj, rfl⟩ := nI_of z
    exact nI_lt (a := 48) (b := j) (by have := (nI_leI (by omega) hj).mp k; omega) hj
theorem go_y_nb {post : Int32 → Prop} {v : SY} {q d : Nat} (hq : q < 49) (hd : d < 4) (h : post (go_nb q d)) : wpY_neighbour post v (nI q) (nI d) := by
  obtain ⟨f, b, hs, g1, g2, ca, re, de, ke⟩ := v
  have e7 : nI q - nI q / 7 * 7 = nI (q % 7) := pk_rem (a := q) (d := 7) (by omega) (by omega) (by omega)
  unfold go_nb at h
  unfold wpY_neighbour
  dsimp only
  rcases (by omega : d = 0 ∨ d = 1 ∨ d = 2 ∨ d = 3) with rfl | rfl | rfl | rfl
  · rw [if_pos rfl] at h
    refine br_t rfl (pk_le 7 q (fun z => ?_) (fun z => ?_))
    · rw [if_neg (by omega)] at h
      rw [show nI q - 7 = nI (q - 7) from pk_sub (a := q) (b := 7) z]
      exact h
    · rw [if_pos z] at h
      exact h
  · rw [if_neg (by omega), if_pos rfl] at h
    refine br_f (by decide) (br_t rfl (pk_le q 41 (fun z => ?_) (fun z => ?_)))
    · rw [if_neg (by omega)] at h
      rw [show nI q + 7 = nI (q + 7) from nI_add q 7]
      exact h
    · rw [if_pos z] at h
      exact h
  · rw [if_neg (by omega), if_neg (by omega), if_pos rfl] at h
    refine br_f (by decide) (br_f (by decide) (br_t rfl ⟨by decide, ?_⟩))
    rw [e7]
    refine pk_eq (q % 7) 0 (fun z => ?_) (fun z => ?_)
    · rw [if_pos z] at h
      exact h
    · rw [if_neg z] at h
      rw [show nI q - 1 = nI (q - 1) from pk_sub (a := q) (b := 1) (by omega)]
      exact h
  · rw [if_neg (by omega), if_neg (by omega), if_neg (by omega)] at h
    refine br_f (by decide) (br_f (by decide) (br_f (by decide) ⟨by decide, ?_⟩))
    rw [e7]
    refine pk_eq (q % 7) 6 (fun z => ?_) (fun z => ?_)
    · rw [if_pos z] at h
      exact h
    · rw [if_neg z] at h
      rw [nI_1 q]
      exact h
theorem go_y_bs {post : Int32 → Prop} {f : Int32} {b hs g1 g2 ca re de ke : Nat → Int32} {q : Nat} {w o : Int32} (hq : q < 49) (h1 : (∃ s, s < 49 ∧ go_ad q s ∧ b s = w ∧ (o = 0 ∨ ¬ re s = 0)) → post 1) (h0 : ¬ (∃ s, s < 49 ∧ go_ad q s ∧ b s = w ∧ (o = 0 ∨ ¬ re s = 0)) → post 0) : wpY_besides post (f, b, hs, g1, g2, ca, re, de, ke) (nI q) w o := by
  have D := go_dir hq (fun s => b s = w ∧ (o = 0 ∨ ¬ re s = 0))
  refine loop_0 (fun n i (_ : Unit) => wY_besides_3 post (nI q) w o f b hs g1 g2 ca re de ke n (nI i)) (fun i _ => ¬ go_h q (fun s => b s = w ∧ (o = 0 ∨ ¬ re s = 0)) i) 4 () (go_h_0 _ _) ?_ ?_
  · intro n _ z
    exact br_t (nI_le (a := 4) (b := 4) (by omega) (by omega)) (h0 (fun k => z (D.mpr k)))
  · intro n i _ hi z ih
    refine br_f (nI_ge (b := 4) hi (by decide)) (go_y_nb hq hi ?_)
    rcases go_nb_c hq i with e | ⟨s, hs', e, a⟩
    · rw [e]
      exact br_t (by decide) (nm_r (nI_1 i) (ih () (go_h_n z e)))
    · rw [e]
      refine br_f (nI_pos (by omega)) ⟨go_in hs', ?_⟩
      rw [go_cm hs']
      refine br_c (fun k1 => br_c (fun k2 => h1 (D.mp ⟨i, hi, s, hs', e, k1, Or.inl k2⟩)) (fun k2 => ⟨go_in hs', br_c (fun k3 => nm_r (nI_1 i) (ih () (go_h_f z hs' e (fun y => y.2.elim k2 (fun y => y k3))))) (fun k3 => h1 (D.mp ⟨i, hi, s, hs', e, k1, Or.inr k3⟩))⟩)) (fun k1 => nm_r (nI_1 i) (ih () (go_h_f z hs' e (fun y => k1 y.1))))
/-! the flood -/
theorem go_y_r44 {post : Int32 → SY → Prop} {J34 : Int32 → Int32 → (Nat → Int32) → (Nat → Int32) → (Nat → Int32) → (Nat → Int32) → (Nat → Int32) → (Nat → Int32) → (Nat → Int32) → (Nat → Int32) → Prop} {f : Int32} {b hs g1 g2 ca de ke : Nat → Int32} {q b0 : Nat} (hq : q < 49) (hJ : ∀ c R, go_W b q R c → b0 ≤ c → (c = b0 → go_cl b q R 49) → J34 (nI c) (nI b0) b hs g1 g2 ca R de ke) {R0 : Nat → Int32} (W0 : go_W b q R0 b0) : ∃ n, wY_reachFrom_44 post J34 (nI q) (nI b0) f n (nI b0) 0 b hs g1 g2 ca R0 de ke := by
  refine loop_0 (fun n i (s : Nat × (Nat → Int32)) => wY_reachFrom_44 post J34 (nI q) (nI b0) f n (nI s.1) (nI i) b hs g1 g2 ca s.2 de ke) (fun i s => go_W b q s.2 s.1 ∧ b0 ≤ s.1 ∧ (s.1 = b0 → go_cl b q s.2 i)) 49 (b0, R0) ⟨W0, Nat.le_refl _, fun _ => go_cl_0 _ _ _⟩ ?_ ?_
  · rintro n ⟨c, R⟩ ⟨w, hb, k⟩
    exact br_t go_49 (hJ c R w hb k)
  · rintro n i ⟨c, R⟩ hi ⟨w, hb, k⟩ ih
    dsimp only at w hb k
    refine br_f (go_n49 hi) ⟨go_in hi, ?_⟩
    dsimp only
    rw [go_cm hi, go_cm hq]
    refine br_c (fun z => ⟨go_in hi, go_in hq, br_c (fun e => ⟨go_in hq, go_y_bs hi (fun y => br_f (by decide) ⟨go_in hi, nm_e (nm_r (nI_1 c) (nm_r (nI_1 i) (ih (c + 1, upd R i (vp_nar .boolean 1)) ?_)))⟩) (fun y => br_t rfl (nm_r (nI_1 i) (ih (c, R) ?_)))⟩) (fun e => nm_r (nI_1 i) (ih (c, R) ?_))⟩) (fun z => nm_r (nI_1 i) (ih (c, R) ?_))
    · obtain ⟨s, y1, y2, y3, y4⟩ := y
      exact ⟨go_W_s hq w hi z e ⟨s, y1, y2, y3, y4.resolve_left (by decide)⟩ (by decide), Nat.le_succ_of_le hb, fun t => absurd (show c + 1 = b0 from t) (by omega)⟩
    · refine ⟨w, hb, fun t => go_cl_s (k t) (fun _ y2 => absurd ?_ y)⟩
      obtain ⟨s, y1, y2, y3, y4⟩ := y2
      exact ⟨s, y1, y2, y3, Or.inr y4⟩
    · exact ⟨w, hb, fun t => go_cl_s (k t) (fun e2 => absurd e2 e)⟩
    · exact ⟨w, hb, fun t => go_cl_s (k t) (fun _ _ => z)⟩
theorem go_y_r34 {post : Int32 → SY → Prop} {f : Int32} {b hs g1 g2 ca de ke : Nat → Int32} {q : Nat} (hq : q < 49) (h : ∀ R, go_F b q R → post (nI (go_n (go_Q b q) 49)) (f, b, hs, g1, g2, ca, R, de, ke)) {R0 : Nat → Int32} (W0 : go_W b q R0 1) : ∃ n, wY_reachFrom_34 post (nI q) f n 1 0 b hs g1 g2 ca R0 de ke := by
  refine loop_m (fun n (s : Nat × Nat × (Nat → Int32)) => wY_reachFrom_34 post (nI q) f n (nI s.1) (nI s.2.1) b hs g1 g2 ca s.2.2 de ke) (fun s => go_W b q s.2.2 s.1 ∧ s.2.1 ≤ s.1 ∧ (s.1 = s.2.1 → go_cl b q s.2.2 49)) (fun s => 2 * (49 - s.1) + (s.1 - s.2.1)) ?_ (1, 0, R0) ⟨W0, Nat.zero_le _, fun t => absurd (show (1 : Nat) = 0 from t) (by decide)⟩
  rintro n ⟨c, b0, R⟩ ⟨w, hb, k⟩ ih
  dsimp only at w hb k
  have hc := go_W_c w
  refine pk_le c b0 (fun z => ?_) (fun z => ?_)
  · have F := go_W_F hq w (k (by omega))
    rw [go_W_n w F]
    exact h R F
  · refine go_y_r44 hq (fun c' R' w' hb' k' => ih (c', c, R') ⟨w', hb', k'⟩ ?_) w
    have hc' := go_W_c w'
    show 2 * (49 - c') + (c' - c) < 2 * (49 - c) + (c - b0)
    omega
theorem go_y_rf {post : Int32 → SY → Prop} {f : Int32} {b hs g1 g2 ca re de ke : Nat → Int32} {q : Nat} (hq : q < 49) (h : ∀ R, go_F b q R → post (nI (go_n (go_Q b q) 49)) (f, b, hs, g1, g2, ca, R, de, ke)) : wpY_reachFrom post (f, b, hs, g1, g2, ca, re, de, ke) (nI q) := by
  refine loop_0 (fun n i (s : Nat → Int32) => wY_reachFrom_2 post (nI q) f n (nI i) b hs g1 g2 ca s de ke) (fun i s => ∀ r, r < i → (r = q → ¬ s r = 0) ∧ (r ≠ q → s r = 0)) 49 re (fun r hr => absurd hr (Nat.not_lt_zero r)) ?_ ?_
  · intro n s hs
    exact br_t go_49 (go_y_r34 hq h (go_W_0 hq ((hs q hq).1 rfl) (fun r hr => (hs r hr).2)))
  · intro n i s hi hs ih
    refine br_f (go_n49 hi) (pk_eq i q (fun z => ⟨go_in hi, nm_r (e' := upd s i 1) (by rw [go_cm hi, go_vb1]) (nm_r (nI_1 i) (ih _ ?_))⟩) (fun z => ⟨go_in hi, nm_r (e' := upd s i 0) (by rw [go_cm hi, go_vb0]) (nm_r (nI_1 i) (ih _ ?_))⟩))
    · intro r hr
      by_cases y : r = i
      · subst y
        rw [pk_us]
        exact ⟨fun _ => by decide, fun y => absurd z y⟩
      · rw [pk_un y]
        exact hs r (by omega)
    · intro r hr
      by_cases y : r = i
      · subst y
        rw [pk_us]
        exact ⟨fun y => absurd y z, fun _ => rfl⟩
      · rw [pk_un y]
        exact hs r (by omega)
end
section
/-! the reference's liberties -/
theorem go_y_c15 {post : Int32 → Prop} {J4 : Int32 → Int32 → Prop} {f : Int32} {b hs g1 g2 ca re de ke : Nat → Int32} {c r : Nat} (hr : r < 49) (h1 : go_lr b re r → J4 (nI (c + 1)) (nI (r + 1))) (h0 : ¬ go_lr b re r → J4 (nI c) (nI (r + 1))) : ∃ n, wY_countLiberties_15 post J4 (nI c) (nI r) f b hs g1 g2 ca re de ke n 0 0 := by
  have D := go_dir hr (fun s => b r = 2 ∧ ¬ re s = 0)
  have E : go_lr b re r ↔ ∃ s, s < 49 ∧ go_ad r s ∧ (b r = 2 ∧ ¬ re s = 0) := ⟨fun ⟨e, s, a1, a2, a3⟩ => ⟨s, a1, a2, e, a3⟩, fun ⟨s, a1, a2, e, a3⟩ => ⟨e, s, a1, a2, a3⟩⟩
  refine loop_0 (fun n i (s : Int32) => wY_countLiberties_15 post J4 (nI c) (nI r) f b hs g1 g2 ca re de ke n s (nI i)) (fun i s => (s = 0 ∧ ¬ go_h r (fun s => b r = 2 ∧ ¬ re s = 0) i) ∨ (s = 1 ∧ go_h r (fun s => b r = 2 ∧ ¬ re s = 0) i)) 4 0 (Or.inl ⟨rfl, go_h_0 _ _⟩) ?_ ?_
  · rintro n s (⟨rfl, z⟩ | ⟨rfl, z⟩)
    · exact br_t (nI_le (a := 4) (b := 4) (by omega) (by omega)) (br_t rfl (nm_r (nI_1 r) (h0 (fun k => z (D.mpr (E.mp k))))))
    · exact br_t (nI_le (a := 4) (b := 4) (by omega) (by omega)) (br_f (by decide) (nm_r (nI_1 c) (nm_r (nI_1 r) (h1 (E.mpr (D.mp z))))))
  · rintro n i s hi (⟨rfl, z⟩ | ⟨rfl, z⟩) ih
    · refine br_f (nI_ge (b := 4) hi (by decide)) (go_y_nb hr hi (br_t rfl ⟨go_in hr, ?_⟩))
      rw [go_cm hr]
      refine br_c (fun k => ?_) (fun k => nm_r (nI_1 i) (ih 0 (Or.inl ⟨rfl, fun ⟨_, _, _, _, _, y⟩ => k y.1⟩)))
      rcases go_nb_c hr i with e | ⟨s, hs', e, a⟩
      · rw [e]
        exact br_t (by decide) (nm_r (nI_1 i) (ih 0 (Or.inl ⟨rfl, go_h_n z e⟩)))
      · rw [e]
        refine br_f (nI_pos (by omega)) ⟨go_in hs', ?_⟩
        rw [go_cm hs']
        exact br_c (fun y => nm_r (nI_1 i) (ih 0 (Or.inl ⟨rfl, go_h_f z hs' e (fun w => w.2 y)⟩))) (fun y => nm_r (nI_1 i) (ih 1 (Or.inr ⟨rfl, go_h_t hs' e ⟨k, y⟩⟩)))
    · exact br_f (nI_ge (b := 4) hi (by decide)) (go_y_nb hr hi (br_f (by decide) (nm_r (nI_1 i) (ih 1 (Or.inr ⟨rfl, go_h_m z⟩)))))
theorem go_y_cl {post : Int32 → Prop} {f : Int32} {b hs g1 g2 ca re de ke : Nat → Int32} (h : post (nI (go_n (go_lr b re) 49))) : wpY_countLiberties post (f, b, hs, g1, g2, ca, re, de, ke) := by
  refine loop_0 (fun n i (s : Int32) => wY_countLiberties_4 post f b hs g1 g2 ca re de ke n s (nI i)) (fun i s => s = nI (go_n (go_lr b re) i)) 49 0 rfl ?_ ?_
  · intro n s (hs : s = _)
    subst hs
    exact br_t go_49 h
  · intro n i s hi (hs : s = _) ih
    subst hs
    exact br_f (go_n49 hi) (go_y_c15 hi (fun z => ih _ (congrArg nI (go_n_t z).symm)) (fun z => ih _ (congrArg nI (go_n_f z).symm)))
theorem go_y_lib {post : Int32 → Prop} {f : Int32} {b hs g1 g2 ca re de ke : Nat → Int32} {q : Nat} (hq : q < 49) (F : go_F b q re) (h : post (nI (go_lib b q))) : wpY_countLiberties post (f, b, hs, g1, g2, ca, re, de, ke) := by
  rw [← go_F_lib hq F] at h
  exact go_y_cl h
/-! a move -/
theorem go_y_p83 {post : Int32 → SY → Prop} {f : Int32} {bb hs g1 g2 ca re de ke : Nat → Int32} (h : ∀ bc, (∀ r, r < 49 → (de r = 1 → bc r = 2) ∧ (¬ de r = 1 → bc r = bb r)) → post (nI (go_n (fun r => de r = 1) 49)) (f, bc, hs, g1, g2, ca, re, de, ke)) : ∃ n, wY_putAndCapture_83 post f n 0 0 bb hs g1 g2 ca re de ke := by
  refine loop_0 (fun n i (s : Nat → Int32) => wY_putAndCapture_83 post f n (nI (go_n (fun r => de r = 1) i)) (nI i) s hs g1 g2 ca re de ke) (fun i s => ∀ r, (r < i ∧ de r = 1 → s r = 2) ∧ (¬ (r < i ∧ de r = 1) → s r = bb r)) 49 bb (fun r => ⟨fun z => absurd z.1 (Nat.not_lt_zero r), fun _ => rfl⟩) ?_ ?_
  · intro n s I
    exact br_t go_49 (h s (fun r hr => ⟨fun z => (I r).1 ⟨hr, z⟩, fun z => (I r).2 (fun y => z y.2)⟩))
  · intro n i s hi I ih
    refine br_f (go_n49 hi) ⟨go_in hi, ?_⟩
    rw [go_cm hi]
    refine br_c (fun z => ⟨go_in hi, nm_e (nm_r (nI_1 _) (nm_r (nI_1 i) ?_))⟩) (fun z => nm_r (nI_1 i) ?_)
    · rw [← go_n_t (P := fun r => de r = 1) z]
      refine ih (upd s i 2) (fun r => ?_)
      by_cases y : r = i
      · subst y
        rw [pk_us]
        exact ⟨fun _ => rfl, fun w => absurd ⟨by omega, z⟩ w⟩
      · rw [pk_un y]
        exact ⟨fun w => (I r).1 ⟨by omega, w.2⟩, fun w => (I r).2 (fun v => w ⟨by omega, v.2⟩)⟩
    · rw [← go_n_f (P := fun r => de r = 1) z]
      refine ih s (fun r => ?_)
      by_cases y : r = i
      · subst y
        exact ⟨fun w => absurd w.2 z, fun _ => (I r).2 (fun v => z v.2)⟩
      · exact ⟨fun w => (I r).1 ⟨by omega, w.2⟩, fun w => (I r).2 (fun v => w ⟨by omega, v.2⟩)⟩
theorem go_y_p30 {post : Int32 → SY → Prop} {f p e : Int32} {bb hs g1 g2 ca re ke de : Nat → Int32} (he : 1 - p = e) (h0 : ∀ r, r < 49 → de r = 0) (h : ∀ R D, (∀ r, r < 49 → (D r = 1 ↔ go_D bb e r)) → ∃ n, wY_putAndCapture_83 post f n 0 0 bb hs g1 g2 ca R D ke) : ∃ n, wY_putAndCapture_30 post p n 0 f bb hs g1 g2 ca re de ke := by
  refine loop_0 (fun n i (s : (Nat → Int32) × (Nat → Int32)) => wY_putAndCapture_30 post p n (nI i) f bb hs g1 g2 ca s.1 s.2 ke) (fun i s => ∀ r, r < 49 → (s.2 r = 1 ↔ r < i ∧ go_D bb e r)) 49 (re, de) ?_ ?_ ?_
  · intro r hr
    show de r = 1 ↔ _
    rw [h0 r hr]
    exact ⟨fun z => absurd z (by decide), fun z => absurd z.1 (Nat.not_lt_zero r)⟩
  · rintro n ⟨R, D⟩ I
    exact br_t go_49 (h R D (fun r hr => (I r hr).trans ⟨fun z => z.2, fun z => ⟨hr, z⟩⟩))
  · rintro n i ⟨R, D⟩ hi I ih
    have I' : ∀ r, r < 49 → (D r = 1 ↔ r < i ∧ go_D bb e r) := I
    refine br_f (go_n49 hi) ⟨go_in hi, ?_⟩
    rw [go_cm hi, he]
    refine br_c (fun z => go_y_rf hi (fun R' F => ?_)) (fun z => nm_r (nI_1 i) (ih (R, D) (fun r hr => ?_)))
    · dsimp only
      refine go_y_lib hi F (pk_eq (go_lib bb i) 0 (fun k => ⟨go_in hi, nm_r (e' := upd D i 1) rfl (nm_r (nI_1 i) (ih (R', upd D i 1) (fun r hr => ?_)))⟩) (fun k => ⟨go_in hi, nm_r (e' := upd D i 0) rfl (nm_r (nI_1 i) (ih (R', upd D i 0) (fun r hr => ?_)))⟩) rfl rfl (by have := go_n_le (fun l => bb l = 2 ∧ ∃ s, go_ad s l ∧ go_Q bb i s) 49; unfold go_lib; omega))
      · show upd D i 1 r = 1 ↔ _
        by_cases y : r = i
        · subst y
          rw [pk_us]
          exact ⟨fun _ => ⟨by omega, z, (go_lib_0 bb r).mp k⟩, fun _ => rfl⟩
        · rw [pk_un y, I' r hr]
          exact ⟨fun w => ⟨by omega, w.2⟩, fun w => ⟨by omega, w.2⟩⟩
      · show upd D i 0 r = 1 ↔ _
        by_cases y : r = i
        · subst y
          rw [pk_us]
          exact ⟨fun w => absurd w (by decide), fun w => absurd ((go_lib_0 bb r).mpr w.2.2) k⟩
        · rw [pk_un y, I' r hr]
          exact ⟨fun w => ⟨by omega, w.2⟩, fun w => ⟨by omega, w.2⟩⟩
    · show D r = 1 ↔ _
      rw [I' r hr]
      by_cases y : r = i
      · subst y
        exact ⟨fun w => absurd w.1 (by omega), fun w => absurd w.2.1 z⟩
      · exact ⟨fun w => ⟨by omega, w.2⟩, fun w => ⟨by omega, w.2⟩⟩
theorem go_y_pc {post : Int32 → SY → Prop} {f p e : Int32} {b hs g1 g2 ca re de ke : Nat → Int32} {q : Nat} (he : 1 - p = e) (hq : q < 49) (h : ∀ bc R D, go_C (upd b q p) bc e → post (nI (go_n (go_D (upd b q p) e) 49)) (f, bc, hs, g1, g2, ca, R, D, ke)) : wpY_putAndCapture post (f, b, hs, g1, g2, ca, re, de, ke) p (nI q) := by
  unfold wpY_putAndCapture
  dsimp only
  refine ⟨go_in hq, nm_r (e' := upd b q p) (by rw [go_cm hq]) ?_⟩
  refine loop_0 (fun n i (s : Nat → Int32) => wY_putAndCapture_9 post p f n (nI i) (upd b q p) hs g1 g2 ca re s ke) (fun i s => ∀ r, r < i → s r = 0) 49 de (fun r hr => absurd hr (Nat.not_lt_zero r)) ?_ ?_
  · intro n s I
    refine br_t go_49 (go_y_p30 he I (fun R D k => go_y_p83 (fun bc c => ?_)))
    rw [go_n_c 49 (P := fun r => D r = 1) (Q := go_D (upd b q p) e) k]
    exact h bc R D (fun r hr => ⟨fun z => (c r hr).1 ((k r hr).mpr z), fun z => (c r hr).2 (fun y => z ((k r hr).mp y))⟩)
  · intro n i s hi I ih
    refine br_f (go_n49 hi) ⟨go_in hi, nm_r (e' := upd s i 0) (by rw [go_cm hi]) (nm_r (nI_1 i) (ih _ (fun r hr => ?_)))⟩
    by_cases y : r = i
    · subst y
      exact pk_us
    · rw [pk_un y]
      exact I r (by omega)
theorem go_y_ab {post : Int32 → Prop} {f : Int32} {b hs g1 g2 ca re de ke : Nat → Int32} {m : Nat} (hm : m < 40) (h1 : (∀ t, t < 49 → b t = hs (49 * m + t)) → post 1) (h0 : ¬ (∀ t, t < 49 → b t = hs (49 * m + t)) → post 0) : wpY_isAsBefore post (f, b, hs, g1, g2, ca, re, de, ke) (nI m) := by
  refine loop_0 (fun n i (_ : Unit) => wY_isAsBefore_2 post (nI m) f b hs g1 g2 ca re de ke n (nI i)) (fun i _ => ∀ t, t < i → b t = hs (49 * m + t)) 49 () (fun r hr => absurd hr (Nat.not_lt_zero r)) ?_ ?_
  · intro n _ I
    exact br_t go_49 (h1 I)
  · intro n i _ hi I ih
    have e : (49 : Int32) * nI m + nI i = nI (49 * m + i) := by rw [show (49 : Int32) = nI 49 from rfl, pk_mul, nI_add]
    refine br_f (go_n49 hi) ⟨go_in hi, ?_⟩
    rw [e, go_cm hi, nI_clamp (n := 49 * m + i) (by omega)]
    refine ⟨vp_in_nI (by omega) (by omega), br_c (fun z => nm_r (nI_1 i) (ih () (fun t ht => ?_))) (fun z => h0 (fun k => z (k i hi)))⟩
    by_cases y : t = i
    · rw [y]; exact z
    · exact I t (by omega)
theorem go_y_tm {post : Int32 → SY → Prop} {b hs g1 g2 ca re de ke : Nat → Int32} {d i q : Nat} (hd : d ≤ 40) (hi : i < 2) (hq : q < 49) (h : ∀ bc R D K, (∀ t, t < 49 → bc t = go_mv b (nI i) (nI (1 - i)) q t) → (∀ t, t < 49 → K t = b t) → post (go_ans b (fun t => hs (49 * (d - 1) + t)) d (nI i) (nI (1 - i)) q) (nI d, bc, hs, g1, g2, ca, R, D, K)) : wpY_tryMove post (nI d, b, hs, g1, g2, ca, re, de, ke) (nI i) (nI q) := by
  refine loop_0 (fun n j (s : Nat → Int32) => wY_tryMove_2 post (nI i) (nI q) (nI d) n (nI j) b hs g1 g2 ca re de s) (fun j s => ∀ r, r < j → s r = b r) 49 ke (fun r hr => absurd hr (Nat.not_lt_zero r)) ?_ ?_
  · intro n K I
    refine br_t go_49 (go_y_pc (go_oth hi) hq (fun bc R D C => ?_))
    dsimp only
    have hm : ∀ t, t < 49 → bc t = go_mv b (nI i) (nI (1 - i)) q t := go_cap_e C
    refine go_y_rf hq (fun R' F => ?_)
    dsimp only
    have hl : go_lib bc q = go_lib (go_mv b (nI i) (nI (1 - i)) q) q := go_lib_c hm hq
    have h' := h bc R' D K hm I
    refine go_y_lib hq F (pk_eq (go_lib bc q) 0 (fun k => ?_) (fun k => ?_) rfl rfl (by have := go_n_le (fun l => bc l = 2 ∧ ∃ s, go_ad s l ∧ go_Q bc q s) 49; unfold go_lib; omega))
    · rw [go_ans_s (by rw [← hl]; exact k)] at h'
      exact h'
    · have k' : ¬ go_lib (go_mv b (nI i) (nI (1 - i)) q) q = 0 := by rw [← hl]; exact k
      refine pk_le d 0 (fun z => ?_) (fun z => ?_)
      · rw [go_ans_n k' (fun w => absurd w.1 (by omega))] at h'
        exact h'
      · rw [show nI d - 1 = nI (d - 1) from pk_sub (a := d) (b := 1) z]
        refine go_y_ab (by omega) (fun w => br_f (by decide) ?_) (fun w => br_t rfl ?_)
        · rw [go_ans_k k' ⟨z, fun t ht => (hm t ht).symm.trans (w t ht)⟩] at h'
          exact h'
        · rw [go_ans_n k' (fun v => w (fun t ht => (hm t ht).trans (v.2 t ht)))] at h'
          exact h'
  · intro n j s hj I ih
    refine br_f (go_n49 hj) ⟨go_in hj, go_in hj, nm_r (e' := upd s j (b j)) (by rw [go_cm hj]) (nm_r (nI_1 j) (ih _ (fun r hr => ?_)))⟩
    by_cases y : r = j
    · subst y
      exact pk_us
    · rw [pk_un y]
      exact I r (by omega)
theorem go_y_pb {post : SY → Prop} {f : Int32} {b hs g1 g2 ca re de ke : Nat → Int32} (h : ∀ b', (∀ t, t < 49 → b' t = ke t) → post (f, b', hs, g1, g2, ca, re, de, ke)) : wpY_putBack post (f, b, hs, g1, g2, ca, re, de, ke) := by
  refine loop_0 (fun n j (s : Nat → Int32) => wY_putBack_2 post f n (nI j) s hs g1 g2 ca re de ke) (fun j s => ∀ r, r < j → s r = ke r) 49 b (fun r hr => absurd hr (Nat.not_lt_zero r)) ?_ ?_
  · intro n s I
    exact br_t go_49 (h s I)
  · intro n j s hj I ih
    refine br_f (go_n49 hj) ⟨go_in hj, go_in hj, nm_r (e' := upd s j (ke j)) (by rw [go_cm hj]) (nm_r (nI_1 j) (ih _ (fun r hr => ?_)))⟩
    by_cases y : r = j
    · subst y
      exact pk_us
    · rw [pk_un y]
      exact I r (by omega)
theorem go_49d (d i : Nat) : (49 : Int32) * nI d + nI i = nI (49 * d + i) := by rw [show (49 : Int32) = nI 49 from rfl, pk_mul, nI_add]
theorem go_y_no {post : SY → Prop} {b hs g1 g2 ca re de ke : Nat → Int32} {d : Nat} (hd : d < 40) (h : ∀ hs', (∀ j, j < 49 * d → hs' j = hs j) → (∀ t, t < 49 → hs' (49 * d + t) = ke t) → post (nI (d + 1), b, hs', upd g1 d (ca 0), upd g2 d (ca 1), ca, re, de, ke)) : wpY_note post (nI d, b, hs, g1, g2, ca, re, de, ke) := by
  refine loop_0 (fun n j (s : Nat → Int32) => wY_note_2 post (nI d) n (nI j) b s g1 g2 ca re de ke) (fun j s => (∀ i, i < 49 * d → s i = hs i) ∧ ∀ t, t < j → s (49 * d + t) = ke t) 49 hs ⟨fun _ _ => rfl, fun r hr => absurd hr (Nat.not_lt_zero r)⟩ ?_ ?_
  · intro n s I
    have ed : (nI d).toNatClampNeg = d := nI_clamp (by omega)
    refine br_t go_49 ⟨vp_in_nI hd (by decide), nm_r (e' := upd g1 d (ca 0)) (by rw [ed]) ⟨vp_in_nI hd (by decide), nm_r (e' := upd g2 d (ca 1)) (by rw [ed]) (nm_r (nI_1 d) (h s I.1 I.2))⟩⟩
  · intro n j s hj I ih
    refine br_f (go_n49 hj) ⟨go_in hj, ?_⟩
    rw [go_49d]
    refine ⟨vp_in_nI (by omega) (by omega), nm_r (e' := upd s (49 * d + j) (ke j)) (by rw [go_cm hj, nI_clamp (n := 49 * d + j) (by omega)]) (nm_r (nI_1 j) (ih _ ⟨fun i hi => ?_, fun t ht => ?_⟩))⟩
    · rw [pk_un (by omega)]
      exact I.1 i hi
    · by_cases y : t = j
      · subst y
        exact pk_us
      · rw [pk_un (by omega)]
        exact I.2 t (by omega)
end
section
/-! the first marked point; what the marked points touch; trial -/
theorem go_y_fr {post : Int32 → Prop} {f : Int32} {b hs g1 g2 ca re de ke : Nat → Int32} {q : Nat} (hq : q < 49) (rq : ¬ re q = 0) (h : ∀ m, go_fm re m → post (nI m)) : wpY_firstReached post (f, b, hs, g1, g2, ca, re, de, ke) := by
  have L := pk_loopD (fun n i (s : Nat) => wY_firstReached_6 post f b hs g1 g2 ca re de ke n (nI s) (nI i + (-1))) (fun i s => i ≤ 49 ∧ s < 49 ∧ (∀ r, i ≤ r → r < 49 → ¬ re r = 0 → s ≤ r) ∧ (s = 48 ∨ ¬ re s = 0)) ?_ ?_ 49 48 ⟨by omega, by omega, fun r h1 h2 => absurd h2 (by omega), Or.inl rfl⟩
  · have L' : wY_firstReached_6 post f b hs g1 g2 ca re de ke (49 + 1) (nI 48) (nI 49 + (-1)) := L
    rw [show nI 49 + (-1) = nI 48 from pk_m1 48] at L'
    exact ⟨49 + 1, L'⟩
  · rintro n s ⟨_, h1, h2, h3⟩
    refine br_t (by decide) (h s ⟨h1, ?_, fun r hr => h2 r (Nat.zero_le r) hr⟩)
    rcases h3 with h3 | h3
    · have := h2 q (Nat.zero_le q) hq rq
      obtain rfl : q = s := by omega
      exact rq
    · exact h3
  · rintro n i s ⟨h0, h1, h2, h3⟩ ih
    have hi : i < 49 := by omega
    show wY_firstReached_6 post f b hs g1 g2 ca re de ke (n + 1) (nI s) (nI (i + 1) + (-1))
    rw [pk_m1]
    refine br_f (nI_pos (by omega)) ⟨go_in hi, ?_⟩
    rw [go_cm hi]
    refine br_c (fun z => nm_e (ih s ⟨by omega, h1, fun r k1 k2 k3 => ?_, h3⟩)) (fun z => nm_e (ih i ⟨by omega, hi, fun r k1 _ _ => k1, Or.inr z⟩))
    by_cases y : r = i
    · subst y
      exact absurd z k3
    · exact h2 r (by omega) k2 k3
theorem go_y_to {post : Int32 → Prop} {f : Int32} {b hs g1 g2 ca re de ke : Nat → Int32} {w : Int32} (h1 : go_tc b re w → post 1) (h0 : ¬ go_tc b re w → post 0) : wpY_touches post (f, b, hs, g1, g2, ca, re, de, ke) w := by
  refine loop_0 (fun n i (_ : Unit) => wY_touches_2 post w f b hs g1 g2 ca re de ke n (nI i)) (fun i _ => ∀ r, r < i → ¬ re r = 0 → ¬ ∃ s, s < 49 ∧ go_ad r s ∧ b s = w) 49 () (fun r hr => absurd hr (Nat.not_lt_zero r)) ?_ ?_
  · rintro n _ I
    exact br_t go_49 (h0 (fun ⟨r, hr, rr, k⟩ => I r hr rr k))
  · rintro n i _ hi I ih
    refine br_f (go_n49 hi) ⟨go_in hi, ?_⟩
    rw [go_cm hi]
    refine br_c (fun z => nm_r (nI_1 i) (ih () (fun r hr => ?_))) (fun z => go_y_bs hi (fun ⟨s, a1, a2, a3, _⟩ => br_f (by decide) (h1 ⟨i, hi, z, s, a1, a2, a3⟩)) (fun k => br_t rfl (nm_r (nI_1 i) (ih () (fun r hr => ?_)))))
    · by_cases y : r = i
      · subst y
        exact fun w => absurd z w
      · exact I r (by omega)
    · by_cases y : r = i
      · subst y
        exact fun _ ⟨s, a1, a2, a3⟩ => k ⟨s, a1, a2, a3, Or.inl rfl⟩
      · exact I r (by omega)
theorem go_y_tr {post : Int32 → SY → Prop} {b hs g1 g2 ca re de ke : Nat → Int32} {d i q : Nat} (hd : d ≤ 40) (hi : i < 2) (hq : q < 49) (h2 : ¬ b q = 2 → post (-2) (nI d, b, hs, g1, g2, ca, re, de, ke)) (h : b q = 2 → ∀ b' R D K, (∀ t, t < 49 → b' t = b t) → post (go_ans b (fun t => hs (49 * (d - 1) + t)) d (nI i) (nI (1 - i)) q) (nI d, b', hs, g1, g2, ca, R, D, K)) : wpY_trial post (nI d, b, hs, g1, g2, ca, re, de, ke) (nI i) (nI q) := by
  unfold wpY_trial
  dsimp only
  refine go_y_pl1 hi (br_f (by decide) (go_y_pt1 hq (br_f (by decide) ⟨go_in hq, ?_⟩)))
  rw [go_cm hq]
  exact br_c (fun z => go_y_tm hd hi hq (fun bc R D K hm hk => go_y_pb (fun b' hb' => h z b' R D K (fun t ht => (hb' t ht).trans (hk t ht))))) (fun z => h2 z)
/-! the relation -/
/-- d moves and passes are done; go_J says how the rows of the component's history are the reference's -/
def i_Rel (_ : Nat) (u : SX) (v : SY) : Prop := ∃ (d : Nat) (st : Nat → Int64) (pr bo hs g1 g2 ca re de ke : Nat → Int32), u = (nI d, st, pr) ∧ v = (nI d, bo, hs, g1, g2, ca, re, de, ke) ∧ go_J d st pr bo hs g1 g2 ca
theorem go_mk {k d : Nat} {st : Nat → Int64} {pr bo hs g1 g2 ca re de ke : Nat → Int32} (J : go_J d st pr bo hs g1 g2 ca) : i_Rel k (nI d, st, pr) (nI d, bo, hs, g1, g2, ca, re, de, ke) := ⟨d, st, pr, bo, hs, g1, g2, ca, re, de, ke, rfl, rfl, J⟩
theorem i_up {k : Nat} {u : SX} {v : SY} (h : i_Rel k u v) : i_Rel (k + 3) u v := h
theorem go_T00 {s : Nat → Int32} (I : ∀ r, r < 49 → s r = 2) : go_T 0 0 s := by
  refine ⟨fun t => ?_, fun t => ?_, fun t ht => Or.inr (Or.inr (I t ht))⟩
  · rw [go_0]
    exact ⟨fun z => absurd z (by decide), fun z => absurd ((I t z.1).symm.trans z.2) (by decide)⟩
  · rw [go_0]
    exact ⟨fun z => absurd z (by decide), fun z => absurd ((I t z.1).symm.trans z.2) (by decide)⟩
theorem i_vc0 : wpX_init (fun u => wpY_init (fun v => i_Rel 0 u v)) := by
  show wpY_init (fun v => i_Rel 0 (0, (fun _ => 0), (fun _ => 0)) v)
  refine loop_0 (fun n i (s : Nat → Int32) => wY_init_70 (fun v => i_Rel 0 (0, (fun _ => 0), (fun _ => 0)) v) 0 n (nI i) s (fun _ => 0) (fun _ => 0) (fun _ => 0) (fun _ => 0) (fun _ => 0) (fun _ => 0) (fun _ => 0)) (fun i s => ∀ r, r < i → s r = 2) 49 (fun _ => 0) (fun r hr => absurd hr (Nat.not_lt_zero r)) ?_ ?_
  · intro n s I
    exact br_t go_49 (go_mk (d := 0) ⟨by omega, fun n hn => absurd hn (Nat.not_lt_zero n), go_T00 I, rfl, rfl, rfl, rfl⟩)
  · intro n i s hi I ih
    refine br_f (go_n49 hi) ⟨go_in hi, nm_r (e' := upd s i 2) (by rw [go_cm hi]) (nm_r (nI_1 i) (ih _ (fun r hr => ?_)))⟩
    by_cases y : r = i
    · subst y
      exact pk_us
    · rw [pk_un y]
      exact I r (by omega)
end
section
/-! the methods: pass, undo, at, captured, groupSize, liberties, region -/
theorem go_J_d {d : Nat} {st : Nat → Int64} {pr bo hs g1 g2 ca : Nat → Int32} (J : go_J d st pr bo hs g1 g2 ca) : d ≤ 40 := J.1
theorem go_J_T {d : Nat} {st : Nat → Int64} {pr bo hs g1 g2 ca : Nat → Int32} (J : go_J d st pr bo hs g1 g2 ca) : go_T (st (2 * d)) (st (2 * d + 1)) bo := J.2.2.1
theorem go_J_H {d : Nat} {st : Nat → Int64} {pr bo hs g1 g2 ca : Nat → Int32} (J : go_J d st pr bo hs g1 g2 ca) (h : 0 < d) : go_T (st (2 * (d - 1))) (st (2 * (d - 1) + 1)) (fun t => hs (49 * (d - 1) + t)) := (J.2.1 (d - 1) (by omega)).1
theorem go_qx (x : Int32) : (∃ j, j < 49 ∧ x = nI j) ∨ (x < 0 ∨ nI 49 ≤ x) := by
  rcases pk_ix x (n := 49) (by decide) with h | h | h
  · exact Or.inr (Or.inl h)
  · exact Or.inr (Or.inr h)
  · exact Or.inl h
theorem i_vc_pass {k : Nat} {u : SX} {v : SY} (I : i_Rel k u v) (hk : k + 3 ≤ 1536) : wpX_pass (fun r u' => wpY_pass (fun r' v' => r' = r ∧ i_Rel (k + 3) u' v') v) u := by
  obtain ⟨d, st, pr, bo, hs, g1, g2, ca, re, de, ke, rfl, rfl, J⟩ := I
  have hd := go_J_d J
  unfold wpX_pass
  dsimp only
  refine pk_lt d 40 (fun z => go_x_sn z (fun st' pr' s1 s2 s3 p1 p2 p3 => ?_)) (fun z => ?_)
  · dsimp only
    unfold wpY_pass
    dsimp only
    refine br_f (fun y => absurd ((nI_eq (a := d) (b := 40) (by omega) (by omega)).mp y) (by omega)) ?_
    refine loop_0 (fun n i (s : Nat → Int32) => wY_pass_14 (fun r' v' => r' = nI (d + 1) ∧ i_Rel (k + 3) (nI (d + 1), st', pr') v') (nI d) n (nI i) bo hs g1 g2 ca re de s) (fun i s => ∀ r, r < i → s r = bo r) 49 ke (fun r hr => absurd hr (Nat.not_lt_zero r)) ?_ ?_
    · intro n K IK
      refine br_t go_49 (go_y_no z (fun hs' h1 h2 => ⟨rfl, go_mk (go_J_next J z s1 p1 h1 (fun t ht => (h2 t ht).trans (IK t ht)) (fun i hi => pk_un (by omega)) pk_us (fun i hi => pk_un (by omega)) pk_us ?_ ?_ ?_)⟩))
      · rw [s2, s3]; exact go_J_T J
      · rw [p2]; exact J.2.2.2.1
      · rw [p3]; exact J.2.2.2.2.1
    · intro n j s hj IK ih
      refine br_f (go_n49 hj) ⟨go_in hj, go_in hj, nm_r (e' := upd s j (bo j)) (by rw [go_cm hj]) (nm_r (nI_1 j) (ih _ (fun r hr => ?_)))⟩
      by_cases y : r = j
      · subst y
        exact pk_us
      · rw [pk_un y]
        exact IK r (by omega)
  · obtain rfl : d = 40 := by omega
    exact br_t rfl ⟨rfl, go_mk J⟩
theorem i_vc_undo {k : Nat} {u : SX} {v : SY} (I : i_Rel k u v) (hk : k + 3 ≤ 1536) : wpX_undo (fun r u' => wpY_undo (fun r' v' => r' = r ∧ i_Rel (k + 3) u' v') v) u := by
  obtain ⟨d, st, pr, bo, hs, g1, g2, ca, re, de, ke, rfl, rfl, J⟩ := I
  have hd := go_J_d J
  unfold wpX_undo
  dsimp only
  refine pk_eq d 0 (fun z => ?_) (fun z => ?_)
  · subst z
    exact br_t rfl ⟨rfl, go_mk J⟩
  · obtain ⟨e, rfl⟩ : ∃ e, d = e + 1 := ⟨d - 1, by omega⟩
    refine nm_r (nI_pred e) ?_
    unfold wpY_undo
    dsimp only
    refine br_f (nI_ne0 (by omega) (by omega)) (nm_r (nI_pred e) ?_)
    refine loop_0 (fun n i (s : Nat → Int32) => wY_undo_22 (fun r' v' => r' = nI e ∧ i_Rel (k + 3) (nI e, st, pr) v') (nI e) n (nI i) s hs g1 g2 ca re de ke) (fun i s => ∀ r, r < i → s r = hs (49 * e + r)) 49 bo (fun r hr => absurd hr (Nat.not_lt_zero r)) ?_ ?_
    · intro n s IS
      refine br_t go_49 ⟨vp_in_nI (by omega) (by decide), nm_e ⟨vp_in_nI (by omega) (by decide), nm_e ⟨rfl, go_mk (go_J_back J IS ?_ ?_)⟩⟩⟩
      · rw [pk_un (by decide), pk_us, nI_clamp (by omega)]
      · rw [pk_us, nI_clamp (by omega)]
    · intro n j s hj IS ih
      refine br_f (go_n49 hj) ?_
      rw [go_49d, go_cm hj, nI_clamp (n := 49 * e + j) (by omega)]
      refine ⟨vp_in_nI (by omega) (by omega), go_in hj, nm_e (nm_r (nI_1 j) (ih _ (fun r hr => ?_)))⟩
      by_cases y : r = j
      · subst y
        exact pk_us
      · rw [pk_un y]
        exact IS r (by omega)
theorem i_vc_at {k : Nat} {u : SX} {v : SY} (I : i_Rel k u v) (hk : k + 3 ≤ 1536) (v1 : Int32) : wpX_at (fun r => wpY_at (fun r' => r' = r ∧ i_Rel (k + 3) u v) v v1) u v1 := by
  obtain ⟨d, st, pr, bo, hs, g1, g2, ca, re, de, ke, rfl, rfl, J⟩ := I
  unfold wpX_at
  dsimp only
  rcases go_qx v1 with ⟨q, hq, rfl⟩ | n
  · refine go_x_pt1 hq (br_f (by decide) (go_x_ho (go_J_d J) (go_J_T J) hq ?_))
    unfold wpY_at
    dsimp only
    exact go_y_pt1 hq (br_f (by decide) ⟨go_in hq, by rw [go_cm hq], go_mk J⟩)
  · refine go_x_pt0 n (br_t rfl ?_)
    unfold wpY_at
    dsimp only
    exact go_y_pt0 n (br_t rfl ⟨rfl, go_mk J⟩)
theorem i_vc_captured {k : Nat} {u : SX} {v : SY} (I : i_Rel k u v) (hk : k + 3 ≤ 1536) (v1 : Int32) : wpX_captured (fun r => wpY_captured (fun r' => r' = r ∧ i_Rel (k + 3) u v) v v1) u v1 := by
  obtain ⟨d, st, pr, bo, hs, g1, g2, ca, re, de, ke, rfl, rfl, J⟩ := I
  have hd := go_J_d J
  unfold wpX_captured
  dsimp only
  rcases go_pl v1 with ⟨i, hi, rfl⟩ | n
  · refine go_x_pl1 hi (br_f (by decide) ?_)
    rw [go_ix, nI_clamp (n := 2 * d + i) (by omega)]
    refine ⟨vp_in_nI (by omega) (by omega), ?_⟩
    unfold wpY_captured
    dsimp only
    refine go_y_pl1 hi (br_f (by decide) ⟨vp_in_nI hi (by decide), ?_, go_mk J⟩)
    rw [nI_clamp (n := i) (by omega)]
    rcases (by omega : i = 0 ∨ i = 1) with rfl | rfl
    · exact J.2.2.2.1.symm
    · exact J.2.2.2.2.1.symm
  · refine go_x_pl0 n (br_t rfl ?_)
    unfold wpY_captured
    dsimp only
    exact go_y_pl0 n (br_t rfl ⟨rfl, go_mk J⟩)
theorem i_vc_groupSize {k : Nat} {u : SX} {v : SY} (I : i_Rel k u v) (hk : k + 3 ≤ 1536) (v1 : Int32) : wpX_groupSize (fun r => wpY_groupSize (fun r' v' => r' = r ∧ i_Rel (k + 3) u v') v v1) u v1 := by
  obtain ⟨d, st, pr, bo, hs, g1, g2, ca, re, de, ke, rfl, rfl, J⟩ := I
  unfold wpX_groupSize
  dsimp only
  rcases go_qx v1 with ⟨q, hq, rfl⟩ | n
  · refine go_x_pt1 hq (br_f (by decide) (go_x_hs (go_J_d J) (go_J_T J) hq (fun z => br_f (by decide) (go_x_ga (go_J_d J) (go_J_T J) hq z (fun x hx => go_x_cn ?_))) (fun z => br_t rfl ?_)))
    · unfold wpY_groupSize
      dsimp only
      refine go_y_pt1 hq (br_f (by decide) ⟨go_in hq, ?_⟩)
      rw [go_cm hq]
      refine br_f z (go_y_rf hq (fun R F => ⟨?_, go_mk J⟩))
      exact congrArg nI (go_n_c 49 (fun i _ => (hx i).symm))
    · unfold wpY_groupSize
      dsimp only
      refine go_y_pt1 hq (br_f (by decide) ⟨go_in hq, ?_⟩)
      rw [go_cm hq]
      exact br_t z ⟨rfl, go_mk J⟩
  · refine go_x_pt0 n (br_t rfl ?_)
    unfold wpY_groupSize
    dsimp only
    exact go_y_pt0 n (br_t rfl ⟨rfl, go_mk J⟩)
theorem i_vc_liberties {k : Nat} {u : SX} {v : SY} (I : i_Rel k u v) (hk : k + 3 ≤ 1536) (v1 : Int32) : wpX_liberties (fun r => wpY_liberties (fun r' v' => r' = r ∧ i_Rel (k + 3) u v') v v1) u v1 := by
  obtain ⟨d, st, pr, bo, hs, g1, g2, ca, re, de, ke, rfl, rfl, J⟩ := I
  unfold wpX_liberties
  dsimp only
  rcases go_qx v1 with ⟨q, hq, rfl⟩ | n
  · refine go_x_pt1 hq (br_f (by decide) (go_x_hs (go_J_d J) (go_J_T J) hq (fun z => br_f (by decide) (go_x_ga (go_J_d J) (go_J_T J) hq z (fun x hx => go_x_lc (go_J_d J) (go_J_T J) hq hx ?_))) (fun z => br_t rfl ?_)))
    · unfold wpY_liberties
      dsimp only
      refine go_y_pt1 hq (br_f (by decide) ⟨go_in hq, ?_⟩)
      rw [go_cm hq]
      exact br_f z (go_y_rf hq (fun R F => go_y_lib hq F ⟨rfl, go_mk J⟩))
    · unfold wpY_liberties
      dsimp only
      refine go_y_pt1 hq (br_f (by decide) ⟨go_in hq, ?_⟩)
      rw [go_cm hq]
      exact br_t z ⟨rfl, go_mk J⟩
  · refine go_x_pt0 n (br_t rfl ?_)
    unfold wpY_liberties
    dsimp only
    exact go_y_pt0 n (br_t rfl ⟨rfl, go_mk J⟩)
theorem i_vc_region {k : Nat} {u : SX} {v : SY} (I : i_Rel k u v) (hk : k + 3 ≤ 1536) (v1 : Int32) : wpX_region (fun r => wpY_region (fun r' v' => r' = r ∧ i_Rel (k + 3) u v') v v1) u v1 := by
  obtain ⟨d, st, pr, bo, hs, g1, g2, ca, re, de, ke, rfl, rfl, J⟩ := I
  unfold wpX_region
  dsimp only
  rcases go_qx v1 with ⟨q, hq, rfl⟩ | n
  · refine go_x_pt1 hq (br_f (by decide) (go_x_hs (go_J_d J) (go_J_T J) hq (fun z => br_f (by decide) ?_) (fun z => br_t rfl (go_x_ps (go_x_em (go_J_d J) (go_x_gr (go_x_cn ?_)))))))
    · unfold wpY_region
      dsimp only
      refine go_y_pt1 hq (br_f (by decide) ⟨go_in hq, ?_⟩)
      rw [go_cm hq]
      exact br_f z ⟨rfl, go_mk J⟩
    · unfold wpY_region
      dsimp only
      refine go_y_pt1 hq (br_f (by decide) ⟨go_in hq, ?_⟩)
      rw [go_cm hq]
      refine br_t z (go_y_rf hq (fun R F => ⟨?_, go_mk J⟩))
      exact congrArg nI (go_n_c 49 (fun i _ => (go_Q_b (by rw [z]; exact go_T_e (go_J_T J)) (go_p_b hq) hq i).symm))
  · refine go_x_pt0 n (br_t rfl ?_)
    unfold wpY_region
    dsimp only
    exact go_y_pt0 n (br_t rfl ⟨rfl, go_mk J⟩)
end
section
/-! play, trial, moves -/
theorem i_vc_trial {k : Nat} {u : SX} {v : SY} (I : i_Rel k u v) (hk : k + 3 ≤ 1536) (v1 : Int32) (v2 : Int32) : wpX_trial (fun r => wpY_trial (fun r' v' => r' = r ∧ i_Rel (k + 3) u v') v v1 v2) u v1 v2 := by
  obtain ⟨d, st, pr, bo, hs, g1, g2, ca, re, de, ke, rfl, rfl, J⟩ := I
  have hd := go_J_d J
  rcases go_pl v1 with ⟨i, hi, rfl⟩ | n
  · rcases go_qx v2 with ⟨q, hq, rfl⟩ | n2
    · unfold wpX_trial
      dsimp only
      refine go_x_pl1 hi (br_f (by decide) (go_x_pt1 hq (br_f (by decide) (go_x_hs hd (go_J_T J) hq (fun z => br_f (by decide) ?_) (fun z => br_t rfl (go_x_am hd hi hq (go_J_T J) (go_J_H J) z ?_))))))
      · exact go_y_tr hd hi hq (fun _ => ⟨rfl, go_mk J⟩) (fun y => absurd y z)
      · exact go_y_tr hd hi hq (fun y => absurd z y) (fun _ b' R D K hb => ⟨rfl, go_mk (go_J_b J (fun t ht => (hb t ht).symm))⟩)
    · unfold wpX_trial
      dsimp only
      refine go_x_pl1 hi (br_f (by decide) (go_x_pt0 n2 (br_t rfl ?_)))
      unfold wpY_trial
      dsimp only
      exact go_y_pl1 hi (br_f (by decide) (go_y_pt0 n2 (br_t rfl ⟨rfl, go_mk J⟩)))
  · unfold wpX_trial
    dsimp only
    refine go_x_pl0 n (br_t rfl ?_)
    unfold wpY_trial
    dsimp only
    exact go_y_pl0 n (br_t rfl ⟨rfl, go_mk J⟩)
/-- the moves of player i that would be done -/
def go_ok (b hb : Nat → Int32) (d i q : Nat) : Prop := b q = 2 ∧ ¬ go_ans b hb d (nI i) (nI (1 - i)) q < 0
theorem go_x_mo {post : Int32 → Prop} {d i : Nat} {st : Nat → Int64} {pr b hb : Nat → Int32} (hd : d ≤ 40) (hi : i < 2) (T : go_T (st (2 * d)) (st (2 * d + 1)) b) (TH : 0 < d → go_T (st (2 * (d - 1))) (st (2 * (d - 1) + 1)) hb) (h : post (nI (go_n (go_ok b hb d i) 49))) : ∃ n, wX_moves_13 post (nI i) (nI d) st pr n 0 0 := by
  refine loop_0 (fun n j (s : Int32) => wX_moves_13 post (nI i) (nI d) st pr n s (nI j)) (fun j s => s = nI (go_n (go_ok b hb d i) j)) 49 0 rfl ?_ ?_
  · intro n s (hs : s = _)
    subst hs
    exact br_t go_49 h
  · intro n j s hj (hs : s = _) ih
    subst hs
    refine br_f (go_n49 hj) (go_x_hs hd T hj (fun z => br_f (by decide) (nm_r (nI_1 j) (ih _ ?_))) (fun z => br_t rfl (go_x_am hd hi hj T TH z (br_c (fun y => nm_r (nI_1 j) (ih _ ?_)) (fun y => nm_r (nI_1 _) (nm_r (nI_1 j) (ih _ ?_)))))))
    · exact congrArg nI (go_n_f (P := go_ok b hb d i) (fun w => z w.1)).symm
    · exact congrArg nI (go_n_f (P := go_ok b hb d i) (fun w => w.2 y)).symm
    · exact congrArg nI (go_n_t (P := go_ok b hb d i) ⟨z, y⟩).symm
theorem go_ok_c {b b' hb : Nat → Int32} (h : ∀ t, t < 49 → b' t = b t) {d i q : Nat} (hq : q < 49) : go_ok b' hb d i q ↔ go_ok b hb d i q := by
  unfold go_ok
  rw [h q hq, go_ans_c h d (nI i) (nI (1 - i)) hq]
theorem go_y_mo {post : Int32 → SY → Prop} {b hs g1 g2 ca re de ke : Nat → Int32} {d i : Nat} (hd : d ≤ 40) (hi : i < 2) (h : ∀ b' R D K, (∀ t, t < 49 → b' t = b t) → post (nI (go_n (go_ok b (fun t => hs (49 * (d - 1) + t)) d i) 49)) (nI d, b', hs, g1, g2, ca, R, D, K)) : ∃ n, wY_moves_14 post (nI i) n 0 0 (nI d) b hs g1 g2 ca re de ke := by
  refine loop_0 (fun n j (s : (Nat → Int32) × (Nat → Int32) × (Nat → Int32) × (Nat → Int32)) => wY_moves_14 post (nI i) n (nI (go_n (go_ok b (fun t => hs (49 * (d - 1) + t)) d i) j)) (nI j) (nI d) s.1 hs g1 g2 ca s.2.1 s.2.2.1 s.2.2.2) (fun _ s => ∀ t, t < 49 → s.1 t = b t) 49 (b, re, de, ke) (fun t _ => rfl) ?_ ?_
  · rintro n ⟨b', R, D, K⟩ I
    exact br_t go_49 (h b' R D K I)
  · rintro n j ⟨b', R, D, K⟩ hj I ih
    have I' : ∀ t, t < 49 → b' t = b t := I
    refine br_f (go_n49 hj) (go_y_tr hd hi hj (fun z => ?_) (fun z b2 R2 D2 K2 hb2 => ?_))
    · refine br_t (by decide) (nm_r (nI_1 j) ?_)
      rw [← go_n_f (P := go_ok b (fun t => hs (49 * (d - 1) + t)) d i) (fun w => z ((I' j hj).trans w.1))]
      exact ih (b', R, D, K) I
    · have e : b j = 2 := (I' j hj).symm.trans z
      dsimp only
      rw [go_ans_c I' d (nI i) (nI (1 - i)) hj]
      refine br_c (fun y => nm_r (nI_1 j) ?_) (fun y => nm_r (nI_1 _) (nm_r (nI_1 j) ?_))
      · rw [← go_n_f (P := go_ok b (fun t => hs (49 * (d - 1) + t)) d i) (fun w => w.2 y)]
        exact ih (b2, R2, D2, K2) (fun t ht => (hb2 t ht).trans (I' t ht))
      · rw [← go_n_t (P := go_ok b (fun t => hs (49 * (d - 1) + t)) d i) ⟨e, y⟩]
        exact ih (b2, R2, D2, K2) (fun t ht => (hb2 t ht).trans (I' t ht))
theorem i_vc_moves {k : Nat} {u : SX} {v : SY} (I : i_Rel k u v) (hk : k + 3 ≤ 1536) (v1 : Int32) : wpX_moves (fun r => wpY_moves (fun r' v' => r' = r ∧ i_Rel (k + 3) u v') v v1) u v1 := by
  obtain ⟨d, st, pr, bo, hs, g1, g2, ca, re, de, ke, rfl, rfl, J⟩ := I
  have hd := go_J_d J
  unfold wpX_moves
  dsimp only
  rcases go_pl v1 with ⟨i, hi, rfl⟩ | n
  · refine go_x_pl1 hi (br_f (by decide) (go_x_mo hd hi (go_J_T J) (go_J_H J) ?_))
    unfold wpY_moves
    dsimp only
    exact go_y_pl1 hi (br_f (by decide) (go_y_mo hd hi (fun b' R D K hb => ⟨rfl, go_mk (go_J_b J (fun t ht => (hb t ht).symm))⟩)))
  · refine go_x_pl0 n (br_t rfl ?_)
    unfold wpY_moves
    dsimp only
    exact go_y_pl0 n (br_t rfl ⟨rfl, go_mk J⟩)
/-- the reference's play -/
theorem go_y_py {post : Int32 → SY → Prop} {b hs g1 g2 ca re de ke : Nat → Int32} {d i q : Nat} (hd : d < 40) (hi : i < 2) (hq : q < 49) (e2 : b q = 2) (hn : go_ans b (fun t => hs (49 * (d - 1) + t)) d (nI i) (nI (1 - i)) q < 0 → ∀ b' R D K, (∀ t, t < 49 → b' t = b t) → post (go_ans b (fun t => hs (49 * (d - 1) + t)) d (nI i) (nI (1 - i)) q) (nI d, b', hs, g1, g2, ca, R, D, K)) (hp : ¬ go_ans b (fun t => hs (49 * (d - 1) + t)) d (nI i) (nI (1 - i)) q < 0 → ∀ bc hs' R D K, (∀ t, t < 49 → bc t = go_mv b (nI i) (nI (1 - i)) q t) → (∀ j, j < 49 * d → hs' j = hs j) → (∀ t, t < 49 → hs' (49 * d + t) = b t) → post (go_ans b (fun t => hs (49 * (d - 1) + t)) d (nI i) (nI (1 - i)) q) (nI (d + 1), bc, hs', upd g1 d (ca 0), upd g2 d (ca 1), upd ca i (ca i + go_ans b (fun t => hs (49 * (d - 1) + t)) d (nI i) (nI (1 - i)) q), R, D, K)) : wpY_play post (nI d, b, hs, g1, g2, ca, re, de, ke) (nI i) (nI q) := by
  unfold wpY_play
  dsimp only
  refine go_y_pl1 hi (br_f (by decide) (go_y_pt1 hq (br_f (by decide) ⟨go_in hq, ?_⟩)))
  rw [go_cm hq]
  refine br_t e2 (br_f (fun y => absurd ((nI_eq (a := d) (b := 40) (by omega) (by omega)).mp y) (by omega)) (go_y_tm (by omega) hi hq (fun bc R D K hm hK => ?_)))
  dsimp only
  by_cases z : go_ans b (fun t => hs (49 * (d - 1) + t)) d (nI i) (nI (1 - i)) q < 0
  · refine br_f (fun y => absurd z (Int32.not_lt.mpr y)) (go_y_pb (fun b' hb' => ?_))
    exact hn z b' R D K (fun t ht => (hb' t ht).trans (hK t ht))
  · refine br_t (Int32.not_lt.mp z) (go_y_no hd (fun hs' h1 h2 => ?_))
    dsimp only
    rw [nI_clamp (n := i) (by omega)]
    exact ⟨vp_in_nI hi (by decide), vp_in_nI hi (by decide), nm_e (hp z bc hs' R D K hm h1 (fun t ht => (h2 t ht).trans (hK t ht)))⟩
theorem i_vc_play {k : Nat} {u : SX} {v : SY} (I : i_Rel k u v) (hk : k + 3 ≤ 1536) (v1 : Int32) (v2 : Int32) : wpX_play (fun r u' => wpY_play (fun r' v' => r' = r ∧ i_Rel (k + 3) u' v') v v1 v2) u v1 v2 := by
  obtain ⟨d, st, pr, bo, hs, g1, g2, ca, re, de, ke, rfl, rfl, J⟩ := I
  have hd := go_J_d J
  rcases go_pl v1 with ⟨i, hi, rfl⟩ | n
  · rcases go_qx v2 with ⟨q, hq, rfl⟩ | n2
    · unfold wpX_play
      dsimp only
      rw [go_oth hi]
      refine go_x_pl1 hi (br_f (by decide) (go_x_pt1 hq (br_f (by decide) (go_x_hs hd (go_J_T J) hq (fun z => br_f (by decide) ?_) (fun z => br_t rfl (pk_lt d 40 (fun y => go_x_am hd hi hq (go_J_T J) (go_J_H J) z (br_c (fun w => ?_) (fun w => go_x_so hd hi (go_x_ps (nm_e (go_x_so hd (by omega) (go_x_wl (go_x_sn y (fun st' pr' s1 s2 s3 p1 p2 p3 => ?_))))))))) (fun y => ?_)))))))
      · unfold wpY_play
        dsimp only
        refine go_y_pl1 hi (br_f (by decide) (go_y_pt1 hq (br_f (by decide) ⟨go_in hq, ?_⟩)))
        rw [go_cm hq]
        exact br_f z ⟨rfl, go_mk J⟩
      · exact go_y_py y hi hq z (fun _ b' R D K hb => ⟨rfl, go_mk (go_J_b J (fun t ht => (hb t ht).symm))⟩) (fun c => absurd w c)
      · dsimp only
        have e1 : (2 : Int32) * nI (d + 1) + nI i = nI (2 * (d + 1) + i) := go_ix _ _
        have e2 : (2 : Int32) * nI (d + 1) + 1 - nI i = nI (2 * (d + 1) + (1 - i)) := by
          rw [go_i2, nI_1, pk_sub (by omega)]
          exact congrArg nI (by omega)
        rw [e1, e2, nI_clamp (n := 2 * (d + 1) + i) (by omega), nI_clamp (n := 2 * (d + 1) + (1 - i)) (by omega)]
        refine ⟨vp_in_nI (by omega) (by omega), nm_e ⟨vp_in_nI (by omega) (by omega), nm_e ⟨vp_in_nI (by omega) (by omega), vp_in_nI (by omega) (by omega), nm_e ?_⟩⟩⟩
        refine go_y_py y hi hq z (fun c => absurd c w) (fun _ bc hs' R D K hm h1 h2 => ⟨rfl, go_mk (go_J_next J y (fun j hj => ?_) (fun j hj => ?_) h1 h2 (fun j hj => pk_un (by omega)) pk_us (fun j hj => pk_un (by omega)) pk_us ?_ ?_ ?_)⟩)
        · rw [pk_uLn (k := 2 * (d + 1) + (1 - i)) (j := j) (by omega), pk_uLn (k := 2 * (d + 1) + i) (j := j) (by omega)]
          exact s1 j hj
        · rw [pk_un (k := 2 * (d + 1) + i) (j := j) (by omega)]
          exact p1 j hj
        · obtain ⟨_, hx, hy, hv, n1, n2, n3⟩ := go_U_T (go_J_T J) hi
          obtain ⟨t1, t2, v2, _, _⟩ := go_mv_T hx hy hv (go_p_b hq) hq z n1 n2 n3
          refine go_T_c (fun t ht => (hm t ht).symm) (go_T_U (d := d + 1) hi ?_ ?_ v2)
          · rw [pk_uLn (k := 2 * (d + 1) + (1 - i)) (j := 2 * (d + 1) + i) (by omega), pk_uLs]
            exact t1
          · rw [pk_uLs]
            exact t2
        · rcases (by omega : i = 0 ∨ i = 1) with rfl | rfl
          · show upd pr' (2 * (d + 1) + 0) _ (2 * (d + 1) + 0) = _
            rw [pk_us, pk_us]
            exact congrArg (· + _) (p2.trans J.2.2.2.1)
          · show upd pr' (2 * (d + 1) + 1) _ (2 * (d + 1)) = _
            rw [pk_un (by omega), pk_un (by decide)]
            exact p2.trans J.2.2.2.1
        · rcases (by omega : i = 0 ∨ i = 1) with rfl | rfl
          · show upd pr' (2 * (d + 1) + 0) _ (2 * (d + 1) + 1) = _
            rw [pk_un (by omega), pk_un (by decide)]
            exact p3.trans J.2.2.2.2.1
          · show upd pr' (2 * (d + 1) + 1) _ (2 * (d + 1) + 1) = _
            rw [pk_us, pk_us]
            exact congrArg (· + _) (p3.trans J.2.2.2.2.1)
      · obtain rfl : d = 40 := by omega
        unfold wpY_play
        dsimp only
        refine go_y_pl1 hi (br_f (by decide) (go_y_pt1 hq (br_f (by decide) ⟨go_in hq, ?_⟩)))
        rw [go_cm hq]
        exact br_t z (br_t rfl ⟨rfl, go_mk J⟩)
    · unfold wpX_play
      dsimp only
      refine go_x_pl1 hi (br_f (by decide) (go_x_pt0 n2 (br_t rfl ?_)))
      unfold wpY_play
      dsimp only
      exact go_y_pl1 hi (br_f (by decide) (go_y_pt0 n2 (br_t rfl ⟨rfl, go_mk J⟩)))
  · unfold wpX_play
    dsimp only
    refine go_x_pl0 n (br_t rfl ?_)
    unfold wpY_play
    dsimp only
    exact go_y_pl0 n (br_t rfl ⟨rfl, go_mk J⟩)
end
section
/-! set, groups, inAtari, score -/
theorem go_y_st {post : Int32 → SY → Prop} {f : Int32} {b hs g1 g2 ca re de ke : Nat → Int32} {c q : Nat} (hc : c ≤ 2) (hq : q < 49) (h1 : (b q = 2 ↔ c < 2) → ∀ ca', ca' 0 = 0 → ca' 1 = 0 → post 0 (0, upd b q (nI c), hs, g1, g2, ca', re, de, ke)) (h0 : ¬ (b q = 2 ↔ c < 2) → post (-2) (f, b, hs, g1, g2, ca, re, de, ke)) : wpY_set post (f, b, hs, g1, g2, ca, re, de, ke) (nI c) (nI q) := by
  unfold wpY_set
  dsimp only
  refine br_f (nI_pos (by omega)) (br_f (nI_nlt (a := 2) (b := c) (by omega) (by omega)) (go_y_pt1 hq (br_f (by decide) ⟨go_in hq, ?_⟩)))
  rw [go_cm hq]
  refine br_c (fun z => pk_le 2 c (fun y => br_f (by decide) (h0 (fun w => absurd (w.mp z) (by omega)))) (fun y => br_t rfl ⟨go_in hq, nm_r (e' := upd b q (nI c)) (by rw [go_cm hq]) (nm_e (nm_e (h1 ⟨fun _ => by omega, fun _ => z⟩ _ ?_ ?_)))⟩)) (fun z => pk_le 2 c (fun y => br_t rfl ⟨go_in hq, nm_r (e' := upd b q (nI c)) (by rw [go_cm hq]) (nm_e (nm_e (h1 ⟨fun w => absurd w z, fun w => absurd w (by omega)⟩ _ ?_ ?_)))⟩) (fun y => br_f (by decide) (h0 (fun w => z (w.mpr (by omega))))))
  · rfl
  · rfl
  · rfl
  · rfl
theorem go_x_s12 {post : Int32 → SX → Prop} {d c q : Nat} {st : Nat → Int64} {pr b : Nat → Int32} (hd : d ≤ 40) (T : go_T (st (2 * d)) (st (2 * d + 1)) b) (hc : c ≤ 2) (hq : q < 49) (h1 : (b q = 2 ↔ c < 2) → ∀ st', go_T (st' 0) (st' 1) (upd b q (nI c)) → post 0 (0, st', pr)) (h0 : ¬ (b q = 2 ↔ c < 2) → post (-2) (nI d, st, pr)) : wX_set_12 post (nI c) (nI q) (nI d) st pr := by
  unfold wX_set_12
  refine go_x_pt1 hq (br_f (by decide) (go_x_hs hd T hq (fun z => pk_eq c 2 (fun y => br_t rfl (go_x_fg hd (fun st' s0 s1 => ?_))) (fun y => br_f (by decide) (h0 (fun w => z (w.mpr (by omega)))))) (fun z => pk_eq c 2 (fun y => br_f (by decide) (h0 (fun w => absurd (w.mp z) (by omega)))) (fun y => br_t rfl (go_x_fg hd (fun st' s0 s1 => ?_))))))
  · subst y
    dsimp only
    refine go_x_ps (br_t rfl (nm_e (nm_e (h1 ⟨fun w => absurd w z, fun w => absurd w (by omega)⟩ _ ?_))))
    have T' : go_T (st' 0) (st' 1) b := by rw [s0, s1]; exact T
    have R := go_T_rm T' hq
    rw [pk_uLs, pk_uLn (k := 1) (j := 0) (by decide), pk_uLs, pk_uLn (k := 0) (j := 1) (by decide)]
    exact R
  · dsimp only
    have T' : go_T (st' 0) (st' 1) b := by rw [s0, s1]; exact T
    refine go_x_ps (br_f (fun w => absurd ((nI_eq (a := c) (b := 2) (by omega) (by omega)).mp w) y) ?_)
    rw [nI_clamp (n := c) (by omega)]
    refine ⟨vp_in_nI (by omega) (by omega), vp_in_nI (by omega) (by omega), nm_e (h1 ⟨fun _ => by omega, fun _ => z⟩ _ ?_)⟩
    rcases (by omega : c = 0 ∨ c = 1) with rfl | rfl
    · rw [pk_uLs, pk_uLn (k := 0) (j := 1) (by decide)]
      exact go_T_0 T' hq z
    · rw [pk_uLs, pk_uLn (k := 1) (j := 0) (by decide)]
      exact go_T_1 T' hq z
theorem go_x_st {post : Int32 → SX → Prop} {d c q : Nat} {st : Nat → Int64} {pr b : Nat → Int32} (hd : d ≤ 40) (T : go_T (st (2 * d)) (st (2 * d + 1)) b) (hc : c ≤ 2) (hq : q < 49) (h1 : (b q = 2 ↔ c < 2) → ∀ st', go_T (st' 0) (st' 1) (upd b q (nI c)) → post 0 (0, st', pr)) (h0 : ¬ (b q = 2 ↔ c < 2) → post (-2) (nI d, st, pr)) : wpX_set post (nI d, st, pr) (nI c) (nI q) := by
  unfold wpX_set
  dsimp only
  have S := go_x_s12 hd T hc hq h1 h0
  by_cases z : c < 2
  · exact go_x_pl1 z (br_f (by decide) S)
  · obtain rfl : c = 2 := by omega
    exact go_x_pl0 ⟨by decide, by decide⟩ (br_t rfl (br_t rfl S))
theorem go_c3 (x : Int32) : (∃ c, c ≤ 2 ∧ x = nI c) ∨ ((¬ x = 0 ∧ ¬ x = 1) ∧ ¬ x = 2 ∧ (x < 0 ∨ 2 < x)) := by
  by_cases z : x < 0
  · exact Or.inr ⟨⟨fun y => by subst y; exact absurd z (by decide), fun y => by subst y; exact absurd z (by decide)⟩, fun y => by subst y; exact absurd z (by decide), Or.inl z⟩
  · obtain ⟨j, hj, rfl⟩ := nI_of z
    by_cases y : j ≤ 2
    · exact Or.inl ⟨j, y, rfl⟩
    · refine Or.inr ⟨⟨fun w => ?_, fun w => ?_⟩, fun w => ?_, Or.inr (nI_lt (a := 2) (b := j) (by omega) hj)⟩
      · exact absurd ((nI_eq (a := j) (b := 0) hj (by omega)).mp w) (by omega)
      · exact absurd ((nI_eq (a := j) (b := 1) hj (by omega)).mp w) (by omega)
      · exact absurd ((nI_eq (a := j) (b := 2) hj (by omega)).mp w) (by omega)
theorem i_vc_set {k : Nat} {u : SX} {v : SY} (I : i_Rel k u v) (hk : k + 3 ≤ 1536) (v1 : Int32) (v2 : Int32) : wpX_set (fun r u' => wpY_set (fun r' v' => r' = r ∧ i_Rel (k + 3) u' v') v v1 v2) u v1 v2 := by
  obtain ⟨d, st, pr, bo, hs, g1, g2, ca, re, de, ke, rfl, rfl, J⟩ := I
  have hd := go_J_d J
  rcases go_c3 v1 with ⟨c, hc, rfl⟩ | ⟨n, n2, n3⟩
  · rcases go_qx v2 with ⟨q, hq, rfl⟩ | m
    · refine go_x_st hd (go_J_T J) hc hq (fun e st' T => ?_) (fun e => ?_)
      · exact go_y_st hc hq (fun _ ca' c0 c1 => ⟨rfl, go_mk (d := 0) (go_J_set J T c0 c1)⟩) (fun w => absurd e w)
      · exact go_y_st hc hq (fun w => absurd w e) (fun _ => ⟨rfl, go_mk J⟩)
    · have Y : wpY_set (fun r' v' => r' = -1 ∧ i_Rel (k + 3) (nI d, st, pr) v') (nI d, bo, hs, g1, g2, ca, re, de, ke) (nI c) v2 := by
        unfold wpY_set
        dsimp only
        exact br_f (nI_pos (by omega)) (br_f (nI_nlt (a := 2) (b := c) (by omega) (by omega)) (go_y_pt0 m (br_t rfl ⟨rfl, go_mk J⟩)))
      unfold wpX_set
      dsimp only
      by_cases z : c < 2
      · exact go_x_pl1 z (br_f (by decide) (go_x_pt0 m (br_t rfl Y)))
      · obtain rfl : c = 2 := by omega
        exact go_x_pl0 ⟨by decide, by decide⟩ (br_t rfl (br_t rfl (go_x_pt0 m (br_t rfl Y))))
  · unfold wpX_set
    dsimp only
    refine go_x_pl0 n (br_t rfl (br_f n2 ?_))
    unfold wpY_set
    dsimp only
    by_cases z : v1 < 0
    · exact br_t z ⟨rfl, go_mk J⟩
    · exact br_f z (br_t (n3.resolve_left z) ⟨rfl, go_mk J⟩)
/-! groups -/
def go_gh (b : Nat → Int32) (c : Int32) (q : Nat) : Prop := b q = c ∧ go_first b q
theorem go_x_gp {post : Int32 → Prop} {d : Nat} {c : Int32} {st : Nat → Int64} {pr b : Nat → Int32} {x0 : Int64} (hd : d ≤ 40) (T : go_T (st (2 * d)) (st (2 * d + 1)) b) (hx : go_S x0 b c) (hc : c ≠ 2) (h : post (nI (go_n (go_gh b c) 49))) : ∃ n, wX_groups_21 post (nI d) st pr n x0 0 0 := by
  refine loop_0 (fun n j (s : Int64) => wX_groups_21 post (nI d) st pr n s (nI (go_n (go_gh b c) j)) (nI j)) (fun j s => ∀ t, go_b s t = true ↔ go_un b c j t) 49 x0 (fun t => (hx t).trans ⟨fun z => ⟨z, fun s hs => absurd hs (Nat.not_lt_zero s)⟩, fun z => z.1⟩) ?_ ?_
  · intro n s I
    exact br_t go_49 h
  · intro n j s hj I ih
    have I' : ∀ t, go_b s t = true ↔ go_un b c j t := I
    refine br_f (go_n49 hj) (go_x_co hj (fun z => ?_) (fun z => br_t rfl (nm_r (nI_1 j) ?_)))
    · have hu := (I' j).mp z
      have hg := (go_un_q hj).mp hu
      refine br_f (by decide) (go_x_ga hd T hj (fun w => hc (hg.1.symm.trans w)) (fun x hQ => nm_e (nm_r (nI_1 _) (nm_r (nI_1 j) ?_))))
      rw [← go_n_t (P := go_gh b c) hg]
      refine ih _ (fun t => ?_)
      rw [go_and, Bool.and_eq_true, I' t, go_un_s hj]
      constructor
      · rintro ⟨a1, a2⟩
        have ht : t < 49 := a1.1.1
        rw [go_not _ (by omega), Bool.not_eq_true', ← Bool.not_eq_true, hQ t] at a2
        exact ⟨a1, fun _ => a2⟩
      · rintro ⟨a1, a2⟩
        have ht : t < 49 := a1.1.1
        rw [go_not _ (by omega), Bool.not_eq_true', ← Bool.not_eq_true, hQ t]
        exact ⟨a1, a2 hu⟩
    · have hu : ¬ go_un b c j j := fun w => by
        rw [(I' j).mpr w] at z
        exact absurd z (by decide)
      rw [← go_n_f (P := go_gh b c) (fun w => hu ((go_un_q hj).mpr w))]
      refine ih _ (fun t => ?_)
      rw [I' t, go_un_s hj]
      exact ⟨fun w => ⟨w, fun y => absurd y hu⟩, fun w => w.1⟩
theorem go_y_gp {post : Int32 → SY → Prop} {f c : Int32} {b hs g1 g2 ca re de ke : Nat → Int32} (h : ∀ R, post (nI (go_n (go_gh b c) 49)) (f, b, hs, g1, g2, ca, R, de, ke)) : ∃ n, wY_groups_14 post c n 0 0 f b hs g1 g2 ca re de ke := by
  refine loop_0 (fun n j (s : Nat → Int32) => wY_groups_14 post c n (nI (go_n (go_gh b c) j)) (nI j) f b hs g1 g2 ca s de ke) (fun _ _ => True) 49 re trivial ?_ ?_
  · intro n s _
    exact br_t go_49 (h s)
  · intro n j s hj _ ih
    refine br_f (go_n49 hj) ⟨go_in hj, ?_⟩
    rw [go_cm hj]
    refine br_c (fun z => go_y_rf hj (fun R F => go_y_fr hj ((F j hj).mpr (go_R_s rfl)) (fun m hm => ?_))) (fun z => nm_r (nI_1 j) ?_)
    · have hF := go_F_first hj F hm
      have hm' := hm.1
      refine pk_eq m j (fun y => nm_r (nI_1 _) (nm_r (nI_1 j) ?_)) (fun y => nm_r (nI_1 j) ?_)
      · rw [← go_n_t (P := go_gh b c) ⟨z, hF.mp y⟩]
        exact ih R trivial
      · rw [← go_n_f (P := go_gh b c) (fun w => y (hF.mpr w.2))]
        exact ih R trivial
    · rw [← go_n_f (P := go_gh b c) (fun w => z w.1)]
      exact ih s trivial
theorem i_vc_groups {k : Nat} {u : SX} {v : SY} (I : i_Rel k u v) (hk : k + 3 ≤ 1536) (v1 : Int32) : wpX_groups (fun r => wpY_groups (fun r' v' => r' = r ∧ i_Rel (k + 3) u v') v v1) u v1 := by
  obtain ⟨d, st, pr, bo, hs, g1, g2, ca, re, de, ke, rfl, rfl, J⟩ := I
  have hd := go_J_d J
  unfold wpX_groups
  dsimp only
  rcases go_pl v1 with ⟨i, hi, rfl⟩ | n
  · obtain ⟨_, hx, _, _, _, n2, _⟩ := go_U_T (go_J_T J) hi
    refine go_x_pl1 hi (br_f (by decide) (go_x_so hd hi (go_x_gp hd (go_J_T J) hx n2 ?_)))
    unfold wpY_groups
    dsimp only
    exact go_y_pl1 hi (br_f (by decide) (go_y_gp (fun R => ⟨rfl, go_mk J⟩)))
  · refine go_x_pl0 n (br_t rfl ?_)
    unfold wpY_groups
    dsimp only
    exact go_y_pl0 n (br_t rfl ⟨rfl, go_mk J⟩)
/-! inAtari -/
def go_ih (b : Nat → Int32) (c : Int32) (q : Nat) : Prop := b q = c ∧ go_lib b q = 1
theorem go_lib_49 (b : Nat → Int32) (q : Nat) : go_lib b q ≤ 49 := go_n_le _ 49
theorem go_x_ia {post : Int32 → Prop} {d : Nat} {c : Int32} {st : Nat → Int64} {pr b : Nat → Int32} {x0 : Int64} (hd : d ≤ 40) (T : go_T (st (2 * d)) (st (2 * d + 1)) b) (hx : go_S x0 b c) (hc : c ≠ 2) (h : post (nI (go_n (go_ih b c) 49))) : ∃ n, wX_inAtari_21 post x0 (nI d) st pr n 0 0 := by
  refine loop_0 (fun n j (_ : Unit) => wX_inAtari_21 post x0 (nI d) st pr n (nI (go_n (go_ih b c) j)) (nI j)) (fun _ _ => True) 49 () trivial ?_ ?_
  · intro n s _
    exact br_t go_49 h
  · intro n j s hj _ ih
    have hl := go_lib_49 b j
    refine br_f (go_n49 hj) (go_x_co hj (fun z => br_f (by decide) ?_) (fun z => br_t rfl (nm_r (nI_1 j) ?_)))
    · have hP := ((hx j).mp z).2
      refine go_x_ga hd T hj (fun w => hc (hP.symm.trans w)) (fun x hQ => go_x_lc hd T hj hQ (pk_eq (go_lib b j) 1 (fun y => nm_r (nI_1 _) (nm_r (nI_1 j) ?_)) (fun y => nm_r (nI_1 j) ?_)))
      · rw [← go_n_t (P := go_ih b c) ⟨hP, y⟩]
        exact ih () trivial
      · rw [← go_n_f (P := go_ih b c) (fun w => y w.2)]
        exact ih () trivial
    · rw [← go_n_f (P := go_ih b c) (fun w => by rw [(hx j).mpr ⟨hj, w.1⟩] at z; exact absurd z (by decide))]
      exact ih () trivial
theorem go_y_ia {post : Int32 → SY → Prop} {f c : Int32} {b hs g1 g2 ca re de ke : Nat → Int32} (h : ∀ R, post (nI (go_n (go_ih b c) 49)) (f, b, hs, g1, g2, ca, R, de, ke)) : ∃ n, wY_inAtari_14 post c n 0 0 f b hs g1 g2 ca re de ke := by
  refine loop_0 (fun n j (s : Nat → Int32) => wY_inAtari_14 post c n (nI (go_n (go_ih b c) j)) (nI j) f b hs g1 g2 ca s de ke) (fun _ _ => True) 49 re trivial ?_ ?_
  · intro n s _
    exact br_t go_49 (h s)
  · intro n j s hj _ ih
    have hl := go_lib_49 b j
    refine br_f (go_n49 hj) ⟨go_in hj, ?_⟩
    rw [go_cm hj]
    refine br_c (fun z => go_y_rf hj (fun R F => go_y_lib hj F (pk_eq (go_lib b j) 1 (fun y => nm_r (nI_1 _) (nm_r (nI_1 j) ?_)) (fun y => nm_r (nI_1 j) ?_)))) (fun z => nm_r (nI_1 j) ?_)
    · rw [← go_n_t (P := go_ih b c) ⟨z, y⟩]
      exact ih R trivial
    · rw [← go_n_f (P := go_ih b c) (fun w => y w.2)]
      exact ih R trivial
    · rw [← go_n_f (P := go_ih b c) (fun w => z w.1)]
      exact ih s trivial
theorem i_vc_inAtari {k : Nat} {u : SX} {v : SY} (I : i_Rel k u v) (hk : k + 3 ≤ 1536) (v1 : Int32) : wpX_inAtari (fun r => wpY_inAtari (fun r' v' => r' = r ∧ i_Rel (k + 3) u v') v v1) u v1 := by
  obtain ⟨d, st, pr, bo, hs, g1, g2, ca, re, de, ke, rfl, rfl, J⟩ := I
  have hd := go_J_d J
  unfold wpX_inAtari
  dsimp only
  rcases go_pl v1 with ⟨i, hi, rfl⟩ | n
  · obtain ⟨_, hx, _, _, _, n2, _⟩ := go_U_T (go_J_T J) hi
    refine go_x_pl1 hi (br_f (by decide) (go_x_so hd hi (go_x_ia hd (go_J_T J) hx n2 ?_)))
    unfold wpY_inAtari
    dsimp only
    exact go_y_pl1 hi (br_f (by decide) (go_y_ia (fun R => ⟨rfl, go_mk J⟩)))
  · refine go_x_pl0 n (br_t rfl ?_)
    unfold wpY_inAtari
    dsimp only
    exact go_y_pl0 n (br_t rfl ⟨rfl, go_mk J⟩)
/-! score -/
theorem go_y_sc {post : Int32 → SY → Prop} {f c e : Int32} {b hs g1 g2 ca re de ke : Nat → Int32} (he : 1 - c = e) (hc : c ≠ 2) (h : ∀ R, post (nI (go_n (go_sc b c e) 49)) (f, b, hs, g1, g2, ca, R, de, ke)) : ∃ n, wY_score_14 post c n 0 0 f b hs g1 g2 ca re de ke := by
  refine loop_0 (fun n j (s : Nat → Int32) => wY_score_14 post c n (nI (go_n (go_sc b c e) j)) (nI j) f b hs g1 g2 ca s de ke) (fun _ _ => True) 49 re trivial ?_ ?_
  · intro n s _
    exact br_t go_49 (h s)
  · intro n j s hj _ ih
    refine br_f (go_n49 hj) ⟨go_in hj, ?_⟩
    rw [go_cm hj]
    refine br_c (fun z => nm_r (nI_1 _) ?_) (fun z => ?_)
    · unfold wY_score_33
      rw [go_cm hj]
      refine ⟨go_in hj, br_f (fun y => hc (z.symm.trans y)) (nm_r (nI_1 j) ?_)⟩
      rw [← go_n_t (P := go_sc b c e) (Or.inl z)]
      exact ih s trivial
    · unfold wY_score_33
      rw [go_cm hj, he]
      refine ⟨go_in hj, br_c (fun y => go_y_rf hj (fun R F => go_y_to (fun k1 => br_f (by decide) (go_y_to (fun k2 => br_f (by decide) (nm_r (nI_1 j) ?_)) (fun k2 => br_t rfl (nm_r (nI_1 _) (nm_r (nI_1 j) ?_))))) (fun k1 => br_t rfl (nm_r (nI_1 j) ?_)))) (fun y => nm_r (nI_1 j) ?_)⟩
      · rw [← go_n_f (P := go_sc b c e) (fun w => w.elim z (fun w => w.2.2 ((go_F_K hj F e).mp k2)))]
        exact ih R trivial
      · rw [← go_n_t (P := go_sc b c e) (Or.inr ⟨y, (go_F_K hj F c).mp k1, fun w => k2 ((go_F_K hj F e).mpr w)⟩)]
        exact ih R trivial
      · rw [← go_n_f (P := go_sc b c e) (fun w => w.elim z (fun w => k1 ((go_F_K hj F c).mpr w.2.1)))]
        exact ih R trivial
      · rw [← go_n_f (P := go_sc b c e) (fun w => w.elim z (fun w => y w.1))]
        exact ih s trivial
theorem i_vc_score {k : Nat} {u : SX} {v : SY} (I : i_Rel k u v) (hk : k + 3 ≤ 1536) (v1 : Int32) : wpX_score (fun r => wpY_score (fun r' v' => r' = r ∧ i_Rel (k + 3) u v') v v1) u v1 := by
  obtain ⟨d, st, pr, bo, hs, g1, g2, ca, re, de, ke, rfl, rfl, J⟩ := I
  have hd := go_J_d J
  unfold wpX_score
  dsimp only
  rcases go_pl v1 with ⟨i, hi, rfl⟩ | n
  · obtain ⟨_, hx, hy, _, _, n2, _⟩ := go_U_T (go_J_T J) hi
    rw [go_oth hi]
    refine go_x_pl1 hi (br_f (by decide) (go_x_so hd hi (go_x_so hd (by omega) (go_x_rb hd (go_x_rb hd (nm_e (go_x_cn ?_)))))))
    rw [go_n_c 49 (fun t ht => go_sc_b hx hy (go_T_e (go_J_T J)) t ht)]
    unfold wpY_score
    dsimp only
    exact go_y_pl1 hi (br_f (by decide) (go_y_sc (go_oth hi) n2 (fun R => ⟨rfl, go_mk J⟩)))
  · refine go_x_pl0 n (br_t rfl ?_)
    unfold wpY_score
    dsimp only
    exact go_y_pl0 n (br_t rfl ⟨rfl, go_mk J⟩)
end
section
/-! done -/
theorem i_vc_done {k : Nat} {u : SX} {v : SY} (I : i_Rel k u v) (hk : k + 3 ≤ 1536) : wpX_done (fun r => wpY_done (fun r' => r' = r ∧ i_Rel (k + 3) u v) v) u := by
  obtain ⟨d, st, pr, bo, hs, g1, g2, ca, re, de, ke, rfl, rfl, J⟩ := I
  exact ⟨rfl, go_mk J⟩
end
