/-- a long -/
def lj (z : Int) : Int64 := Int64.ofInt z
theorem lj_add (a b : Int) : lj a + lj b = lj (a + b) := (Int64.ofInt_add a b).symm
theorem lj_sub (a b : Int) : lj a - lj b = lj (a - b) := (Int64.ofInt_sub a b).symm
theorem lj_mul (a b : Int) : lj a * lj b = lj (a * b) := (Int64.ofInt_mul a b).symm
theorem lj_T {a : Int} (h1 : -2 ^ 63 ≤ a) (h2 : a < 2 ^ 63) : (lj a).toInt = a := Int64.toInt_ofInt_of_le h1 h2
theorem lj_lt {a b : Int} (ha1 : -2 ^ 63 ≤ a) (ha2 : a < 2 ^ 63) (hb1 : -2 ^ 63 ≤ b) (hb2 : b < 2 ^ 63) : lj a < lj b ↔ a < b := by
  rw [Int64.lt_iff_toInt_lt, lj_T ha1 ha2, lj_T hb1 hb2]
theorem lj_le {a b : Int} (ha1 : -2 ^ 63 ≤ a) (ha2 : a < 2 ^ 63) (hb1 : -2 ^ 63 ≤ b) (hb2 : b < 2 ^ 63) : lj a ≤ lj b ↔ a ≤ b := by
  rw [Int64.le_iff_toInt_le, lj_T ha1 ha2, lj_T hb1 hb2]
theorem lj_eq {a b : Int} (ha1 : -2 ^ 63 ≤ a) (ha2 : a < 2 ^ 63) (hb1 : -2 ^ 63 ≤ b) (hb2 : b < 2 ^ 63) : lj a = lj b ↔ a = b := by
  rw [← Int64.toInt_inj, lj_T ha1 ha2, lj_T hb1 hb2]
theorem lj_N (n : Nat) : lN n = lj (n : Int) := by
  apply Int64.toInt_inj.mp
  unfold lN lj
  rw [Int64.toInt_ofNat', Int64.toInt_ofInt]
theorem lj_0 : lj 0 = 0 := by decide
theorem lj_1 : lj 1 = 1 := by decide
/-- a division that leaves no rest -/
theorem lj_div {d q : Int} (hd : 0 < d) (hd2 : d < 2 ^ 62) (h1 : -2 ^ 62 ≤ d * q) (h2 : d * q < 2 ^ 62) : lj (d * q) / lj d = lj q := by
  unfold lj
  rw [← Int64.ofInt_tdiv (by show (-9223372036854775808 : Int) ≤ _; omega) (by show _ ≤ (9223372036854775807 : Int); omega) (by show (-9223372036854775808 : Int) ≤ _; omega) (by show _ ≤ (9223372036854775807 : Int); omega)]
  rw [Int.mul_tdiv_cancel_left q (by omega)]
/-- the share of a way as a long -/
theorem lj_sh {k : Nat} (h : k < 2 ^ 31) : (nI k).toInt64 = lj (k : Int) := by rw [nI_l h, lj_N]
theorem bi_1 : ∀ p, p < 64 → ∀ s, s < 6 → (nI p >>> (nI s &&& 31)) &&& 1 = if p.testBit s = true then 1 else 0 := by decide +kernel
theorem bi_2 : ∀ p, p < 64 → ∀ s, s < 6 → nI p ||| ((1 : Int32) <<< (nI s &&& 31)) = nI (p ||| 2 ^ s) := by decide +kernel
/-- the set p without s -/
def bi_off (p s : Nat) : Nat := p &&& (63 ^^^ 2 ^ s)
theorem bi_3 : ∀ p, p < 64 → ∀ s, s < 6 → nI p &&& (((1 : Int32) <<< (nI s &&& 31)) ^^^ (-1)) = nI (bi_off p s) := by decide +kernel
theorem bi_4 : ∀ p, p < 64 → ∀ q, q < 64 → nI p &&& (nI q ^^^ (-1)) = nI (p &&& (63 ^^^ q)) := by decide +kernel
theorem bi_5 : ∀ n, n < 7 → (1 : Int32) <<< (nI n &&& 31) = nI (2 ^ n) := by decide +kernel
theorem bi_off_t : ∀ p, p < 64 → ∀ s, s < 6 → bi_off p s < 64 ∧ ∀ t, t < 6 → (bi_off p s).testBit t = if t = s then false else p.testBit t := by decide +kernel
theorem bi_or_lt {p s : Nat} (hp : p < 64) (hs : s < 6) : p ||| 2 ^ s < 64 := by
  have h : (2 : Nat) ^ s < 2 ^ 6 := Nat.pow_lt_pow_right (by decide) hs
  exact Nat.or_lt_two_pow (n := 6) hp h
theorem bi_or_t {p s : Nat} (t : Nat) : (p ||| 2 ^ s).testBit t = if t = s then true else p.testBit t := by
  rw [Nat.testBit_or, Nat.testBit_two_pow]
  by_cases e : t = s
  · subst e; simp
  · have : ¬ s = t := fun z => e z.symm
    simp [e, this]
theorem bi_and_lt {p q : Nat} (hp : p < 64) : p &&& q < 64 := Nat.lt_of_le_of_lt Nat.and_le_left hp
theorem bi_and_t {p q t : Nat} (ht : t < 6) : (p &&& (63 ^^^ q)).testBit t = (p.testBit t && !q.testBit t) := by
  rw [Nat.testBit_and, Nat.testBit_xor]
  have : Nat.testBit 63 t = true := by
    have h : t = 0 ∨ t = 1 ∨ t = 2 ∨ t = 3 ∨ t = 4 ∨ t = 5 := by omega
    rcases h with e | e | e | e | e | e <;> subst e <;> decide
  rw [this]
  cases p.testBit t <;> cases q.testBit t <;> rfl
theorem bi_pow_le {n : Nat} (h : n ≤ 6) : 2 ^ n ≤ 64 := by
  have : (2 : Nat) ^ n ≤ 2 ^ 6 := Nat.pow_le_pow_right (by decide) h
  omega
