theorem fs_sum_app (f : Nat → Int) (a : Nat) : ∀ b : Nat, fs_sum f (a + b) = fs_sum f a + fs_sum (fun i => f (a + i)) b := by
  intro b
  induction b with
  | zero => show fs_sum f a = fs_sum f a + 0; omega
  | succ b ih =>
    show fs_sum f (a + b) + f (a + b) = fs_sum f a + (fs_sum (fun i => f (a + i)) b + f (a + b))
    rw [ih]; omega
theorem fs_sum_blk (f : Nat → Int) (a : Nat) : ∀ b : Nat, fs_sum f (a * b) = fs_sum (fun r => fs_sum (fun c => f (a * r + c)) a) b := by
  intro b
  induction b with
  | zero => rfl
  | succ b ih =>
    show fs_sum f (a * b + a) = fs_sum (fun r => fs_sum (fun c => f (a * r + c)) a) b + fs_sum (fun c => f (a * b + c)) a
    rw [fs_sum_app, ih]
/-- how many choices there are below k -/
def fs_E (b : Nat → Nat) : Nat → Nat
  | 0 => 1
  | k + 1 => fs_E b k * b k
theorem fs_E_pos {b : Nat → Nat} : ∀ k : Nat, (∀ s, s < k → 0 < b s) → 0 < fs_E b k := by
  intro k
  induction k with
  | zero => intro _; exact Nat.one_pos
  | succ k ih => intro h; exact Nat.mul_pos (ih (fun s hs => h s (by omega))) (h k (by omega))
theorem fs_E_dvd {b : Nat → Nat} (s : Nat) : ∀ k : Nat, s < k → ∃ t, fs_E b k = fs_E b s * (b s * t) := by
  intro k
  induction k with
  | zero => intro h; omega
  | succ k ih =>
    intro h
    by_cases e : s = k
    · subst e; exact ⟨1, by show fs_E b s * b s = _; rw [Nat.mul_one]⟩
    · obtain ⟨t, ht⟩ := ih (by omega)
      refine ⟨t * b k, ?_⟩
      show fs_E b k * b k = _
      rw [ht, Nat.mul_assoc, Nat.mul_assoc]
/-- the choice that a code stands for -/
def fs_dec (b : Nat → Nat) (k code : Nat) (c : Nat → Nat) : Nat → Nat := fun s => if s < k then code / fs_E b s % b s else c s
theorem fs_dec_s {b : Nat → Nat} {k : Nat} (hb : ∀ s, s < k + 1 → 0 < b s) {r q : Nat} (hr : r < b k) (hq : q < fs_E b k) (c : Nat → Nat) : fs_dec b (k + 1) (fs_E b k * r + q) c = fs_dec b k q (fs_set c k r) := by
  funext s
  unfold fs_dec
  by_cases h : s < k
  · rw [if_pos h, if_pos (by omega)]
    obtain ⟨t, ht⟩ := fs_E_dvd (b := b) s k h
    have hp := fs_E_pos (b := b) s (fun s' hs' => hb s' (by omega))
    rw [ht, Nat.mul_assoc, Nat.mul_assoc, Nat.add_comm, Nat.add_mul_div_left _ _ hp, Nat.add_mul_mod_self_left]
  · rw [if_neg h]
    by_cases e : s = k
    · subst e
      rw [if_pos (by omega), fs_set_eq, Nat.add_comm, Nat.add_mul_div_left _ _ (by omega), Nat.div_eq_of_lt hq, Nat.zero_add, Nat.mod_eq_of_lt hr]
    · rw [if_neg (by omega), fs_set_ne c r e]
theorem fs_S_code {b : Nat → Nat} (φ : (Nat → Nat) → Int) : ∀ k : Nat, (∀ s, s < k → 0 < b s) → ∀ c, fs_S b k φ c = fs_sum (fun code => φ (fs_dec b k code c)) (fs_E b k) := by
  intro k
  induction k with
  | zero =>
    intro _ c
    show φ c = 0 + φ (fs_dec b 0 0 c)
    have e : fs_dec b 0 0 c = c := by
      funext s
      unfold fs_dec
      rw [if_neg (by omega)]
    rw [e]; omega
  | succ k ih =>
    intro hb c
    show fs_sum (fun r => fs_S b k φ (fs_set c k r)) (b k) = fs_sum (fun code => φ (fs_dec b (k + 1) code c)) (fs_E b k * b k)
    rw [fs_sum_blk]
    refine fs_sum_congr _ (fun r hr => ?_)
    rw [ih (fun s hs => hb s (by omega))]
    refine fs_sum_congr _ (fun q hq => ?_)
    try dsimp only
    rw [fs_dec_s hb hr hq]
/-- a moving state has ways -/
theorem fs_M_m {n : Nat} {m : Nat → Nat} {nx : Nat → Nat → Nat} {w : Nat → Nat → Int} {G M : Nat → Bool} (H : fs_ok n m nx w G M) {s : Nat} (hs : s < n) (hM : M s = true) : 0 < m s := by
  obtain ⟨hn, hx, hw, hp, hm, hg, hl⟩ := H
  have := hl (fun s => G s = true ∨ 0 < m s) (fun s _ h => Or.inl h) (fun s k _ hk _ => Or.inr (by omega)) s hs hM
  cases this with
  | inl h => rw [hg s hM] at h; exact absurd h (by decide)
  | inr h => exact h
/-- Euclid: the product halves -/
theorem eu_half {a b k : Nat} (hb : 0 < b) (hab : b ≤ a) (h : a * b < 2 ^ (k + 1)) : a % b < b ∧ b * (a % b) < 2 ^ k := by
  have h1 := Nat.mod_lt a hb
  refine ⟨h1, ?_⟩
  have h2 : 2 * (a % b) ≤ a := by
    have h3 := Nat.div_add_mod a b
    have h4 : 1 ≤ a / b := Nat.div_pos hab hb
    have h5 : b * 1 ≤ b * (a / b) := Nat.mul_le_mul_left b h4
    omega
  have h6 : b * (2 * (a % b)) ≤ b * a := Nat.mul_le_mul_left b h2
  have h7 : b * (2 * (a % b)) = 2 * (b * (a % b)) := by rw [Nat.mul_left_comm]
  have h8 : b * a = a * b := Nat.mul_comm _ _
  rw [Nat.pow_succ] at h
  omega
theorem eu_gcd (a b : Nat) : Nat.gcd b (a % b) = Nat.gcd a b := by
  rw [Nat.gcd_comm a b, Nat.gcd_rec b a, Nat.gcd_comm]
theorem eu_low1 {a b c d : Nat} (hb : 0 < b) (c1 : Nat.Coprime a b) (c2 : Nat.Coprime c d) (h : a * d = c * b) : a = c ∧ b = d := by
  have v1 : b ∣ d := by
    have : b ∣ a * d := ⟨c, by rw [h, Nat.mul_comm]⟩
    exact (Nat.Coprime.symm c1).dvd_of_dvd_mul_left this
  have v2 : d ∣ b := by
    have : d ∣ c * b := ⟨a, by rw [← h, Nat.mul_comm]⟩
    exact (Nat.Coprime.symm c2).dvd_of_dvd_mul_left this
  have e1 : b = d := Nat.dvd_antisymm v1 v2
  subst e1
  exact ⟨Nat.eq_of_mul_eq_mul_right hb h, rfl⟩
/-- equal fractions have equal lowest terms -/
theorem eu_low {a b c d : Nat} (hb : 0 < b) (hd : 0 < d) (h : a * d = c * b) : a / Nat.gcd a b = c / Nat.gcd c d ∧ b / Nat.gcd a b = d / Nat.gcd c d := by
  have hg1 : 0 < Nat.gcd a b := Nat.gcd_pos_of_pos_right _ hb
  have hg2 : 0 < Nat.gcd c d := Nat.gcd_pos_of_pos_right _ hd
  have ea := Nat.mul_div_cancel' (Nat.gcd_dvd_left a b)
  have eb := Nat.mul_div_cancel' (Nat.gcd_dvd_right a b)
  have ec := Nat.mul_div_cancel' (Nat.gcd_dvd_left c d)
  have ed := Nat.mul_div_cancel' (Nat.gcd_dvd_right c d)
  refine eu_low1 (Nat.div_pos (Nat.le_of_dvd hb (Nat.gcd_dvd_right a b)) hg1) (Nat.coprime_div_gcd_div_gcd hg1) (Nat.coprime_div_gcd_div_gcd hg2) ?_
  have h1 : (Nat.gcd a b * (a / Nat.gcd a b)) * (Nat.gcd c d * (d / Nat.gcd c d)) = (Nat.gcd c d * (c / Nat.gcd c d)) * (Nat.gcd a b * (b / Nat.gcd a b)) := by
    rw [ea, eb, ec, ed]; exact h
  have h2 : (Nat.gcd a b * Nat.gcd c d) * ((a / Nat.gcd a b) * (d / Nat.gcd c d)) = (Nat.gcd a b * Nat.gcd c d) * ((c / Nat.gcd c d) * (b / Nat.gcd a b)) := by
    generalize Nat.gcd a b = g at h1 ⊢
    generalize Nat.gcd c d = e at h1 ⊢
    generalize a / g = x at h1 ⊢
    generalize b / g = y at h1 ⊢
    generalize c / e = z at h1 ⊢
    generalize d / e = t at h1 ⊢
    grind
  exact Nat.eq_of_mul_eq_mul_left (Nat.mul_pos hg1 hg2) h2
