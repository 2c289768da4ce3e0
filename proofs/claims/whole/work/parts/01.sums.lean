/-- the sum of f over 0 .. k-1 -/
def fs_sum (f : Nat → Int) : Nat → Int
  | 0 => 0
  | k + 1 => fs_sum f k + f k
theorem fs_sum_congr {f g : Nat → Int} : ∀ k : Nat, (∀ i, i < k → f i = g i) → fs_sum f k = fs_sum g k := by
  intro k
  induction k with
  | zero => intro _; rfl
  | succ k ih =>
    intro h
    have h1 := ih (fun i hi => h i (by omega))
    have h2 := h k (by omega)
    show fs_sum f k + f k = fs_sum g k + g k
    rw [h1, h2]
theorem fs_sum_add (f g : Nat → Int) : ∀ k : Nat, fs_sum (fun i => f i + g i) k = fs_sum f k + fs_sum g k := by
  intro k
  induction k with
  | zero => rfl
  | succ k ih =>
    show fs_sum (fun i => f i + g i) k + (f k + g k) = (fs_sum f k + f k) + (fs_sum g k + g k)
    rw [ih]; omega
theorem fs_sum_mul (a : Int) (f : Nat → Int) : ∀ k : Nat, fs_sum (fun i => a * f i) k = a * fs_sum f k := by
  intro k
  induction k with
  | zero => show (0 : Int) = a * 0; omega
  | succ k ih =>
    show fs_sum (fun i => a * f i) k + a * f k = a * (fs_sum f k + f k)
    rw [ih, Int.mul_add]
theorem fs_sum_zero : ∀ k : Nat, fs_sum (fun _ => 0) k = 0 := by
  intro k
  induction k with
  | zero => rfl
  | succ k ih =>
    show fs_sum (fun _ => 0) k + 0 = 0
    rw [ih]; rfl
theorem fs_sum_le {f g : Nat → Int} : ∀ k : Nat, (∀ i, i < k → f i ≤ g i) → fs_sum f k ≤ fs_sum g k := by
  intro k
  induction k with
  | zero => intro _; exact Int.le_refl _
  | succ k ih =>
    intro h
    have h1 := ih (fun i hi => h i (by omega))
    have h2 := h k (by omega)
    show fs_sum f k + f k ≤ fs_sum g k + g k
    omega
theorem fs_sum_lt {f g : Nat → Int} : ∀ k : Nat, (∀ i, i < k → f i ≤ g i) → ∀ j, j < k → f j < g j → fs_sum f k < fs_sum g k := by
  intro k
  induction k with
  | zero => intro _ j hj; omega
  | succ k ih =>
    intro h j hj hl
    have h2 := h k (by omega)
    show fs_sum f k + f k < fs_sum g k + g k
    by_cases e : j = k
    · rw [e] at hl
      have h1 := fs_sum_le (f := f) (g := g) k (fun i hi => h i (by omega))
      omega
    · have h1 := ih (fun i hi => h i (by omega)) j (by omega) hl
      omega
theorem fs_sum_nonneg {f : Nat → Int} (k : Nat) (h : ∀ i, i < k → 0 ≤ f i) : 0 ≤ fs_sum f k := by
  have := fs_sum_le (f := fun _ => 0) (g := f) k h
  rw [fs_sum_zero] at this
  exact this
theorem fs_sum_pos {f : Nat → Int} (k : Nat) (h : ∀ i, i < k → 0 ≤ f i) (j : Nat) (hj : j < k) (hp : 0 < f j) : 0 < fs_sum f k := by
  have := fs_sum_lt (f := fun _ => 0) (g := f) k h j hj hp
  rw [fs_sum_zero] at this
  exact this
/-- the product of f over 0 .. k-1 -/
def fs_prod (f : Nat → Int) : Nat → Int
  | 0 => 1
  | k + 1 => fs_prod f k * f k
theorem fs_prod_congr {f g : Nat → Int} : ∀ k : Nat, (∀ i, i < k → f i = g i) → fs_prod f k = fs_prod g k := by
  intro k
  induction k with
  | zero => intro _; rfl
  | succ k ih =>
    intro h
    have h1 := ih (fun i hi => h i (by omega))
    have h2 := h k (by omega)
    show fs_prod f k * f k = fs_prod g k * g k
    rw [h1, h2]
theorem fs_prod_iso (f : Nat → Int) (i : Nat) : ∀ k : Nat, i < k → fs_prod f k = f i * fs_prod (fun s => if s = i then 1 else f s) k := by
  intro k
  induction k with
  | zero => intro h; omega
  | succ k ih =>
    intro h
    show fs_prod f k * f k = f i * (fs_prod (fun s => if s = i then 1 else f s) k * (if k = i then 1 else f k))
    by_cases e : k = i
    · subst e
      rw [if_pos rfl]
      have h1 : fs_prod f k = fs_prod (fun s => if s = k then 1 else f s) k :=
        fs_prod_congr k (fun j hj => by
          have : ¬ j = k := by omega
          show f j = if j = k then 1 else f j
          rw [if_neg this])
      rw [← h1, Int.mul_one, Int.mul_comm]
    · rw [if_neg e, ih (by omega), Int.mul_assoc]
theorem fs_prod_nonneg {f : Nat → Int} : ∀ k : Nat, (∀ i, i < k → 0 ≤ f i) → 0 ≤ fs_prod f k := by
  intro k
  induction k with
  | zero => intro _; show (0 : Int) ≤ 1; decide
  | succ k ih =>
    intro h
    exact Int.mul_nonneg (ih (fun i hi => h i (by omega))) (h k (by omega))
/-- the function c with r at k -/
def fs_set (c : Nat → Nat) (k r : Nat) : Nat → Nat := fun j => if j = k then r else c j
theorem fs_set_eq (c : Nat → Nat) (k r : Nat) : fs_set c k r k = r := if_pos rfl
theorem fs_set_ne (c : Nat → Nat) {k j : Nat} (r : Nat) (h : ¬ j = k) : fs_set c k r j = c j := if_neg h
theorem fs_set_comm (c : Nat → Nat) {k i : Nat} (q r : Nat) (h : ¬ i = k) : fs_set (fs_set c i r) k q = fs_set (fs_set c k q) i r := by
  funext j
  unfold fs_set
  by_cases e : j = k
  · have : ¬ j = i := by omega
    rw [if_pos e, if_neg this, if_pos e]
  · rw [if_neg e, if_neg e]
theorem fs_set_set (c : Nat → Nat) (k q r : Nat) : fs_set (fs_set c k q) k r = fs_set c k r := by
  funext j
  unfold fs_set
  by_cases e : j = k
  · rw [if_pos e, if_pos e]
  · rw [if_neg e, if_neg e, if_neg e]
/-- the sum of φ over all choices at 0 .. k-1 (b s of them at s), elsewhere c -/
def fs_S (b : Nat → Nat) : Nat → ((Nat → Nat) → Int) → (Nat → Nat) → Int
  | 0, φ, c => φ c
  | k + 1, φ, c => fs_sum (fun r => fs_S b k φ (fs_set c k r)) (b k)
theorem fs_S_congr {b b' : Nat → Nat} {φ ψ : (Nat → Nat) → Int} (hφ : ∀ c, φ c = ψ c) : ∀ k : Nat, (∀ s, s < k → b s = b' s) → ∀ c, fs_S b k φ c = fs_S b' k ψ c := by
  intro k
  induction k with
  | zero => intro _ c; exact hφ c
  | succ k ih =>
    intro h c
    show fs_sum (fun r => fs_S b k φ (fs_set c k r)) (b k) = fs_sum (fun r => fs_S b' k ψ (fs_set c k r)) (b' k)
    rw [h k (by omega)]
    exact fs_sum_congr _ (fun i _ => ih (fun s hs => h s (by omega)) _)
theorem fs_S_add (b : Nat → Nat) (φ ψ : (Nat → Nat) → Int) : ∀ (k : Nat) (c : Nat → Nat), fs_S b k (fun c => φ c + ψ c) c = fs_S b k φ c + fs_S b k ψ c := by
  intro k
  induction k with
  | zero => intro c; rfl
  | succ k ih =>
    intro c
    show fs_sum (fun r => fs_S b k (fun c => φ c + ψ c) (fs_set c k r)) (b k) = fs_sum (fun r => fs_S b k φ (fs_set c k r)) (b k) + fs_sum (fun r => fs_S b k ψ (fs_set c k r)) (b k)
    rw [← fs_sum_add]
    exact fs_sum_congr _ (fun i _ => ih _)
theorem fs_S_mul (b : Nat → Nat) (a : Int) (φ : (Nat → Nat) → Int) : ∀ (k : Nat) (c : Nat → Nat), fs_S b k (fun c => a * φ c) c = a * fs_S b k φ c := by
  intro k
  induction k with
  | zero => intro c; rfl
  | succ k ih =>
    intro c
    show fs_sum (fun r => fs_S b k (fun c => a * φ c) (fs_set c k r)) (b k) = a * fs_sum (fun r => fs_S b k φ (fs_set c k r)) (b k)
    rw [← fs_sum_mul]
    exact fs_sum_congr _ (fun i _ => ih _)
theorem fs_S_zero (b : Nat → Nat) : ∀ (k : Nat) (c : Nat → Nat), fs_S b k (fun _ => 0) c = 0 := by
  intro k
  induction k with
  | zero => intro c; rfl
  | succ k ih =>
    intro c
    have h1 : fs_sum (fun r => fs_S b k (fun _ => 0) (fs_set c k r)) (b k) = fs_sum (fun _ => 0) (b k) := fs_sum_congr _ (fun i _ => ih _)
    show fs_sum (fun r => fs_S b k (fun _ => 0) (fs_set c k r)) (b k) = 0
    rw [h1, fs_sum_zero]
theorem fs_S_sum (b : Nat → Nat) (φ : Nat → (Nat → Nat) → Int) (k : Nat) (c : Nat → Nat) : ∀ q : Nat, fs_S b k (fun c => fs_sum (fun r => φ r c) q) c = fs_sum (fun r => fs_S b k (φ r) c) q := by
  intro q
  induction q with
  | zero => exact fs_S_zero b k c
  | succ q ih =>
    show fs_S b k (fun c => fs_sum (fun r => φ r c) q + φ q c) c = fs_sum (fun r => fs_S b k (φ r) c) q + fs_S b k (φ q) c
    rw [fs_S_add b (fun c => fs_sum (fun r => φ r c) q) (φ q), ih]
theorem fs_S_le {b : Nat → Nat} {φ ψ : (Nat → Nat) → Int} (h : ∀ c, φ c ≤ ψ c) : ∀ (k : Nat) (c : Nat → Nat), fs_S b k φ c ≤ fs_S b k ψ c := by
  intro k
  induction k with
  | zero => intro c; exact h c
  | succ k ih =>
    intro c
    exact fs_sum_le _ (fun i _ => ih _)
theorem fs_S_far (b : Nat → Nat) (φ : (Nat → Nat) → Int) (i r : Nat) : ∀ k : Nat, k ≤ i → ∀ c : Nat → Nat, fs_S b k φ (fs_set c i r) = fs_S b k (fun c' => φ (fs_set c' i r)) c := by
  intro k
  induction k with
  | zero => intro _ c; rfl
  | succ k ih =>
    intro h c
    show fs_sum (fun q => fs_S b k φ (fs_set (fs_set c i r) k q)) (b k) = fs_sum (fun q => fs_S b k (fun c' => φ (fs_set c' i r)) (fs_set c k q)) (b k)
    exact fs_sum_congr _ (fun q _ => by
      rw [fs_set_comm c q r (by omega)]
      exact ih (by omega) _)
theorem fs_S_iso (b : Nat → Nat) (φ : (Nat → Nat) → Int) (i : Nat) : ∀ k : Nat, i < k → ∀ c : Nat → Nat, fs_S b k φ c = fs_S (fs_set b i 1) k (fun c' => fs_sum (fun r => φ (fs_set c' i r)) (b i)) c := by
  intro k
  induction k with
  | zero => intro h; omega
  | succ k ih =>
    intro h c
    show fs_sum (fun r => fs_S b k φ (fs_set c k r)) (b k) = fs_sum (fun r => fs_S (fs_set b i 1) k (fun c' => fs_sum (fun r => φ (fs_set c' i r)) (b i)) (fs_set c k r)) (fs_set b i 1 k)
    by_cases e : i = k
    · subst e
      rw [fs_set_eq]
      show fs_sum (fun r => fs_S b i φ (fs_set c i r)) (b i) = 0 + fs_S (fs_set b i 1) i (fun c' => fs_sum (fun r => φ (fs_set c' i r)) (b i)) (fs_set c i 0)
      rw [Int.zero_add, fs_S_far _ _ i 0 i (Nat.le_refl _)]
      have h1 : fs_S (fs_set b i 1) i (fun c' => fs_sum (fun r => φ (fs_set (fs_set c' i 0) i r)) (b i)) c = fs_S b i (fun c' => fs_sum (fun r => φ (fs_set c' i r)) (b i)) c :=
        fs_S_congr (fun c' => fs_sum_congr _ (fun r _ => by rw [fs_set_set])) i (fun s hs => fs_set_ne b 1 (by omega)) c
      rw [h1, fs_S_sum b (fun r c' => φ (fs_set c' i r)) i c (b i)]
      exact fs_sum_congr _ (fun r _ => fs_S_far b φ i r i (Nat.le_refl _) c)
    · rw [fs_set_ne b 1 (fun z => e z.symm)]
      exact fs_sum_congr _ (fun r _ => ih (by omega) _)
