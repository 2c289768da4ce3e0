section
theorem pk_us {f : Nat → Int32} {k : Nat} {x : Int32} : upd f k x k = x := if_pos rfl
theorem pk_un {f : Nat → Int32} {k j : Nat} {x : Int32} (h : j ≠ k) : upd f k x j = f j := if_neg h
theorem pk_uLs {f : Nat → Int64} {k : Nat} {x : Int64} : vp_updL f k x k = x := if_pos rfl
theorem pk_uLn {f : Nat → Int64} {k j : Nat} {x : Int64} (h : j ≠ k) : vp_updL f k x j = f j := if_neg h
theorem pk_sub {a b : Nat} (h : b ≤ a) : nI a - nI b = nI (a - b) := by
  obtain ⟨c, rfl⟩ : ∃ c, a = c + b := ⟨a - b, by omega⟩
  rw [← nI_add, Int32.add_sub_cancel, Nat.add_sub_cancel]
theorem pk_m1 (n : Nat) : nI (n + 1) + (-1) = nI n := by
  rw [← nI_1, Int32.add_assoc, show (1 : Int32) + (-1) = 0 from rfl, Int32.add_zero]
theorem pk_mul (a b : Nat) : nI a * nI b = nI (a * b) := (Int32.ofNat_mul a b).symm
theorem pk_div {a d : Nat} (ha : a < 2 ^ 31) (h0 : 0 < d) (hd : d < 2 ^ 31) : nI a / nI d = nI (a / d) := by
  apply Int32.toInt_inj.mp
  rw [lg_idiv_nonneg (by rw [nI_toInt ha]; omega) (by rw [nI_toInt hd]; omega), nI_toInt ha, nI_toInt hd, nI_toInt (Nat.lt_of_le_of_lt (Nat.div_le_self a d) ha)]
  first | rfl | exact (Int.natCast_ediv _ _).symm
theorem pk_rem {a d : Nat} (ha : a < 2 ^ 31) (h0 : 0 < d) (hd : d < 2 ^ 31) : nI a - nI a / nI d * nI d = nI (a % d) := by
  rw [pk_div ha h0 hd, pk_mul, pk_sub (Nat.div_mul_le_self a d)]
  exact congrArg nI (by have := Nat.div_add_mod' a d; omega)
theorem pk_sub_toInt {a b : Nat} (ha : a < 2 ^ 30) (hb : b < 2 ^ 30) : (nI a - nI b).toInt = (a : Int) - b := by
  rw [Int32.toInt_sub, nI_toInt (by omega), nI_toInt (by omega)]
  exact Int.bmod_eq_of_le (by omega) (by omega)
theorem pk_sneg {a b : Nat} (hb : b < 2 ^ 30) (h : a < b) : nI a - nI b < 0 := by
  rw [Int32.lt_iff_toInt_lt, pk_sub_toInt (by omega) hb, show (0 : Int32).toInt = 0 from by decide]
  omega
theorem pk_ix (x : Int32) {n : Nat} (hn : n < 2 ^ 31) : x < 0 ∨ nI n ≤ x ∨ ∃ j : Nat, j < n ∧ x = nI j := by
  by_cases h : x < 0
  · exact Or.inl h
  · obtain ⟨j, hj, rfl⟩ := nI_of h
    by_cases h2 : j < n
    · exact Or.inr (Or.inr ⟨j, h2, rfl⟩)
    · exact Or.inr (Or.inl (nI_le (by omega) hj))
theorem pk_le {x y : Int32} {A B : Prop} (a b : Nat) (f : a ≤ b → A) (g : b < a → B) (hx : x = nI a := by rfl) (hy : y = nI b := by rfl) (ha : a < 2 ^ 31 := by omega) (hb : b < 2 ^ 31 := by omega) : (x ≤ y → A) ∧ (¬ x ≤ y → B) := by
  subst hx hy
  rw [nI_leI ha hb]
  exact ⟨f, fun z => g (by omega)⟩
theorem pk_lt {x y : Int32} {A B : Prop} (a b : Nat) (f : a < b → A) (g : b ≤ a → B) (hx : x = nI a := by rfl) (hy : y = nI b := by rfl) (ha : a < 2 ^ 31 := by omega) (hb : b < 2 ^ 31 := by omega) : (x < y → A) ∧ (¬ x < y → B) := by
  subst hx hy
  rw [nI_ltI ha hb]
  exact ⟨f, fun z => g (by omega)⟩
theorem pk_eq {x y : Int32} {A B : Prop} (a b : Nat) (f : a = b → A) (g : a ≠ b → B) (hx : x = nI a := by rfl) (hy : y = nI b := by rfl) (ha : a < 2 ^ 31 := by omega) (hb : b < 2 ^ 31 := by omega) : (x = y → A) ∧ (¬ x = y → B) := by
  subst hx hy
  rw [nI_eq ha hb]
  exact ⟨f, g⟩
theorem pk_in {x : Int32} (n N : Nat) (h : n < N) (hx : x = nI n := by rfl) (hN : N < 2 ^ 31 := by omega) : vp_in x N := by
  subst hx
  exact vp_in_nI h hN
theorem pk_cl {x : Int32} (n : Nat) (hx : x = nI n := by rfl) (h : n < 2 ^ 31 := by omega) : x.toNatClampNeg = n := by
  subst hx
  exact nI_clamp h
theorem pk_tn {n : Nat} (h : n < 2 ^ 32) : (nI n).toBitVec.toNat = n := Nat.mod_eq_of_lt h
theorem pk_and (x : Int32) {m : Int32} (k : Nat) (hm : m.toBitVec.toNat = 2 ^ k - 1) : x &&& m = nI (x.toBitVec.toNat % 2 ^ k) := by
  apply Int32.toBitVec_inj.mp
  apply BitVec.eq_of_toNat_eq
  rw [Int32.toBitVec_and, BitVec.toNat_and, hm, Nat.and_two_pow_sub_one_eq_mod]
  show _ = (BitVec.ofNat 32 _).toNat
  rw [BitVec.toNat_ofNat]
  exact (Nat.mod_eq_of_lt (Nat.lt_of_le_of_lt (Nat.mod_le _ _) x.toBitVec.isLt)).symm
theorem pk_andN {n : Nat} (h : n < 2 ^ 32) {m : Int32} (k : Nat) (hm : m.toBitVec.toNat = 2 ^ k - 1) : nI n &&& m = nI (n % 2 ^ k) := by
  rw [pk_and _ k hm, pk_tn h]
theorem pk_andE (x : Int32) {m : Int32} (k : Nat) (hm : m.toBitVec.toNat = 2 ^ k - 1) : ∃ j : Nat, j < 2 ^ k ∧ x &&& m = nI j := ⟨_, Nat.mod_lt _ (Nat.two_pow_pos k), pk_and x k hm⟩
theorem pk_andIn (x : Int32) {m : Int32} (k : Nat) (hm : m.toBitVec.toNat = 2 ^ k - 1) (hk : k ≤ 30) : vp_in (x &&& m) (2 ^ k) := by
  obtain ⟨j, hj, e⟩ := pk_andE x k hm
  rw [e]
  exact vp_in_nI hj (Nat.lt_of_le_of_lt (Nat.pow_le_pow_right (by decide) hk) (by decide))
theorem pk_shl (a s : Int32) (k : Nat) (hs : (s.toBitVec.smod 32).toNat = k) : (a <<< s).toBitVec.toNat = a.toBitVec.toNat * 2 ^ k % 2 ^ 32 := by
  show (a.toBitVec <<< (s.toBitVec.smod 32).toNat).toNat = _
  rw [hs, BitVec.toNat_shiftLeft, Nat.shiftLeft_eq]
theorem pk_shlN {n : Nat} (s : Int32) (k : Nat) (hs : (s.toBitVec.smod 32).toNat = k) (h : n * 2 ^ k < 2 ^ 32) : nI n <<< s = nI (n * 2 ^ k) := by
  apply Int32.toBitVec_inj.mp
  apply BitVec.eq_of_toNat_eq
  have hn : n < 2 ^ 32 := Nat.lt_of_le_of_lt (Nat.le_mul_of_pos_right n (Nat.two_pow_pos k)) h
  rw [pk_shl _ _ k hs, pk_tn hn, pk_tn h, Nat.mod_eq_of_lt h]
theorem pk_shr (a s : Int32) (k : Nat) (hs : (s.toBitVec.smod 32).toNat = k) : (a >>> s).toInt = a.toInt >>> k := by
  show (a.toBitVec.sshiftRight (s.toBitVec.smod 32).toNat).toInt = _
  rw [hs, BitVec.toInt_sshiftRight]
  rfl
theorem pk_shrN {n : Nat} (h : n < 2 ^ 31) (s : Int32) (k : Nat) (hs : (s.toBitVec.smod 32).toNat = k) : nI n >>> s = nI (n / 2 ^ k) := by
  apply Int32.toInt_inj.mp
  have h2 : n / 2 ^ k ≤ n := Nat.div_le_self _ _
  rw [pk_shr _ _ k hs, nI_toInt h, nI_toInt (by omega), Int.shiftRight_eq_div_pow]
  rfl
theorem pk_lT {n : Nat} (h : n < 2 ^ 63) : (lN n).toInt = (n : Int) := lg_ofNat_toInt h
theorem pk_lLT {a b : Nat} (ha : a < 2 ^ 63) (hb : b < 2 ^ 63) : lN a < lN b ↔ a < b := by
  rw [Int64.lt_iff_toInt_lt, pk_lT ha, pk_lT hb]; omega
theorem pk_lLE {a b : Nat} (ha : a < 2 ^ 63) (hb : b < 2 ^ 63) : lN a ≤ lN b ↔ a ≤ b := by
  rw [Int64.le_iff_toInt_le, pk_lT ha, pk_lT hb]; omega
theorem pk_lEQ {a b : Nat} (ha : a < 2 ^ 63) (hb : b < 2 ^ 63) : lN a = lN b ↔ a = b := by
  rw [← Int64.toInt_inj, pk_lT ha, pk_lT hb]; omega
theorem pk_lOf {x : Int64} (h : ¬ x < 0) : ∃ k : Nat, k < 2 ^ 63 ∧ x = lN k := by
  rw [Int64.lt_iff_toInt_lt] at h
  have h0 : (0 : Int64).toInt = 0 := by decide
  have hx := Int64.toInt_lt x
  refine ⟨x.toInt.toNat, by omega, Int64.toInt_inj.mp ?_⟩
  rw [pk_lT (by omega)]
  omega
theorem pk_lDiv {a b : Nat} (ha : a < 2 ^ 63) (h0 : 0 < b) (hb : b < 2 ^ 63) : lN a / lN b = lN (a / b) := by
  apply Int64.toInt_inj.mp
  rw [lg_ldiv_nonneg (by rw [pk_lT ha]; omega) (by rw [pk_lT hb]; omega), pk_lT ha, pk_lT hb, pk_lT (Nat.lt_of_le_of_lt (Nat.div_le_self a b) ha)]
  rfl
theorem pk_lRem {a b : Nat} (ha : a < 2 ^ 63) (h0 : 0 < b) (hb : b < 2 ^ 63) : lN a - lN a / lN b * lN b = lN (a % b) := by
  rw [pk_lDiv ha h0 hb, lN_mul, lN_sub (Nat.div_mul_le_self a b)]
  exact congrArg lN (by have := Nat.div_add_mod' a b; omega)
theorem pk_loop {σ : Type} (W : Nat → Nat → σ → Prop) (I : Nat → σ → Prop) (e i0 : Nat) (s : σ) (hi : i0 ≤ e) (h0 : I i0 s) (hx : ∀ n s, I e s → W (n + 1) e s)
    (hs : ∀ n i s, i < e → I i s → (∀ s', I (i + 1) s' → W n (i + 1) s') → W (n + 1) i s) : ∃ n, W n i0 s :=
  ⟨e + 1, loop_i W I e hx hs (e + 1) i0 s hi (by omega) h0⟩
theorem pk_loopD {σ : Type} (W : Nat → Nat → σ → Prop) (I : Nat → σ → Prop) (hx : ∀ n s, I 0 s → W (n + 1) 0 s)
    (hs : ∀ n i s, I (i + 1) s → (∀ s', I i s' → W n i s') → W (n + 1) (i + 1) s) : ∀ (e : Nat) (s : σ), I e s → W (e + 1) e s := by
  intro e
  induction e with
  | zero => exact fun s h => hx 0 s h
  | succ e ih => exact fun s h => hs (e + 1) e s h (fun s' h' => ih s' h')
end
section
/-- the sum of f over 0 .. k-1 -/
def fs_sum (f : Nat → Int) : Nat → Int
  | 0 => 0
  | k + 1 => fs_sum f k + f k
theorem fs_sum_congr {f g : Nat → Int} : ∀ k : Nat, (∀ i, i < k → f i = g i) → fs_sum f k = fs_sum g k := by
  intro k
  induction k with
  | zero => intro _; rfl
  | succ k ih =>
    intro h
    have h1 := ih (fun i hi => h i (by omega))
    have h2 := h k (by omega)
    show fs_sum f k + f k = fs_sum g k + g k
    rw [h1, h2]
theorem fs_sum_add (f g : Nat → Int) : ∀ k : Nat, fs_sum (fun i => f i + g i) k = fs_sum f k + fs_sum g k := by
  intro k
  induction k with
  | zero => rfl
  | succ k ih =>
    show fs_sum (fun i => f i + g i) k + (f k + g k) = (fs_sum f k + f k) + (fs_sum g k + g k)
    rw [ih]; omega
theorem fs_sum_mul (a : Int) (f : Nat → Int) : ∀ k : Nat, fs_sum (fun i => a * f i) k = a * fs_sum f k := by
  intro k
  induction k with
  | zero => show (0 : Int) = a * 0; omega
  | succ k ih =>
    show fs_sum (fun i => a * f i) k + a * f k = a * (fs_sum f k + f k)
    rw [ih, Int.mul_add]
theorem fs_sum_zero : ∀ k : Nat, fs_sum (fun _ => 0) k = 0 := by
  intro k
  induction k with
  | zero => rfl
  | succ k ih =>
    show fs_sum (fun _ => 0) k + 0 = 0
    rw [ih]; rfl
theorem fs_sum_le {f g : Nat → Int} : ∀ k : Nat, (∀ i, i < k → f i ≤ g i) → fs_sum f k ≤ fs_sum g k := by
  intro k
  induction k with
  | zero => intro _; exact Int.le_refl _
  | succ k ih =>
    intro h
    have h1 := ih (fun i hi => h i (by omega))
    have h2 := h k (by omega)
    show fs_sum f k + f k ≤ fs_sum g k + g k
    omega
theorem fs_sum_lt {f g : Nat → Int} : ∀ k : Nat, (∀ i, i < k → f i ≤ g i) → ∀ j, j < k → f j < g j → fs_sum f k < fs_sum g k := by
  intro k
  induction k with
  | zero => intro _ j hj; omega
  | succ k ih =>
    intro h j hj hl
    have h2 := h k (by omega)
    show fs_sum f k + f k < fs_sum g k + g k
    by_cases e : j = k
    · rw [e] at hl
      have h1 := fs_sum_le (f := f) (g := g) k (fun i hi => h i (by omega))
      omega
    · have h1 := ih (fun i hi => h i (by omega)) j (by omega) hl
      omega
theorem fs_sum_nonneg {f : Nat → Int} (k : Nat) (h : ∀ i, i < k → 0 ≤ f i) : 0 ≤ fs_sum f k := by
  have := fs_sum_le (f := fun _ => 0) (g := f) k h
  rw [fs_sum_zero] at this
  exact this
theorem fs_sum_pos {f : Nat → Int} (k : Nat) (h : ∀ i, i < k → 0 ≤ f i) (j : Nat) (hj : j < k) (hp : 0 < f j) : 0 < fs_sum f k := by
  have := fs_sum_lt (f := fun _ => 0) (g := f) k h j hj hp
  rw [fs_sum_zero] at this
  exact this
/-- the product of f over 0 .. k-1 -/
def fs_prod (f : Nat → Int) : Nat → Int
  | 0 => 1
  | k + 1 => fs_prod f k * f k
theorem fs_prod_congr {f g : Nat → Int} : ∀ k : Nat, (∀ i, i < k → f i = g i) → fs_prod f k = fs_prod g k := by
  intro k
  induction k with
  | zero => intro _; rfl
  | succ k ih =>
    intro h
    have h1 := ih (fun i hi => h i (by omega))
    have h2 := h k (by omega)
    show fs_prod f k * f k = fs_prod g k * g k
    rw [h1, h2]
theorem fs_prod_iso (f : Nat → Int) (i : Nat) : ∀ k : Nat, i < k → fs_prod f k = f i * fs_prod (fun s => if s = i then 1 else f s) k := by
  intro k
  induction k with
  | zero => intro h; omega
  | succ k ih =>
    intro h
    show fs_prod f k * f k = f i * (fs_prod (fun s => if s = i then 1 else f s) k * (if k = i then 1 else f k))
    by_cases e : k = i
    · subst e
      rw [if_pos rfl]
      have h1 : fs_prod f k = fs_prod (fun s => if s = k then 1 else f s) k :=
        fs_prod_congr k (fun j hj => by
          have : ¬ j = k := by omega
          show f j = if j = k then 1 else f j
          rw [if_neg this])
      rw [← h1, Int.mul_one, Int.mul_comm]
    · rw [if_neg e, ih (by omega), Int.mul_assoc]
theorem fs_prod_nonneg {f : Nat → Int} : ∀ k : Nat, (∀ i, i < k → 0 ≤ f i) → 0 ≤ fs_prod f k := by
  intro k
  induction k with
  | zero => intro _; show (0 : Int) ≤ 1; decide
  | succ k ih =>
    intro h
    exact Int.mul_nonneg (ih (fun i hi => h i (by omega))) (h k (by omega))
/-- the function c with r at k -/
def fs_set (c : Nat → Nat) (k r : Nat) : Nat → Nat := fun j => if j = k then r else c j
theorem fs_set_eq (c : Nat → Nat) (k r : Nat) : fs_set c k r k = r := if_pos rfl
theorem fs_set_ne (c : Nat → Nat) {k j : Nat} (r : Nat) (h : ¬ j = k) : fs_set c k r j = c j := if_neg h
theorem fs_set_comm (c : Nat → Nat) {k i : Nat} (q r : Nat) (h : ¬ i = k) : fs_set (fs_set c i r) k q = fs_set (fs_set c k q) i r := by
  funext j
  unfold fs_set
  by_cases e : j = k
  · have : ¬ j = i := by omega
    rw [if_pos e, if_neg this, if_pos e]
  · rw [if_neg e, if_neg e]
theorem fs_set_set (c : Nat → Nat) (k q r : Nat) : fs_set (fs_set c k q) k r = fs_set c k r := by
  funext j
  unfold fs_set
  by_cases e : j = k
  · rw [if_pos e, if_pos e]
  · rw [if_neg e, if_neg e, if_neg e]
/-- the sum of φ over all choices at 0 .. k-1 (b s of them at s), elsewhere c -/
def fs_S (b : Nat → Nat) : Nat → ((Nat → Nat) → Int) → (Nat → Nat) → Int
  | 0, φ, c => φ c
  | k + 1, φ, c => fs_sum (fun r => fs_S b k φ (fs_set c k r)) (b k)
theorem fs_S_congr {b b' : Nat → Nat} {φ ψ : (Nat → Nat) → Int} (hφ : ∀ c, φ c = ψ c) : ∀ k : Nat, (∀ s, s < k → b s = b' s) → ∀ c, fs_S b k φ c = fs_S b' k ψ c := by
  intro k
  induction k with
  | zero => intro _ c; exact hφ c
  | succ k ih =>
    intro h c
    show fs_sum (fun r => fs_S b k φ (fs_set c k r)) (b k) = fs_sum (fun r => fs_S b' k ψ (fs_set c k r)) (b' k)
    rw [h k (by omega)]
    exact fs_sum_congr _ (fun i _ => ih (fun s hs => h s (by omega)) _)
theorem fs_S_add (b : Nat → Nat) (φ ψ : (Nat → Nat) → Int) : ∀ (k : Nat) (c : Nat → Nat), fs_S b k (fun c => φ c + ψ c) c = fs_S b k φ c + fs_S b k ψ c := by
  intro k
  induction k with
  | zero => intro c; rfl
  | succ k ih =>
    intro c
    show fs_sum (fun r => fs_S b k (fun c => φ c + ψ c) (fs_set c k r)) (b k) = fs_sum (fun r => fs_S b k φ (fs_set c k r)) (b k) + fs_sum (fun r => fs_S b k ψ (fs_set c k r)) (b k)
    rw [← fs_sum_add]
    exact fs_sum_congr _ (fun i _ => ih _)
theorem fs_S_mul (b : Nat → Nat) (a : Int) (φ : (Nat → Nat) → Int) : ∀ (k : Nat) (c : Nat → Nat), fs_S b k (fun c => a * φ c) c = a * fs_S b k φ c := by
  intro k
  induction k with
  | zero => intro c; rfl
  | succ k ih =>
    intro c
    show fs_sum (fun r => fs_S b k (fun c => a * φ c) (fs_set c k r)) (b k) = a * fs_sum (fun r => fs_S b k φ (fs_set c k r)) (b k)
    rw [← fs_sum_mul]
    exact fs_sum_congr _ (fun i _ => ih _)
theorem fs_S_zero (b : Nat → Nat) : ∀ (k : Nat) (c : Nat → Nat), fs_S b k (fun _ => 0) c = 0 := by
  intro k
  induction k with
  | zero => intro c; rfl
  | succ k ih =>
    intro c
    have h1 : fs_sum (fun r => fs_S b k (fun _ => 0) (fs_set c k r)) (b k) = fs_sum (fun _ => 0) (b k) := fs_sum_congr _ (fun i _ => ih _)
    show fs_sum (fun r => fs_S b k (fun _ => 0) (fs_set c k r)) (b k) = 0
    rw [h1, fs_sum_zero]
theorem fs_S_sum (b : Nat → Nat) (φ : Nat → (Nat → Nat) → Int) (k : Nat) (c : Nat → Nat) : ∀ q : Nat, fs_S b k (fun c => fs_sum (fun r => φ r c) q) c = fs_sum (fun r => fs_S b k (φ r) c) q := by
  intro q
  induction q with
  | zero => exact fs_S_zero b k c
  | succ q ih =>
    show fs_S b k (fun c => fs_sum (fun r => φ r c) q + φ q c) c = fs_sum (fun r => fs_S b k (φ r) c) q + fs_S b k (φ q) c
    rw [fs_S_add b (fun c => fs_sum (fun r => φ r c) q) (φ q), ih]
theorem fs_S_le {b : Nat → Nat} {φ ψ : (Nat → Nat) → Int} (h : ∀ c, φ c ≤ ψ c) : ∀ (k : Nat) (c : Nat → Nat), fs_S b k φ c ≤ fs_S b k ψ c := by
  intro k
  induction k with
  | zero => intro c; exact h c
  | succ k ih =>
    intro c
    exact fs_sum_le _ (fun i _ => ih _)
theorem fs_S_far (b : Nat → Nat) (φ : (Nat → Nat) → Int) (i r : Nat) : ∀ k : Nat, k ≤ i → ∀ c : Nat → Nat, fs_S b k φ (fs_set c i r) = fs_S b k (fun c' => φ (fs_set c' i r)) c := by
  intro k
  induction k with
  | zero => intro _ c; rfl
  | succ k ih =>
    intro h c
    show fs_sum (fun q => fs_S b k φ (fs_set (fs_set c i r) k q)) (b k) = fs_sum (fun q => fs_S b k (fun c' => φ (fs_set c' i r)) (fs_set c k q)) (b k)
    exact fs_sum_congr _ (fun q _ => by
      rw [fs_set_comm c q r (by omega)]
      exact ih (by omega) _)
theorem fs_S_iso (b : Nat → Nat) (φ : (Nat → Nat) → Int) (i : Nat) : ∀ k : Nat, i < k → ∀ c : Nat → Nat, fs_S b k φ c = fs_S (fs_set b i 1) k (fun c' => fs_sum (fun r => φ (fs_set c' i r)) (b i)) c := by
  intro k
  induction k with
  | zero => intro h; omega
  | succ k ih =>
    intro h c
    show fs_sum (fun r => fs_S b k φ (fs_set c k r)) (b k) = fs_sum (fun r => fs_S (fs_set b i 1) k (fun c' => fs_sum (fun r => φ (fs_set c' i r)) (b i)) (fs_set c k r)) (fs_set b i 1 k)
    by_cases e : i = k
    · subst e
      rw [fs_set_eq]
      show fs_sum (fun r => fs_S b i φ (fs_set c i r)) (b i) = 0 + fs_S (fs_set b i 1) i (fun c' => fs_sum (fun r => φ (fs_set c' i r)) (b i)) (fs_set c i 0)
      rw [Int.zero_add, fs_S_far _ _ i 0 i (Nat.le_refl _)]
      have h1 : fs_S (fs_set b i 1) i (fun c' => fs_sum (fun r => φ (fs_set (fs_set c' i 0) i r)) (b i)) c = fs_S b i (fun c' => fs_sum (fun r => φ (fs_set c' i r)) (b i)) c :=
        fs_S_congr (fun c' => fs_sum_congr _ (fun r _ => by rw [fs_set_set])) i (fun s hs => fs_set_ne b 1 (by omega)) c
      rw [h1, fs_S_sum b (fun r c' => φ (fs_set c' i r)) i c (b i)]
      exact fs_sum_congr _ (fun r _ => fs_S_far b φ i r i (Nat.le_refl _) c)
    · rw [fs_set_ne b 1 (fun z => e z.symm)]
      exact fs_sum_congr _ (fun r _ => ih (by omega) _)
end
section
/-- one step: an active state goes to the chosen way's next state, any other stays -/
def fs_st (nx : Nat → Nat → Nat) (act : Nat → Bool) (c : Nat → Nat) (t : Nat) : Nat := if act t = true then nx t (c t) else t
/-- N steps -/
def fs_it (nx : Nat → Nat → Nat) (act : Nat → Bool) (c : Nat → Nat) : Nat → Nat → Nat
  | 0, t => t
  | N + 1, t => fs_it nx act c N (fs_st nx act c t)
theorem fs_st_t {nx : Nat → Nat → Nat} {act : Nat → Bool} {c : Nat → Nat} {t : Nat} (h : act t = true) : fs_st nx act c t = nx t (c t) := if_pos h
theorem fs_st_f {nx : Nat → Nat → Nat} {act : Nat → Bool} {c : Nat → Nat} {t : Nat} (h : act t = false) : fs_st nx act c t = t := if_neg (by rw [h]; decide)
theorem fs_it_s (nx : Nat → Nat → Nat) (act : Nat → Bool) (c : Nat → Nat) (N t : Nat) : fs_it nx act c (N + 1) t = fs_it nx act c N (fs_st nx act c t) := rfl
theorem fs_it_add (nx : Nat → Nat → Nat) (act : Nat → Bool) (c : Nat → Nat) (b : Nat) : ∀ a t : Nat, fs_it nx act c (a + b) t = fs_it nx act c b (fs_it nx act c a t) := by
  intro a
  induction a with
  | zero => intro t; rw [Nat.zero_add]; rfl
  | succ a ih =>
    intro t
    have e : a + 1 + b = (a + b) + 1 := by omega
    rw [e, fs_it_s, fs_it_s]
    exact ih _
theorem fs_it_stop {nx : Nat → Nat → Nat} {act : Nat → Bool} {c : Nat → Nat} {t : Nat} (h : act t = false) : ∀ N : Nat, fs_it nx act c N t = t := by
  intro N
  induction N with
  | zero => rfl
  | succ N ih => rw [fs_it_s, fs_st_f h]; exact ih
theorem fs_it_stay {nx : Nat → Nat → Nat} {act : Nat → Bool} {c : Nat → Nat} {t N : Nat} (h : act (fs_it nx act c N t) = false) {K : Nat} (hK : N ≤ K) : fs_it nx act c K t = fs_it nx act c N t := by
  have e : K = N + (K - N) := by omega
  rw [e, fs_it_add]
  exact fs_it_stop h _
theorem fs_it_lt {n : Nat} {nx : Nat → Nat → Nat} {act : Nat → Bool} {c : Nat → Nat} (hx : ∀ s k, nx s k < n) : ∀ N t : Nat, t < n → fs_it nx act c N t < n := by
  intro N
  induction N with
  | zero => intro t h; exact h
  | succ N ih =>
    intro t h
    rw [fs_it_s]
    apply ih
    unfold fs_st
    split
    · exact hx _ _
    · exact h
theorem fs_pig : ∀ (n : Nat) (f : Nat → Nat), (∀ j, j ≤ n → f j < n) → ∃ a b, a < b ∧ b ≤ n ∧ f a = f b := by
  intro n
  induction n with
  | zero => intro f h; have := h 0 (Nat.le_refl _); omega
  | succ n ih =>
    intro f h
    by_cases hj : ∃ j, j ≤ n ∧ f j = f (n + 1)
    · obtain ⟨j, h1, h2⟩ := hj
      exact ⟨j, n + 1, by omega, by omega, h2⟩
    · have hg : ∀ j, j ≤ n → (if f j = n then f (n + 1) else f j) < n := by
        intro j hjn
        have h1 := h j (by omega)
        have h2 := h (n + 1) (by omega)
        have h3 : ¬ f j = f (n + 1) := fun z => hj ⟨j, hjn, z⟩
        split <;> omega
      obtain ⟨a, b, hab, hb, he⟩ := ih (fun j => if f j = n then f (n + 1) else f j) hg
      refine ⟨a, b, hab, by omega, ?_⟩
      have h3 : ¬ f a = f (n + 1) := fun z => hj ⟨a, by omega, z⟩
      have h4 : ¬ f b = f (n + 1) := fun z => hj ⟨b, hb, z⟩
      have he' : (if f a = n then f (n + 1) else f a) = (if f b = n then f (n + 1) else f b) := he
      by_cases ea : f a = n
      · by_cases eb : f b = n
        · omega
        · rw [if_pos ea, if_neg eb] at he'; omega
      · by_cases eb : f b = n
        · rw [if_neg ea, if_pos eb] at he'; omega
        · rw [if_neg ea, if_neg eb] at he'; exact he'
theorem fs_end {n : Nat} {nx : Nat → Nat → Nat} {act : Nat → Bool} {c : Nat → Nat} (hn : n ≤ 6) (hx : ∀ s k, nx s k < n) {t : Nat} (ht : t < n) : ∀ N : Nat, act (fs_it nx act c N t) = false → act (fs_it nx act c 6 t) = false := by
  intro N
  induction N using Nat.strongRecOn with
  | ind N ih =>
    intro h
    by_cases h6 : N ≤ 6
    · rw [fs_it_stay h h6]; exact h
    · obtain ⟨a, b, hab, hb, he⟩ := fs_pig 6 (fun j => fs_it nx act c j t) (fun j _ => by
        have := fs_it_lt (act := act) (c := c) hx j t ht
        show fs_it nx act c j t < 6
        omega)
      have he' : fs_it nx act c a t = fs_it nx act c b t := he
      have e1 : N = b + (N - b) := by omega
      have e2 : fs_it nx act c N t = fs_it nx act c (a + (N - b)) t := by
        rw [fs_it_add, he', ← fs_it_add, ← e1]
      refine ih (a + (N - b)) (by omega) ?_
      rw [← e2]; exact h
theorem fs_end_eq {n : Nat} {nx : Nat → Nat → Nat} {act : Nat → Bool} {c : Nat → Nat} (hn : n ≤ 6) (hx : ∀ s k, nx s k < n) {t : Nat} (ht : t < n) {N : Nat} (h : act (fs_it nx act c N t) = false) : fs_it nx act c 6 t = fs_it nx act c N t := by
  by_cases h6 : N ≤ 6
  · exact fs_it_stay h h6
  · exact (fs_it_stay (fs_end hn hx ht N h) (by omega)).symm
/-- no circle: within six steps every state is at one that is not active -/
def fs_ac (n : Nat) (nx : Nat → Nat → Nat) (act : Nat → Bool) (c : Nat → Nat) : Prop := ∀ t, t < n → act (fs_it nx act c 6 t) = false
/-- act without i -/
def fs_off (act : Nat → Bool) (i : Nat) : Nat → Bool := fun t => if t = i then false else act t
theorem fs_off_i (act : Nat → Bool) (i : Nat) : fs_off act i i = false := if_pos rfl
theorem fs_off_t {act : Nat → Bool} {i t : Nat} (h : fs_off act i t = true) : ¬ t = i ∧ act t = true := by
  unfold fs_off at h
  by_cases e : t = i
  · rw [if_pos e] at h; exact absurd h (by decide)
  · rw [if_neg e] at h; exact ⟨e, h⟩
theorem fs_off_ne {act : Nat → Bool} {i t : Nat} (h : ¬ t = i) : fs_off act i t = act t := if_neg h
theorem fs_follow (nx : Nat → Nat → Nat) (act : Nat → Bool) (c : Nat → Nat) (i r : Nat) : ∀ N t : Nat, ∃ N', fs_it nx act (fs_set c i r) N' t = fs_it nx (fs_off act i) c N t := by
  intro N
  induction N with
  | zero => intro t; exact ⟨0, rfl⟩
  | succ N ih =>
    intro t
    cases ha : fs_off act i t with
    | false =>
      obtain ⟨N', h⟩ := ih t
      exact ⟨N', by rw [h, fs_it_s, fs_st_f ha]⟩
    | true =>
      obtain ⟨h1, h2⟩ := fs_off_t ha
      obtain ⟨N', h⟩ := ih (nx t (c t))
      refine ⟨N' + 1, ?_⟩
      rw [fs_it_s, fs_it_s, fs_st_t ha, fs_st_t h2, fs_set_ne c r h1]
      exact h
theorem fs_same {nx : Nat → Nat → Nat} {act : Nat → Bool} {c : Nat → Nat} (i r : Nat) : ∀ N t : Nat, (∀ K, fs_off act i (fs_it nx (fs_off act i) c K t) = true) → fs_it nx act (fs_set c i r) N t = fs_it nx (fs_off act i) c N t := by
  intro N
  induction N with
  | zero => intro t _; rfl
  | succ N ih =>
    intro t h
    have ha : fs_off act i t = true := h 0
    obtain ⟨h1, h2⟩ := fs_off_t ha
    rw [fs_it_s, fs_it_s, fs_st_t ha, fs_st_t h2, fs_set_ne c r h1]
    apply ih
    intro K
    have := h (K + 1)
    rw [fs_it_s, fs_st_t ha] at this
    exact this
theorem fs_cyc {nx : Nat → Nat → Nat} {act : Nat → Bool} {c : Nat → Nat} {i p : Nat} (h : fs_it nx act c p i = i) : ∀ q : Nat, fs_it nx act c (q * p) i = i := by
  intro q
  induction q with
  | zero => rw [Nat.zero_mul]; rfl
  | succ q ih => rw [Nat.succ_mul, fs_it_add, ih, h]
theorem fs_ac_1 {n : Nat} {nx : Nat → Nat → Nat} {act : Nat → Bool} {c : Nat → Nat} {i r : Nat} (hn : n ≤ 6) (hx : ∀ s k, nx s k < n) (h : fs_ac n nx act (fs_set c i r)) : fs_ac n nx (fs_off act i) c := by
  intro t ht
  cases ha : fs_off act i (fs_it nx (fs_off act i) c 6 t) with
  | false => rfl
  | true =>
    have hall : ∀ K, fs_off act i (fs_it nx (fs_off act i) c K t) = true := by
      intro K
      cases hb : fs_off act i (fs_it nx (fs_off act i) c K t) with
      | true => rfl
      | false =>
        have := fs_end hn hx ht K hb
        rw [ha] at this; exact this.symm
    have h1 := h t ht
    rw [fs_same i r 6 t hall] at h1
    have h2 := (fs_off_t ha).2
    rw [h1] at h2; exact h2.symm
theorem fs_ac_2 {n : Nat} {nx : Nat → Nat → Nat} {act : Nat → Bool} {c : Nat → Nat} {i r : Nat} (hi : i < n) (ai : act i = true) (h : fs_ac n nx act (fs_set c i r)) : ¬ fs_it nx (fs_off act i) c 6 (nx i r) = i := by
  intro he
  obtain ⟨N', h1⟩ := fs_follow nx act c i r 6 (nx i r)
  have h2 : fs_it nx act (fs_set c i r) (N' + 1) i = i := by
    rw [fs_it_s, fs_st_t ai, fs_set_eq, h1, he]
  have h3 := fs_cyc h2 6
  have h4 := h i hi
  have h5 := fs_it_stay (K := 6 * (N' + 1)) h4 (by omega)
  rw [h3] at h5
  rw [← h5, ai] at h4
  exact absurd h4 (by decide)
theorem fs_ac_3 {n : Nat} {nx : Nat → Nat → Nat} {act : Nat → Bool} {c : Nat → Nat} {i r : Nat} (hn : n ≤ 6) (hx : ∀ s k, nx s k < n) (ai : act i = true) (h : fs_ac n nx (fs_off act i) c) (hr : ¬ fs_it nx (fs_off act i) c 6 (nx i r) = i) {x : Nat} (hxn : x < n) : act (fs_it nx act (fs_set c i r) 6 x) = false ∧ fs_it nx act (fs_set c i r) 6 x = if fs_it nx (fs_off act i) c 6 x = i then fs_it nx (fs_off act i) c 6 (nx i r) else fs_it nx (fs_off act i) c 6 x := by
  have key : ∀ y, (∃ N, fs_it nx act (fs_set c i r) N x = y) → act y = false → act (fs_it nx act (fs_set c i r) 6 x) = false ∧ fs_it nx act (fs_set c i r) 6 x = y := by
    intro y ⟨N, hN⟩ hy
    have h0 : act (fs_it nx act (fs_set c i r) N x) = false := by rw [hN]; exact hy
    exact ⟨fs_end hn hx hxn N h0, by rw [fs_end_eq hn hx hxn h0, hN]⟩
  obtain ⟨N1, h1⟩ := fs_follow nx act c i r 6 x
  by_cases e : fs_it nx (fs_off act i) c 6 x = i
  · rw [if_pos e]
    obtain ⟨N2, h2⟩ := fs_follow nx act c i r 6 (nx i r)
    refine key _ ⟨N1 + (N2 + 1), ?_⟩ ?_
    · rw [fs_it_add, h1, e, fs_it_s, fs_st_t ai, fs_set_eq, h2]
    · have h3 := h (nx i r) (hx _ _)
      rw [fs_off_ne hr] at h3
      exact h3
  · rw [if_neg e]
    refine key _ ⟨N1, h1⟩ ?_
    have h3 := h x hxn
    rw [fs_off_ne e] at h3
    exact h3
theorem fs_ac_iso {n : Nat} {nx : Nat → Nat → Nat} {act : Nat → Bool} {c : Nat → Nat} {i r : Nat} (hn : n ≤ 6) (hx : ∀ s k, nx s k < n) (hi : i < n) (ai : act i = true) : fs_ac n nx act (fs_set c i r) ↔ (fs_ac n nx (fs_off act i) c ∧ ¬ fs_it nx (fs_off act i) c 6 (nx i r) = i) :=
  ⟨fun h => ⟨fs_ac_1 hn hx h, fs_ac_2 hi ai h⟩, fun h t ht => (fs_ac_3 hn hx ai h.1 h.2 ht).1⟩
end
section
/-- 1 where p holds, else 0 -/
noncomputable def fs_ind (p : Prop) : Int := @ite Int p (Classical.propDecidable p) 1 0
theorem fs_ind_t {p : Prop} (h : p) : fs_ind p = 1 := @if_pos p (Classical.propDecidable p) h Int 1 0
theorem fs_ind_f {p : Prop} (h : ¬ p) : fs_ind p = 0 := @if_neg p (Classical.propDecidable p) h Int 1 0
theorem fs_ind_nn (p : Prop) : 0 ≤ fs_ind p := by
  by_cases h : p
  · rw [fs_ind_t h]; decide
  · rw [fs_ind_f h]; decide
/-- the weight of a choice -/
def fs_wt (n : Nat) (w : Nat → Nat → Int) (act : Nat → Bool) (c : Nat → Nat) : Int := fs_prod (fun s => if act s = true then w s (c s) else 1) n
theorem fs_wt_nn {n : Nat} {w : Nat → Nat → Int} (hw : ∀ s k, 0 ≤ w s k) (act : Nat → Bool) (c : Nat → Nat) : 0 ≤ fs_wt n w act c := by
  apply fs_prod_nonneg
  intro s _
  try dsimp only
  split
  · exact hw _ _
  · decide
theorem fs_wt_iso {n : Nat} (w : Nat → Nat → Int) {act : Nat → Bool} (c : Nat → Nat) {i : Nat} (r : Nat) (hi : i < n) (ai : act i = true) : fs_wt n w act (fs_set c i r) = w i r * fs_wt n w (fs_off act i) c := by
  unfold fs_wt
  rw [fs_prod_iso _ i n hi]
  have e1 : (if act i = true then w i (fs_set c i r i) else 1) = w i r := by rw [if_pos ai, fs_set_eq]
  have e2 : fs_prod (fun s => if s = i then 1 else (if act s = true then w s (fs_set c i r s) else 1)) n = fs_prod (fun s => if fs_off act i s = true then w s (c s) else 1) n := by
    apply fs_prod_congr
    intro s _
    by_cases e : s = i
    · subst e
      try dsimp only
      rw [if_pos rfl, fs_off_i, if_neg (by decide)]
    · try dsimp only
      rw [if_neg e, fs_off_ne e, fs_set_ne c r e]
  show (if act i = true then w i (fs_set c i r i) else 1) * fs_prod (fun s => if s = i then 1 else (if act s = true then w s (fs_set c i r s) else 1)) n = _
  rw [e1, e2]
/-- how many choices a state has -/
def fs_bb (m : Nat → Nat) (act : Nat → Bool) (s : Nat) : Nat := if act s = true then m s else 1
/-- the sum, over the choices without a circle, of weight times h at x's end -/
noncomputable def fs_V (n : Nat) (m : Nat → Nat) (nx : Nat → Nat → Nat) (w : Nat → Nat → Int) (act : Nat → Bool) (h : Nat → Int) (x : Nat) : Int :=
  fs_S (fs_bb m act) n (fun c => fs_ind (fs_ac n nx act c) * (fs_wt n w act c * h (fs_it nx act c 6 x))) (fun _ => 0)
/-- the weight of all choices without a circle -/
noncomputable def fs_D (n : Nat) (m : Nat → Nat) (nx : Nat → Nat → Nat) (w : Nat → Nat → Int) (act : Nat → Bool) : Int := fs_V n m nx w act (fun _ => 1) 0
theorem fs_V_one (n : Nat) (m : Nat → Nat) (nx : Nat → Nat → Nat) (w : Nat → Nat → Int) (act : Nat → Bool) (x : Nat) : fs_V n m nx w act (fun _ => 1) x = fs_D n m nx w act := rfl
theorem fs_V_add (n : Nat) (m : Nat → Nat) (nx : Nat → Nat → Nat) (w : Nat → Nat → Int) (act : Nat → Bool) (h g : Nat → Int) (x : Nat) : fs_V n m nx w act (fun t => h t + g t) x = fs_V n m nx w act h x + fs_V n m nx w act g x := by
  unfold fs_V
  rw [← fs_S_add]
  exact fs_S_congr (fun c => by (try dsimp only); rw [Int.mul_add, Int.mul_add]) n (fun _ _ => rfl) _
theorem fs_V_mul (n : Nat) (m : Nat → Nat) (nx : Nat → Nat → Nat) (w : Nat → Nat → Int) (act : Nat → Bool) (a : Int) (h : Nat → Int) (x : Nat) : fs_V n m nx w act (fun t => a * h t) x = a * fs_V n m nx w act h x := by
  unfold fs_V
  rw [← fs_S_mul]
  exact fs_S_congr (fun c => by (try dsimp only); grind) n (fun _ _ => rfl) _
theorem fs_V_congr {n : Nat} {m : Nat → Nat} {nx : Nat → Nat → Nat} {w : Nat → Nat → Int} {act : Nat → Bool} {h g : Nat → Int} (e : ∀ t, h t = g t) (x : Nat) : fs_V n m nx w act h x = fs_V n m nx w act g x := by
  have : h = g := funext e
  rw [this]
theorem fs_V_zero (n : Nat) (m : Nat → Nat) (nx : Nat → Nat → Nat) (w : Nat → Nat → Int) (act : Nat → Bool) (x : Nat) : fs_V n m nx w act (fun _ => 0) x = 0 := by
  have := fs_V_mul n m nx w act 0 (fun _ => 0) x
  rw [fs_V_congr (g := fun _ => 0) (fun t => by omega)] at this
  omega
theorem fs_V_le {n : Nat} {m : Nat → Nat} {nx : Nat → Nat → Nat} {w : Nat → Nat → Int} (hw : ∀ s k, 0 ≤ w s k) (act : Nat → Bool) {h g : Nat → Int} (e : ∀ t, h t ≤ g t) (x : Nat) : fs_V n m nx w act h x ≤ fs_V n m nx w act g x := by
  unfold fs_V
  refine fs_S_le (fun c => ?_) n _
  exact Int.mul_le_mul_of_nonneg_left (Int.mul_le_mul_of_nonneg_left (e _) (fs_wt_nn hw act c)) (fs_ind_nn _)
theorem fs_V_nn {n : Nat} {m : Nat → Nat} {nx : Nat → Nat → Nat} {w : Nat → Nat → Int} (hw : ∀ s k, 0 ≤ w s k) (act : Nat → Bool) {h : Nat → Int} (e : ∀ t, 0 ≤ h t) (x : Nat) : 0 ≤ fs_V n m nx w act h x := by
  have := fs_V_le (n := n) (m := m) (nx := nx) hw act e x
  rw [fs_V_zero] at this
  exact this
theorem fs_V_leD {n : Nat} {m : Nat → Nat} {nx : Nat → Nat → Nat} {w : Nat → Nat → Int} (hw : ∀ s k, 0 ≤ w s k) (act : Nat → Bool) {h : Nat → Int} (e : ∀ t, h t ≤ 1) (x : Nat) : fs_V n m nx w act h x ≤ fs_D n m nx w act := by
  rw [← fs_V_one n m nx w act x]
  exact fs_V_le hw act e x
theorem fs_V_bd (n : Nat) (m : Nat → Nat) (nx : Nat → Nat → Nat) (w : Nat → Nat → Int) {act : Nat → Bool} (h : Nat → Int) {x : Nat} (ax : act x = false) : fs_V n m nx w act h x = fs_D n m nx w act * h x := by
  rw [Int.mul_comm]
  unfold fs_D fs_V
  rw [← fs_S_mul]
  exact fs_S_congr (fun c => by (try dsimp only); rw [fs_it_stop ax]; grind) n (fun _ _ => rfl) _
theorem fs_V_iso {n : Nat} (m : Nat → Nat) {nx : Nat → Nat → Nat} (w : Nat → Nat → Int) {act : Nat → Bool} (h : Nat → Int) (hn : n ≤ 6) (hx : ∀ s k, nx s k < n) {i : Nat} (hi : i < n) (ai : act i = true) {x : Nat} (hxn : x < n) :
    fs_V n m nx w act h x = fs_S (fs_bb m (fs_off act i)) n (fun c => fs_sum (fun r => fs_ind (fs_ac n nx (fs_off act i) c ∧ ¬ fs_it nx (fs_off act i) c 6 (nx i r) = i) * (w i r * fs_wt n w (fs_off act i) c * h (if fs_it nx (fs_off act i) c 6 x = i then fs_it nx (fs_off act i) c 6 (nx i r) else fs_it nx (fs_off act i) c 6 x))) (m i)) (fun _ => 0) := by
  unfold fs_V
  rw [fs_S_iso _ _ i n hi]
  refine fs_S_congr (fun c => ?_) n (fun s _ => ?_) _
  · have e1 : fs_bb m act i = m i := if_pos ai
    rw [e1]
    refine fs_sum_congr _ (fun r _ => ?_)
    try dsimp only
    by_cases hc : fs_ac n nx act (fs_set c i r)
    · have hc' := (fs_ac_iso hn hx hi ai).mp hc
      rw [fs_ind_t hc, fs_ind_t hc', fs_wt_iso w c r hi ai, (fs_ac_3 hn hx ai hc'.1 hc'.2 hxn).2]
    · have hc' : ¬ (fs_ac n nx (fs_off act i) c ∧ ¬ fs_it nx (fs_off act i) c 6 (nx i r) = i) := fun z => hc ((fs_ac_iso hn hx hi ai).mpr z)
      rw [fs_ind_f hc, fs_ind_f hc', Int.zero_mul, Int.zero_mul]
  · by_cases e : s = i
    · subst e
      rw [fs_set_eq]
      unfold fs_bb
      rw [fs_off_i, if_neg (by decide)]
    · rw [fs_set_ne _ _ e]
      unfold fs_bb
      rw [fs_off_ne e]
/-- the value at a state, by the values one state fewer -/
theorem fs_V_top {n : Nat} (m : Nat → Nat) {nx : Nat → Nat → Nat} (w : Nat → Nat → Int) {act : Nat → Bool} (h : Nat → Int) (hn : n ≤ 6) (hx : ∀ s k, nx s k < n) {i : Nat} (hi : i < n) (ai : act i = true) :
    fs_V n m nx w act h i = fs_sum (fun r => w i r * fs_V n m nx w (fs_off act i) (fun t => if t = i then 0 else h t) (nx i r)) (m i) := by
  rw [fs_V_iso m w h hn hx hi ai hi, fs_S_sum (fs_bb m (fs_off act i)) (fun r c => fs_ind (fs_ac n nx (fs_off act i) c ∧ ¬ fs_it nx (fs_off act i) c 6 (nx i r) = i) * (w i r * fs_wt n w (fs_off act i) c * h (if fs_it nx (fs_off act i) c 6 i = i then fs_it nx (fs_off act i) c 6 (nx i r) else fs_it nx (fs_off act i) c 6 i)))]
  refine fs_sum_congr _ (fun r _ => ?_)
  unfold fs_V
  rw [← fs_S_mul]
  refine fs_S_congr (fun c => ?_) n (fun _ _ => rfl) _
  try dsimp only
  rw [fs_it_stop (fs_off_i act i), if_pos rfl]
  by_cases h1 : fs_ac n nx (fs_off act i) c
  · by_cases h2 : fs_it nx (fs_off act i) c 6 (nx i r) = i
    · rw [fs_ind_f (fun z => z.2 h2), if_pos h2]; grind
    · rw [fs_ind_t ⟨h1, h2⟩, fs_ind_t h1, if_neg h2]; grind
  · rw [fs_ind_f (fun z => h1 z.1), fs_ind_f h1]; grind
theorem fs_anti (w g : Nat → Int) (bad : Nat → Bool) (k : Nat) :
    fs_sum (fun l => w l * fs_sum (fun r => if bad r = true then 0 else w r * (if bad l = true then g r else g l)) k) k = fs_sum w k * fs_sum (fun r => if bad r = true then 0 else w r * g r) k := by
  have e1 : ∀ l, w l * fs_sum (fun r => if bad r = true then 0 else w r * (if bad l = true then g r else g l)) k = fs_sum (fun r => if bad r = true then 0 else w r * g r) k * (if bad l = true then w l else 0) + fs_sum (fun r => if bad r = true then 0 else w r) k * (if bad l = true then 0 else w l * g l) := by
    intro l
    cases hb : bad l with
    | true =>
      simp only [if_true, if_pos]
      grind
    | false =>
      have e2 : fs_sum (fun r => if bad r = true then 0 else w r * (if false = true then g r else g l)) k = g l * fs_sum (fun r => if bad r = true then 0 else w r) k := by
        rw [← fs_sum_mul]
        refine fs_sum_congr _ (fun r _ => ?_)
        try dsimp only
        rw [if_neg (by decide : ¬ false = true)]
        cases bad r with
        | true => simp
        | false => simp; grind
      rw [e2, if_neg (by decide : ¬ false = true), if_neg (by decide : ¬ false = true)]
      grind
  rw [fs_sum_congr k (fun l _ => e1 l), fs_sum_add, fs_sum_mul, fs_sum_mul]
  have e3 : fs_sum w k = fs_sum (fun l => if bad l = true then w l else 0) k + fs_sum (fun l => if bad l = true then 0 else w l) k := by
    rw [← fs_sum_add]
    refine fs_sum_congr _ (fun l _ => ?_)
    cases bad l <;> simp
  rw [e3]
  grind
/-- the equation of an active state -/
theorem fs_V_harm {n : Nat} (m : Nat → Nat) {nx : Nat → Nat → Nat} (w : Nat → Nat → Int) {act : Nat → Bool} (h : Nat → Int) (hn : n ≤ 6) (hx : ∀ s k, nx s k < n) {i : Nat} (hi : i < n) (ai : act i = true) :
    fs_sum (fun l => w i l * fs_V n m nx w act h (nx i l)) (m i) = fs_sum (fun l => w i l) (m i) * fs_V n m nx w act h i := by
  rw [fs_V_iso m w h hn hx hi ai hi, ← fs_S_mul]
  have e1 : ∀ l, w i l * fs_V n m nx w act h (nx i l) = fs_S (fs_bb m (fs_off act i)) n (fun c => w i l * fs_sum (fun r => fs_ind (fs_ac n nx (fs_off act i) c ∧ ¬ fs_it nx (fs_off act i) c 6 (nx i r) = i) * (w i r * fs_wt n w (fs_off act i) c * h (if fs_it nx (fs_off act i) c 6 (nx i l) = i then fs_it nx (fs_off act i) c 6 (nx i r) else fs_it nx (fs_off act i) c 6 (nx i l)))) (m i)) (fun _ => 0) := by
    intro l
    rw [fs_V_iso m w h hn hx hi ai (hx i l), ← fs_S_mul]
  rw [fs_sum_congr (m i) (fun l _ => e1 l), ← fs_S_sum (fs_bb m (fs_off act i)) (fun l c => w i l * fs_sum (fun r => fs_ind (fs_ac n nx (fs_off act i) c ∧ ¬ fs_it nx (fs_off act i) c 6 (nx i r) = i) * (w i r * fs_wt n w (fs_off act i) c * h (if fs_it nx (fs_off act i) c 6 (nx i l) = i then fs_it nx (fs_off act i) c 6 (nx i r) else fs_it nx (fs_off act i) c 6 (nx i l)))) (m i))]
  refine fs_S_congr (fun c => ?_) n (fun _ _ => rfl) _
  try dsimp only
  by_cases hc : fs_ac n nx (fs_off act i) c
  · have A := fs_anti (w i) (fun r => fs_wt n w (fs_off act i) c * h (fs_it nx (fs_off act i) c 6 (nx i r))) (fun r => decide (fs_it nx (fs_off act i) c 6 (nx i r) = i)) (m i)
    have e2 : ∀ l, fs_sum (fun r => fs_ind (fs_ac n nx (fs_off act i) c ∧ ¬ fs_it nx (fs_off act i) c 6 (nx i r) = i) * (w i r * fs_wt n w (fs_off act i) c * h (if fs_it nx (fs_off act i) c 6 (nx i l) = i then fs_it nx (fs_off act i) c 6 (nx i r) else fs_it nx (fs_off act i) c 6 (nx i l)))) (m i) = fs_sum (fun r => if decide (fs_it nx (fs_off act i) c 6 (nx i r) = i) = true then 0 else w i r * (if decide (fs_it nx (fs_off act i) c 6 (nx i l) = i) = true then fs_wt n w (fs_off act i) c * h (fs_it nx (fs_off act i) c 6 (nx i r)) else fs_wt n w (fs_off act i) c * h (fs_it nx (fs_off act i) c 6 (nx i l)))) (m i) := by
      intro l
      refine fs_sum_congr _ (fun r _ => ?_)
      by_cases h2 : fs_it nx (fs_off act i) c 6 (nx i r) = i
      · rw [fs_ind_f (fun z => z.2 h2), if_pos (decide_eq_true h2), Int.zero_mul]
      · rw [fs_ind_t ⟨hc, h2⟩, if_neg (fun z => h2 (of_decide_eq_true z)), Int.one_mul]
        by_cases h3 : fs_it nx (fs_off act i) c 6 (nx i l) = i
        · rw [if_pos h3, if_pos (decide_eq_true h3), Int.mul_assoc]
        · rw [if_neg h3, if_neg (fun z => h3 (of_decide_eq_true z)), Int.mul_assoc]
    have e3 : fs_sum (fun r => fs_ind (fs_ac n nx (fs_off act i) c ∧ ¬ fs_it nx (fs_off act i) c 6 (nx i r) = i) * (w i r * fs_wt n w (fs_off act i) c * h (if fs_it nx (fs_off act i) c 6 i = i then fs_it nx (fs_off act i) c 6 (nx i r) else fs_it nx (fs_off act i) c 6 i))) (m i) = fs_sum (fun r => if decide (fs_it nx (fs_off act i) c 6 (nx i r) = i) = true then 0 else w i r * (fs_wt n w (fs_off act i) c * h (fs_it nx (fs_off act i) c 6 (nx i r)))) (m i) := by
      refine fs_sum_congr _ (fun r _ => ?_)
      rw [fs_it_stop (fs_off_i act i), if_pos rfl]
      by_cases h2 : fs_it nx (fs_off act i) c 6 (nx i r) = i
      · rw [fs_ind_f (fun z => z.2 h2), if_pos (decide_eq_true h2), Int.zero_mul]
      · rw [fs_ind_t ⟨hc, h2⟩, if_neg (fun z => h2 (of_decide_eq_true z)), Int.one_mul, Int.mul_assoc]
    rw [fs_sum_congr (m i) (fun l _ => by rw [e2 l]), e3]
    exact A
  · have e4 : ∀ f : Nat → Int, fs_sum (fun r => fs_ind (fs_ac n nx (fs_off act i) c ∧ ¬ fs_it nx (fs_off act i) c 6 (nx i r) = i) * f r) (m i) = 0 := by
      intro f
      rw [← fs_sum_zero (m i)]
      exact fs_sum_congr _ (fun r _ => by rw [fs_ind_f (fun z => hc z.1), Int.zero_mul])
    rw [e4 (fun r => w i r * fs_wt n w (fs_off act i) c * h (if fs_it nx (fs_off act i) c 6 i = i then fs_it nx (fs_off act i) c 6 (nx i r) else fs_it nx (fs_off act i) c 6 i)), Int.mul_zero, ← fs_sum_zero (m i)]
    refine fs_sum_congr _ (fun l _ => ?_)
    rw [e4 (fun r => w i r * fs_wt n w (fs_off act i) c * h (if fs_it nx (fs_off act i) c 6 (nx i l) = i then fs_it nx (fs_off act i) c 6 (nx i r) else fs_it nx (fs_off act i) c 6 (nx i l))), Int.mul_zero]
end
section
section
variable {n : Nat} {m : Nat → Nat} {nx : Nat → Nat → Nat} {w : Nat → Nat → Int} {G M : Nat → Bool}
/-- a graph under a plan: G its goals, M the states that move on and can reach a goal -/
def fs_ok (n : Nat) (m : Nat → Nat) (nx : Nat → Nat → Nat) (w : Nat → Nat → Int) (G M : Nat → Bool) : Prop :=
  n ≤ 6 ∧ (∀ s k, nx s k < n) ∧ (∀ s k, 0 ≤ w s k ∧ w s k ≤ 9) ∧ (∀ s k, s < n → k < m s → 0 < w s k) ∧ (∀ s, m s ≤ 3) ∧ (∀ s, M s = true → G s = false) ∧
  (∀ P : Nat → Prop, (∀ s, s < n → G s = true → P s) → (∀ s k, s < n → k < m s → P (nx s k) → P s) → ∀ s, s < n → M s = true → P s)
theorem fs_avg {w u : Nat → Int} {k : Nat} {B x : Int} (hp : ∀ l, l < k → 0 < w l) (hu : ∀ l, l < k → u l ≤ B + 1) {j : Nat} (hj : j < k) (huj : u j ≤ B) (hs : fs_sum w k * x ≤ fs_sum (fun l => w l * u l) k) : x ≤ B := by
  have h1 : fs_sum (fun l => w l * u l) k < fs_sum (fun l => (B + 1) * w l) k := by
    refine fs_sum_lt k (fun l hl => ?_) j hj ?_
    · show w l * u l ≤ (B + 1) * w l
      rw [Int.mul_comm (w l)]
      exact Int.mul_le_mul_of_nonneg_right (hu l hl) (Int.le_of_lt (hp l hl))
    · show w j * u j < (B + 1) * w j
      rw [Int.mul_comm (w j)]
      exact Int.mul_lt_mul_of_pos_right (by omega) (hp j hj)
  rw [fs_sum_mul, Int.mul_comm] at h1
  have h2 : fs_sum w k * x < fs_sum w k * (B + 1) := by omega
  have h3 := Int.lt_of_mul_lt_mul_left h2 (fs_sum_nonneg k (fun l hl => Int.le_of_lt (hp l hl)))
  omega
theorem fs_bound (u : Nat → Int) : ∀ n : Nat, ∃ B : Nat, ∀ s, s < n → u s ≤ (B : Int) := by
  intro n
  induction n with
  | zero => exact ⟨0, fun s h => by omega⟩
  | succ n ih =>
    obtain ⟨B, hB⟩ := ih
    refine ⟨B + (u n).toNat, fun s hs => ?_⟩
    by_cases e : s = n
    · subst e; omega
    · have := hB s (by omega); omega
/-- the greatest value stands at the edge -/
theorem fs_max (H : fs_ok n m nx w G M) {act : Nat → Bool} (ha : ∀ s, act s = true → M s = true) (u : Nat → Int) (hb : ∀ s, s < n → act s = false → u s ≤ 0) (hs : ∀ s, s < n → act s = true → fs_sum (fun l => w s l) (m s) * u s ≤ fs_sum (fun l => w s l * u (nx s l)) (m s)) : ∀ s, s < n → u s ≤ 0 := by
  obtain ⟨hn, hx, hw, hp, hm, hg, hl⟩ := H
  have key : ∀ B : Nat, (∀ s, s < n → u s ≤ (B : Int)) → ∀ s, s < n → u s ≤ 0 := by
    intro B
    induction B with
    | zero => intro h s hs'; exact h s hs'
    | succ B ih =>
      intro h
      refine ih ?_
      have hP := hl (fun s => u s ≤ (B : Int)) (fun s hsn hG => ?_) (fun s k hsn hk hP => ?_)
      · intro s hsn
        cases hM : M s with
        | true => exact hP s hsn hM
        | false =>
          have : act s = false := by
            cases e : act s with
            | false => rfl
            | true => rw [ha s e] at hM; exact absurd hM (by decide)
          have := hb s hsn this
          omega
      · have : act s = false := by
          cases e : act s with
          | false => rfl
          | true => rw [hg s (ha s e)] at hG; exact absurd hG (by decide)
        have := hb s hsn this
        show u s ≤ (B : Int)
        omega
      · show u s ≤ (B : Int)
        cases e : act s with
        | false => have := hb s hsn e; omega
        | true =>
          exact fs_avg (w := fun l => w s l) (u := fun l => u (nx s l)) (fun l hl' => hp s l hsn hl') (fun l _ => by have := h (nx s l) (hx s l); show u (nx s l) ≤ _; omega) hk hP (hs s hsn e)
  obtain ⟨B, hB⟩ := fs_bound u n
  exact key B hB
/-- u fulfils the equations of the active states -/
def fs_hm (n : Nat) (m : Nat → Nat) (nx : Nat → Nat → Nat) (w : Nat → Nat → Int) (act : Nat → Bool) (u : Nat → Int) : Prop :=
  ∀ s, s < n → act s = true → fs_sum (fun l => w s l * u (nx s l)) (m s) = fs_sum (fun l => w s l) (m s) * u s
theorem fs_hm_V (H : fs_ok n m nx w G M) {act act' : Nat → Bool} (ha : ∀ s, act' s = true → act s = true) (h : Nat → Int) : fs_hm n m nx w act' (fs_V n m nx w act h) :=
  fun _ hs e => fs_V_harm m w h H.1 H.2.1 hs (ha _ e)
theorem fs_hm_mul {act : Nat → Bool} {u : Nat → Int} (a : Int) (h : fs_hm n m nx w act u) : fs_hm n m nx w act (fun s => a * u s) := by
  intro s hs e
  have h1 := h s hs e
  have h2 : fs_sum (fun l => w s l * (a * u (nx s l))) (m s) = a * fs_sum (fun l => w s l * u (nx s l)) (m s) := by
    rw [← fs_sum_mul]
    exact fs_sum_congr _ (fun l _ => by (try dsimp only); grind)
  show fs_sum (fun l => w s l * (a * u (nx s l))) (m s) = fs_sum (fun l => w s l) (m s) * (a * u s)
  rw [h2, h1]; grind
theorem fs_hm_add {act : Nat → Bool} {u v : Nat → Int} (h : fs_hm n m nx w act u) (g : fs_hm n m nx w act v) : fs_hm n m nx w act (fun s => u s + v s) := by
  intro s hs e
  have h1 := h s hs e
  have h2 := g s hs e
  have h3 : fs_sum (fun l => w s l * (u (nx s l) + v (nx s l))) (m s) = fs_sum (fun l => w s l * u (nx s l)) (m s) + fs_sum (fun l => w s l * v (nx s l)) (m s) := by
    rw [← fs_sum_add]
    exact fs_sum_congr _ (fun l _ => by (try dsimp only); grind)
  show fs_sum (fun l => w s l * (u (nx s l) + v (nx s l))) (m s) = fs_sum (fun l => w s l) (m s) * (u s + v s)
  rw [h3, h1, h2]; grind
theorem fs_uniq1 (H : fs_ok n m nx w G M) {act : Nat → Bool} (ha : ∀ s, act s = true → M s = true) {u v : Nat → Int} (hu : fs_hm n m nx w act u) (hv : fs_hm n m nx w act v) (hb : ∀ s, s < n → act s = false → u s = v s) : ∀ s, s < n → u s ≤ v s := by
  have hd := fs_hm_add hu (fs_hm_mul (-1) hv)
  have := fs_max H ha (fun s => u s + -1 * v s) (fun s hs e => by have := hb s hs e; show u s + -1 * v s ≤ 0; omega) (fun s hs e => Int.le_of_eq (hd s hs e).symm)
  intro s hs
  have h1 : u s + -1 * v s ≤ 0 := this s hs
  omega
theorem fs_uniq (H : fs_ok n m nx w G M) {act : Nat → Bool} (ha : ∀ s, act s = true → M s = true) {u v : Nat → Int} (hu : fs_hm n m nx w act u) (hv : fs_hm n m nx w act v) (hb : ∀ s, s < n → act s = false → u s = v s) : ∀ s, s < n → u s = v s :=
  fun s hs => Int.le_antisymm (fs_uniq1 H ha hu hv hb s hs) (fs_uniq1 H ha hv hu (fun s hs e => (hb s hs e).symm) s hs)
/-- the moving states below k -/
def fs_lv (M : Nat → Bool) (k : Nat) : Nat → Bool := fun t => decide (t < k) && M t
theorem fs_lv_t {k t : Nat} (h : fs_lv M k t = true) : t < k ∧ M t = true := by
  unfold fs_lv at h
  rw [Bool.and_eq_true, decide_eq_true_eq] at h
  exact h
theorem fs_lv_i {k t : Nat} (h : t < k) (hM : M t = true) : fs_lv M k t = true := by
  unfold fs_lv
  rw [Bool.and_eq_true, decide_eq_true_eq]
  exact ⟨h, hM⟩
theorem fs_lv_f {k t : Nat} (h : ¬ (t < k ∧ M t = true)) : fs_lv M k t = false := by
  cases e : fs_lv M k t with
  | false => rfl
  | true => exact absurd (fs_lv_t e) h
theorem fs_lv_ext {k q : Nat} {N : Nat → Bool} (h : ∀ t, (t < k ∧ M t = true) ↔ (t < q ∧ N t = true)) : fs_lv M k = fs_lv N q := by
  funext t
  by_cases e : t < k ∧ M t = true
  · rw [fs_lv_i e.1 e.2, fs_lv_i ((h t).mp e).1 ((h t).mp e).2]
  · rw [fs_lv_f e, fs_lv_f (fun z => e ((h t).mpr z))]
theorem fs_lv_off {k : Nat} : fs_off (fs_lv M (k + 1)) k = fs_lv M k := by
  funext t
  by_cases e : t = k
  · subst e
    rw [fs_off_i, fs_lv_f (by omega)]
  · rw [fs_off_ne e]
    by_cases h : t < k ∧ M t = true
    · rw [fs_lv_i h.1 h.2, fs_lv_i (by omega) h.2]
    · rw [fs_lv_f h, fs_lv_f (fun z => h ⟨by omega, z.2⟩)]
theorem fs_lv_no {k : Nat} (hM : M k = false) : fs_lv M (k + 1) = fs_lv M k := by
  refine fs_lv_ext (fun t => ⟨fun h => ⟨?_, h.2⟩, fun h => ⟨by omega, h.2⟩⟩)
  have h1 := h.1
  by_cases e : t = k
  · subst e; rw [hM] at h; exact absurd h.2 (by decide)
  · omega
theorem fs_S_1 {b : Nat → Nat} (φ : (Nat → Nat) → Int) : ∀ k : Nat, (∀ s, s < k → b s = 1) → fs_S b k φ (fun _ => 0) = φ (fun _ => 0) := by
  intro k
  induction k with
  | zero => intro _; rfl
  | succ k ih =>
    intro h
    show fs_sum (fun r => fs_S b k φ (fs_set (fun _ => 0) k r)) (b k) = φ (fun _ => 0)
    rw [h k (by omega)]
    show 0 + fs_S b k φ (fs_set (fun _ => 0) k 0) = φ (fun _ => 0)
    have e : fs_set (fun _ => 0) k 0 = fun _ => 0 := by
      funext j
      unfold fs_set
      split <;> rfl
    rw [e, Int.zero_add]
    exact ih (fun s hs => h s (by omega))
theorem fs_prod_1 {f : Nat → Int} : ∀ k : Nat, (∀ i, i < k → f i = 1) → fs_prod f k = 1 := by
  intro k
  induction k with
  | zero => intro _; rfl
  | succ k ih =>
    intro h
    show fs_prod f k * f k = 1
    rw [ih (fun i hi => h i (by omega)), h k (by omega)]; rfl
theorem fs_D_0 : fs_D n m nx w (fs_lv M 0) = 1 := by
  have h0 : ∀ t, fs_lv M 0 t = false := fun t => fs_lv_f (by omega)
  unfold fs_D fs_V
  rw [fs_S_1 _ n (fun s _ => by unfold fs_bb; rw [h0 s, if_neg (by decide)])]
  have h1 : fs_ac n nx (fs_lv M 0) (fun _ => 0) := fun t _ => h0 _
  have h2 : fs_wt n w (fs_lv M 0) (fun _ => 0) = 1 := fs_prod_1 n (fun s _ => by (try dsimp only); rw [h0 s, if_neg (by decide)])
  rw [fs_ind_t h1, h2]; rfl
theorem fs_D_s (H : fs_ok n m nx w G M) {k : Nat} (hk : k < n) (hM : M k = true) : fs_D n m nx w (fs_lv M (k + 1)) = fs_sum (fun r => w k r * fs_V n m nx w (fs_lv M k) (fun t => if t = k then 0 else 1) (nx k r)) (m k) := by
  rw [← fs_V_one n m nx w (fs_lv M (k + 1)) k, fs_V_top m w (fun _ => 1) H.1 H.2.1 hk (fs_lv_i (by omega) hM), fs_lv_off]
theorem fs_D_pos (H : fs_ok n m nx w G M) : ∀ k : Nat, k ≤ n → 0 < fs_D n m nx w (fs_lv M k) := by
  intro k
  induction k with
  | zero => intro _; rw [fs_D_0]; decide
  | succ k ih =>
    intro hk
    have ih' := ih (by omega)
    cases hM : M k with
    | false => rw [fs_lv_no hM]; exact ih'
    | true =>
      have HH := H
      obtain ⟨hn, hx, hw, hp, hm, hg, hl⟩ := HH
      rw [fs_D_s H (by omega) hM]
      have hu0 : ∀ x, 0 ≤ fs_V n m nx w (fs_lv M k) (fun t => if t = k then 0 else 1) x := fun x => fs_V_nn (fun s k => (hw s k).1) _ (fun t => by split <;> decide) x
      have hbd : ∀ s, ¬ s = k → fs_lv M k s = false → 0 < fs_V n m nx w (fs_lv M k) (fun t => if t = k then 0 else 1) s := by
        intro s h1 h2
        rw [fs_V_bd _ _ _ _ _ h2, if_neg h1, Int.mul_one]; exact ih'
      by_cases hz : ∃ r, r < m k ∧ 0 < fs_V n m nx w (fs_lv M k) (fun t => if t = k then 0 else 1) (nx k r)
      · obtain ⟨r, hr, h1⟩ := hz
        exact fs_sum_pos _ (fun i hi => Int.mul_nonneg (hw k i).1 (hu0 _)) r hr (Int.mul_pos (hp k r (by omega) hr) h1)
      · exfalso
        have hP := hl (fun s => 0 < fs_V n m nx w (fs_lv M k) (fun t => if t = k then 0 else 1) s) (fun s hs hG => ?_) (fun s l hs hl' hP => ?_) k (by omega) hM
        · have hP' : 0 < fs_V n m nx w (fs_lv M k) (fun t => if t = k then 0 else 1) k := hP
          rw [fs_V_bd _ _ _ _ _ (fs_lv_f (by omega)), if_pos rfl] at hP'
          omega
        · refine hbd s ?_ ?_
          · intro e; subst e; rw [hg s hM] at hG; exact absurd hG (by decide)
          · refine fs_lv_f (fun z => ?_)
            rw [hg s z.2] at hG; exact absurd hG (by decide)
        · by_cases e : s = k
          · subst e; exact absurd ⟨l, hl', hP⟩ hz
          · cases ea : fs_lv M k s with
            | false => exact hbd s e ea
            | true =>
              have hh := fs_V_harm m w (fun t => if t = k then 0 else 1) hn hx hs ea
              have h1 : 0 < fs_sum (fun l => w s l * fs_V n m nx w (fs_lv M k) (fun t => if t = k then 0 else 1) (nx s l)) (m s) :=
                fs_sum_pos _ (fun i hi => Int.mul_nonneg (hw s i).1 (hu0 _)) l hl' (Int.mul_pos (hp s l hs hl') hP)
              rw [hh] at h1
              have h2 := hu0 s
              by_cases h3 : fs_V n m nx w (fs_lv M k) (fun t => if t = k then 0 else 1) s = 0
              · rw [h3, Int.mul_zero] at h1; omega
              · show 0 < fs_V n m nx w (fs_lv M k) (fun t => if t = k then 0 else 1) s
                omega
theorem fs_wsum (H : fs_ok n m nx w G M) (s : Nat) : 0 ≤ fs_sum (fun l => w s l) (m s) ∧ fs_sum (fun l => w s l) (m s) ≤ 27 := by
  obtain ⟨hn, hx, hw, hp, hm, hg, hl⟩ := H
  refine ⟨fs_sum_nonneg _ (fun i _ => (hw s i).1), ?_⟩
  have h3 := hm s
  have a0 := hw s 0
  have a1 := hw s 1
  have a2 := hw s 2
  have h4 : m s = 0 ∨ m s = 1 ∨ m s = 2 ∨ m s = 3 := by omega
  rcases h4 with e | e | e | e <;> rw [e]
  · show (0 : Int) ≤ 27; decide
  · show 0 + w s 0 ≤ 27; omega
  · show 0 + w s 0 + w s 1 ≤ 27; omega
  · show 0 + w s 0 + w s 1 + w s 2 ≤ 27; omega
/-- a weighted sum of values between 0 and D -/
theorem fs_wsum_le (H : fs_ok n m nx w G M) (s : Nat) {u : Nat → Int} {D : Int} (hD : 0 ≤ D) (h : ∀ l, 0 ≤ u l ∧ u l ≤ D) : 0 ≤ fs_sum (fun l => w s l * u l) (m s) ∧ fs_sum (fun l => w s l * u l) (m s) ≤ 27 * D := by
  have hw := H.2.2.1
  refine ⟨fs_sum_nonneg _ (fun i _ => Int.mul_nonneg (hw s i).1 (h i).1), ?_⟩
  have h1 : fs_sum (fun l => w s l * u l) (m s) ≤ fs_sum (fun l => D * w s l) (m s) := fs_sum_le _ (fun i _ => by
    show w s i * u i ≤ D * w s i
    rw [Int.mul_comm]
    exact Int.mul_le_mul_of_nonneg_right (h i).2 (hw s i).1)
  rw [fs_sum_mul] at h1
  have h2 := fs_wsum H s
  have h3 := Int.mul_le_mul_of_nonneg_left h2.2 hD
  have h4 : fs_sum (fun l => w s l * u l) (m s) ≤ D * fs_sum (fun l => w s l) (m s) := h1
  omega
theorem fs_D_le (H : fs_ok n m nx w G M) : ∀ k : Nat, k ≤ n → fs_D n m nx w (fs_lv M k) ≤ 27 ^ k := by
  intro k
  induction k with
  | zero => intro _; rw [fs_D_0]; decide
  | succ k ih =>
    intro hk
    have ih' := ih (by omega)
    have h0 := fs_D_pos H k (by omega)
    cases hM : M k with
    | false => rw [fs_lv_no hM, Int.pow_succ]; omega
    | true =>
      rw [fs_D_s H (by omega) hM, Int.pow_succ]
      have := (fs_wsum_le H k (u := fun r => fs_V n m nx w (fs_lv M k) (fun t => if t = k then 0 else 1) (nx k r)) (Int.le_of_lt h0) (fun l => ⟨fs_V_nn (fun s k => (H.2.2.1 s k).1) _ (fun t => by split <;> decide) _, fs_V_leD (fun s k => (H.2.2.1 s k).1) _ (fun t => by split <;> decide) _⟩)).2
      omega
end
end
section
section
variable {n : Nat} {m : Nat → Nat} {nx : Nat → Nat → Nat} {w : Nat → Nat → Int} {G M : Nat → Bool}
/-- 1 at k, else 0 -/
def fs_dl (k : Nat) : Nat → Int := fun t => if t = k then 1 else 0
theorem fs_dl_eq (k : Nat) : fs_dl k k = 1 := if_pos rfl
theorem fs_dl_ne {k t : Nat} (h : ¬ t = k) : fs_dl k t = 0 := if_neg h
theorem fs_star (H : fs_ok n m nx w G M) {k : Nat} (hk : k < n) (hM : M k = true) (h : Nat → Int) : ∀ x, x < n →
    fs_D n m nx w (fs_lv M k) * fs_V n m nx w (fs_lv M (k + 1)) h x = fs_D n m nx w (fs_lv M (k + 1)) * fs_V n m nx w (fs_lv M k) h x + (fs_V n m nx w (fs_lv M (k + 1)) h k - fs_D n m nx w (fs_lv M (k + 1)) * h k) * fs_V n m nx w (fs_lv M k) (fs_dl k) x := by
  refine fs_uniq H (act := fs_lv M k) (fun s e => (fs_lv_t e).2) (fs_hm_mul _ (fs_hm_V H (fun s e => fs_lv_i (by have := (fs_lv_t e).1; omega) (fs_lv_t e).2) h)) (fs_hm_add (fs_hm_mul _ (fs_hm_V H (fun s e => e) h)) (fs_hm_mul _ (fs_hm_V H (fun s e => e) (fs_dl k)))) (fun s hs e => ?_)
  try dsimp only
  rw [fs_V_bd _ _ _ _ h e, fs_V_bd _ _ _ _ (fs_dl k) e]
  by_cases es : s = k
  · subst es
    rw [fs_dl_eq]; grind
  · have e2 : fs_lv M (k + 1) s = false := fs_lv_f (fun z => by
      have h1 : fs_lv M k s = true := fs_lv_i (by omega) z.2
      rw [e] at h1; exact absurd h1 (by decide))
    rw [fs_V_bd _ _ _ _ h e2, fs_dl_ne es]; grind
/-- what column j asks of a state at its end, k columns being cleared -/
def fs_th (n : Nat) (G : Nat → Bool) (k j : Nat) : Nat → Int := fun t => if j = n then (if t < k ∧ G t = true then 1 else 0) else (if k ≤ j ∧ t = j then -1 else 0)
/-- the numbers of the equations, k columns being cleared: off the diagonal -/
noncomputable def fs_U (n : Nat) (m : Nat → Nat) (nx : Nat → Nat → Nat) (w : Nat → Nat → Int) (G M : Nat → Bool) (k i j : Nat) : Int :=
  if i < k then fs_V n m nx w (fs_lv M k) (fs_th n G k j) i
  else if M i = true then fs_sum (fun l => w i l * fs_V n m nx w (fs_lv M k) (fs_th n G k j) (nx i l)) (m i)
  else fs_D n m nx w (fs_lv M k) * (if j = n ∧ G i = true then 1 else 0)
/-- the factor on the diagonal -/
def fs_cf (m : Nat → Nat) (w : Nat → Nat → Int) (M : Nat → Bool) (k i : Nat) : Int := if k ≤ i ∧ M i = true then fs_sum (fun l => w i l) (m i) else 1
/-- the numbers of the equations, k columns being cleared -/
noncomputable def fs_R (n : Nat) (m : Nat → Nat) (nx : Nat → Nat → Nat) (w : Nat → Nat → Int) (G M : Nat → Bool) (k i j : Nat) : Int :=
  (if i = j then fs_D n m nx w (fs_lv M k) * fs_cf m w M k i else 0) + fs_U n m nx w G M k i j
theorem fs_th_k {k : Nat} (hk : k < n) (t : Nat) : fs_th n G k k t = -1 * fs_dl k t := by
  unfold fs_th fs_dl
  rw [if_neg (by omega : ¬ k = n)]
  by_cases e : t = k
  · rw [if_pos ⟨Nat.le_refl _, e⟩, if_pos e]; rfl
  · rw [if_neg (fun z => e z.2), if_neg e]; rfl
theorem fs_th_k1 {k : Nat} (hk : k < n) (t : Nat) : fs_th n G (k + 1) k t = 0 := by
  unfold fs_th
  rw [if_neg (by omega : ¬ k = n), if_neg (by omega)]
theorem fs_th_ne {k j : Nat} (hj : ¬ j = k) (hG : j = n → G k = false) (t : Nat) : fs_th n G (k + 1) j t = fs_th n G k j t := by
  unfold fs_th
  by_cases e : j = n
  · rw [if_pos e, if_pos e]
    have hG' := hG e
    by_cases h1 : t < k ∧ G t = true
    · rw [if_pos h1, if_pos ⟨by omega, h1.2⟩]
    · rw [if_neg h1, if_neg (fun z => h1 ⟨by
        have h2 := z.1
        by_cases et : t = k
        · subst et; rw [hG'] at z; exact absurd z.2 (by decide)
        · omega, z.2⟩)]
  · rw [if_neg e, if_neg e]
    by_cases h1 : k ≤ j ∧ t = j
    · rw [if_pos h1, if_pos ⟨by omega, h1.2⟩]
    · rw [if_neg h1, if_neg (fun z => h1 ⟨by omega, z.2⟩)]
theorem fs_th_n {k : Nat} (hG : G k = true) (t : Nat) : fs_th n G (k + 1) n t = fs_th n G k n t + fs_dl k t := by
  unfold fs_th fs_dl
  rw [if_pos rfl, if_pos rfl]
  by_cases e : t = k
  · subst e
    rw [if_pos ⟨by omega, hG⟩, if_neg (by omega), if_pos rfl]; rfl
  · rw [if_neg e]
    by_cases h1 : t < k ∧ G t = true
    · rw [if_pos h1, if_pos ⟨by omega, h1.2⟩]; rfl
    · rw [if_neg h1, if_neg (fun z => h1 ⟨by omega, z.2⟩)]; rfl
theorem fs_th_at {k j : Nat} (hG : G k = false) : fs_th n G (k + 1) j k = 0 := by
  unfold fs_th
  by_cases e : j = n
  · rw [if_pos e, if_neg (fun z => by rw [hG] at z; exact absurd z.2 (by decide))]
  · rw [if_neg e, if_neg (by omega)]
/-- the pivot is the next weight -/
theorem fs_R_kk (H : fs_ok n m nx w G M) {k : Nat} (hk : k < n) : fs_R n m nx w G M k k k = fs_D n m nx w (fs_lv M (k + 1)) := by
  unfold fs_R fs_U fs_cf
  rw [if_pos rfl, if_neg (by omega : ¬ k < k)]
  cases hM : M k with
  | false =>
    rw [if_neg (fun z => absurd z.2 (by decide)), if_neg (by decide), if_neg (by omega : ¬ (k = n ∧ _)), fs_lv_no hM]
    omega
  | true =>
    rw [if_pos ⟨Nat.le_refl _, rfl⟩, if_pos rfl, fs_D_s H hk hM, ← fs_sum_mul, ← fs_sum_add]
    refine fs_sum_congr _ (fun l _ => ?_)
    have e1 : fs_V n m nx w (fs_lv M k) (fun t => if t = k then 0 else 1) (nx k l) = fs_D n m nx w (fs_lv M k) + fs_V n m nx w (fs_lv M k) (fs_th n G k k) (nx k l) := by
      rw [← fs_V_one n m nx w (fs_lv M k) (nx k l), ← fs_V_add]
      refine fs_V_congr (fun t => ?_) _
      rw [fs_th_k hk]
      unfold fs_dl
      by_cases e : t = k
      · rw [if_pos e, if_pos e]; rfl
      · rw [if_neg e, if_neg e]; rfl
    try dsimp only
    rw [e1]; grind
/-- column k, off the diagonal -/
theorem fs_R_ik {k : Nat} (hk : k < n) {i : Nat} (hi : ¬ i = k) : fs_R n m nx w G M k i k = - (if i < k then fs_V n m nx w (fs_lv M k) (fs_dl k) i else if M i = true then fs_sum (fun l => w i l * fs_V n m nx w (fs_lv M k) (fs_dl k) (nx i l)) (m i) else 0) := by
  have e1 : ∀ x, fs_V n m nx w (fs_lv M k) (fs_th n G k k) x = -1 * fs_V n m nx w (fs_lv M k) (fs_dl k) x := by
    intro x
    rw [← fs_V_mul]
    exact fs_V_congr (fs_th_k hk) x
  unfold fs_R fs_U
  rw [if_neg hi]
  by_cases h1 : i < k
  · rw [if_pos h1, if_pos h1, e1]; omega
  · rw [if_neg h1, if_neg h1]
    by_cases h2 : M i = true
    · rw [if_pos h2, if_pos h2, fs_sum_congr (g := fun l => -1 * (w i l * fs_V n m nx w (fs_lv M k) (fs_dl k) (nx i l))) (m i) (fun l _ => by (try dsimp only); rw [e1]; grind), fs_sum_mul]
      omega
    · rw [if_neg h2, if_neg h2, if_neg (by omega : ¬ (k = n ∧ _))]; omega
/-- row k stays -/
theorem fs_R_row (H : fs_ok n m nx w G M) {k : Nat} (hk : k < n) {j : Nat} : fs_R n m nx w G M (k + 1) k j = fs_R n m nx w G M k k j := by
  by_cases ej : j = k
  · subst ej
    rw [fs_R_kk H hk]
    unfold fs_R fs_U fs_cf
    rw [if_pos rfl, if_pos (by omega : j < j + 1), if_neg (by omega : ¬ (j + 1 ≤ j ∧ _)), fs_V_congr (g := fun _ => 0) (fs_th_k1 hk), fs_V_zero]
    omega
  · unfold fs_R fs_U
    rw [if_neg (fun z : k = j => ej z.symm), if_neg (fun z : k = j => ej z.symm), if_pos (by omega : k < k + 1), if_neg (by omega : ¬ k < k)]
    cases hM : M k with
    | false =>
      rw [if_neg (by decide), fs_lv_no hM, fs_V_bd _ _ _ _ _ (fs_lv_f (by omega))]
      have e1 : fs_th n G (k + 1) j k = if j = n ∧ G k = true then 1 else 0 := by
        unfold fs_th
        by_cases e : j = n
        · rw [if_pos e]
          by_cases hG : G k = true
          · rw [if_pos ⟨by omega, hG⟩, if_pos ⟨e, hG⟩]
          · rw [if_neg (fun z => hG z.2), if_neg (fun z => hG z.2)]
        · rw [if_neg e, if_neg (by omega), if_neg (fun z => e z.1)]
      rw [e1]
    | true =>
      have hG : G k = false := H.2.2.2.2.2.1 k hM
      rw [if_pos rfl, fs_V_top m w _ H.1 H.2.1 hk (fs_lv_i (by omega) hM), fs_lv_off]
      have e1 : fs_sum (fun r => w k r * fs_V n m nx w (fs_lv M k) (fun t => if t = k then 0 else fs_th n G (k + 1) j t) (nx k r)) (m k) = fs_sum (fun l => w k l * fs_V n m nx w (fs_lv M k) (fs_th n G k j) (nx k l)) (m k) := by
        refine fs_sum_congr _ (fun l _ => ?_)
        try dsimp only
        rw [fs_V_congr (g := fs_th n G k j) (fun t => ?_)]
        rw [← fs_th_ne ej (fun _ => hG)]
        by_cases e : t = k
        · subst e; rw [if_pos rfl, fs_th_at hG]
        · rw [if_neg e]
      rw [e1]
/-- the step of the elimination -/
theorem fs_bar (H : fs_ok n m nx w G M) {k : Nat} (hk : k < n) {i j : Nat} (hin : i < n) (hi : ¬ i = k) : fs_D n m nx w (fs_lv M k) * fs_R n m nx w G M (k + 1) i j = fs_R n m nx w G M k k k * fs_R n m nx w G M k i j - fs_R n m nx w G M k i k * fs_R n m nx w G M k k j := by
  by_cases ej : j = k
  · subst ej
    have e0 : fs_R n m nx w G M (j + 1) i j = 0 := by
      unfold fs_R fs_U
      rw [if_neg hi]
      by_cases h1 : i < j + 1
      · rw [if_pos h1, fs_V_congr (g := fun _ => 0) (fs_th_k1 hk), fs_V_zero]; rfl
      · rw [if_neg h1]
        by_cases h2 : M i = true
        · rw [if_pos h2, fs_sum_congr (g := fun _ => 0) (m i) (fun l _ => by (try dsimp only); rw [fs_V_congr (g := fun _ => 0) (fs_th_k1 hk), fs_V_zero, Int.mul_zero]), fs_sum_zero]; rfl
        · rw [if_neg h2, if_neg (by omega : ¬ (j = n ∧ _))]; omega
    rw [e0]; grind
  · have hrow : fs_R n m nx w G M k k j = fs_V n m nx w (fs_lv M (k + 1)) (fs_th n G (k + 1) j) k := by
      rw [← fs_R_row H hk]
      unfold fs_R fs_U
      rw [if_neg (fun z : k = j => ej z.symm), if_pos (by omega : k < k + 1), Int.zero_add]
    have hcf : fs_cf m w M (k + 1) i = fs_cf m w M k i := by
      unfold fs_cf
      by_cases h : k ≤ i ∧ M i = true
      · rw [if_pos h, if_pos ⟨by omega, h.2⟩]
      · rw [if_neg h, if_neg (fun z => h ⟨by omega, z.2⟩)]
    -- the step at a state x
    have hst : ∀ x, x < n → fs_D n m nx w (fs_lv M k) * fs_V n m nx w (fs_lv M (k + 1)) (fs_th n G (k + 1) j) x = fs_D n m nx w (fs_lv M (k + 1)) * fs_V n m nx w (fs_lv M k) (fs_th n G k j) x + fs_R n m nx w G M k k j * fs_V n m nx w (fs_lv M k) (fs_dl k) x := by
      intro x hx
      cases hM : M k with
      | true =>
        have hG : G k = false := H.2.2.2.2.2.1 k hM
        have := fs_star H hk hM (fs_th n G (k + 1) j) x hx
        rw [this, hrow, fs_th_at hG, fs_V_congr (act := fs_lv M k) (g := fs_th n G k j) (fun t => fs_th_ne ej (fun _ => hG) t)]
        grind
      | false =>
        rw [hrow, fs_lv_no hM, fs_V_bd (x := k) _ _ _ _ _ (fs_lv_f (by omega))]
        by_cases hc : j = n ∧ G k = true
        · obtain ⟨e, hG⟩ := hc
          subst e
          rw [fs_V_congr (fs_th_n hG) x, fs_V_add, fs_th_n hG]
          have e2 : fs_th j G k j k = 0 := by
            unfold fs_th
            rw [if_pos rfl, if_neg (by omega)]
          rw [e2, fs_dl_eq]; grind
        · have hG : j = n → G k = false := by
            intro e
            cases hG : G k with
            | false => rfl
            | true => exact absurd ⟨e, hG⟩ hc
          have e2 : fs_th n G (k + 1) j k = 0 := by
            unfold fs_th
            by_cases e : j = n
            · rw [if_pos e, if_neg (fun z => by rw [hG e] at z; exact absurd z.2 (by decide))]
            · rw [if_neg e, if_neg (by omega)]
          rw [e2, fs_V_congr (g := fs_th n G k j) (fun t => fs_th_ne ej hG t)]
          grind
    rw [fs_R_kk H hk, fs_R_ik hk hi]
    by_cases h1 : i < k
    · rw [if_pos h1]
      have h2 := hst i hin
      unfold fs_R fs_U
      rw [if_pos (by omega : i < k + 1), if_pos h1, hcf]
      unfold fs_R fs_U at h2
      by_cases e : i = j
      · rw [if_pos e, if_pos e]; grind
      · rw [if_neg e, if_neg e]; grind
    · rw [if_neg h1]
      by_cases h2 : M i = true
      · rw [if_pos h2]
        have h3 : fs_D n m nx w (fs_lv M k) * fs_sum (fun l => w i l * fs_V n m nx w (fs_lv M (k + 1)) (fs_th n G (k + 1) j) (nx i l)) (m i) = fs_D n m nx w (fs_lv M (k + 1)) * fs_sum (fun l => w i l * fs_V n m nx w (fs_lv M k) (fs_th n G k j) (nx i l)) (m i) + fs_R n m nx w G M k k j * fs_sum (fun l => w i l * fs_V n m nx w (fs_lv M k) (fs_dl k) (nx i l)) (m i) := by
          rw [← fs_sum_mul, ← fs_sum_mul, ← fs_sum_mul, ← fs_sum_add]
          refine fs_sum_congr _ (fun l _ => ?_)
          have := hst (nx i l) (H.2.1 i l)
          try dsimp only
          grind
        have e4 : fs_R n m nx w G M (k + 1) i j = (if i = j then fs_D n m nx w (fs_lv M (k + 1)) * fs_cf m w M k i else 0) + fs_sum (fun l => w i l * fs_V n m nx w (fs_lv M (k + 1)) (fs_th n G (k + 1) j) (nx i l)) (m i) := by
          unfold fs_R fs_U
          rw [if_neg (by omega : ¬ i < k + 1), if_pos h2, hcf]
        have e5 : fs_R n m nx w G M k i j = (if i = j then fs_D n m nx w (fs_lv M k) * fs_cf m w M k i else 0) + fs_sum (fun l => w i l * fs_V n m nx w (fs_lv M k) (fs_th n G k j) (nx i l)) (m i) := by
          unfold fs_R fs_U
          rw [if_neg h1, if_pos h2]
        rw [e4, e5]
        by_cases e : i = j
        · rw [if_pos e, if_pos e]; grind
        · rw [if_neg e, if_neg e]; grind
      · rw [if_neg h2]
        have e4 : fs_R n m nx w G M (k + 1) i j = (if i = j then fs_D n m nx w (fs_lv M (k + 1)) * fs_cf m w M k i else 0) + fs_D n m nx w (fs_lv M (k + 1)) * (if j = n ∧ G i = true then 1 else 0) := by
          unfold fs_R fs_U
          rw [if_neg (by omega : ¬ i < k + 1), if_neg h2, hcf]
        have e5 : fs_R n m nx w G M k i j = (if i = j then fs_D n m nx w (fs_lv M k) * fs_cf m w M k i else 0) + fs_D n m nx w (fs_lv M k) * (if j = n ∧ G i = true then 1 else 0) := by
          unfold fs_R fs_U
          rw [if_neg h1, if_neg h2]
        rw [e4, e5]
        by_cases e : i = j
        · rw [if_pos e, if_pos e]; grind
        · rw [if_neg e, if_neg e]; grind
/-- every number on the way is small -/
theorem fs_R_le (H : fs_ok n m nx w G M) {k i j : Nat} (hk : k ≤ n) (hi : i < n) : - (27 ^ 6) ≤ fs_R n m nx w G M k i j ∧ fs_R n m nx w G M k i j ≤ 27 ^ 6 := by
  have hw : ∀ s k, 0 ≤ w s k := fun s k => (H.2.2.1 s k).1
  have hD := fs_D_pos H k hk
  have hDl := fs_D_le H k hk
  have hn := H.1
  have hD6 : fs_D n m nx w (fs_lv M k) ≤ 27 ^ 6 := by
    have h4 : k = 0 ∨ k = 1 ∨ k = 2 ∨ k = 3 ∨ k = 4 ∨ k = 5 ∨ k = 6 := by omega
    rcases h4 with e | e | e | e | e | e | e <;> rw [e] at hDl ⊢ <;> omega
  have hV : ∀ x, (j = n → 0 ≤ fs_V n m nx w (fs_lv M k) (fs_th n G k j) x ∧ fs_V n m nx w (fs_lv M k) (fs_th n G k j) x ≤ fs_D n m nx w (fs_lv M k)) ∧ (¬ j = n → fs_V n m nx w (fs_lv M k) (fs_th n G k j) x ≤ 0 ∧ - fs_D n m nx w (fs_lv M k) ≤ fs_V n m nx w (fs_lv M k) (fs_th n G k j) x) := by
    intro x
    refine ⟨fun e => ⟨fs_V_nn hw _ (fun t => ?_) x, fs_V_leD hw _ (fun t => ?_) x⟩, fun e => ⟨?_, ?_⟩⟩
    · unfold fs_th; rw [if_pos e]; split <;> decide
    · unfold fs_th; rw [if_pos e]; split <;> decide
    · have h1 := fs_V_le (n := n) (m := m) (nx := nx) hw (fs_lv M k) (h := fs_th n G k j) (g := fun _ => 0) (fun t => by unfold fs_th; rw [if_neg e]; split <;> decide) x
      rw [fs_V_zero] at h1
      exact h1
    · have h1 := fs_V_le (n := n) (m := m) (nx := nx) hw (fs_lv M k) (h := fun t => -1 * (fun _ => 1) t) (g := fs_th n G k j) (fun t => by unfold fs_th; rw [if_neg e]; show (-1 : Int) ≤ _; split <;> decide) x
      rw [fs_V_mul, fs_V_one] at h1
      omega
  unfold fs_R fs_U
  by_cases h1 : i < k
  · rw [if_pos h1]
    have hc : fs_cf m w M k i = 1 := if_neg (by omega)
    rw [hc]
    by_cases ej : j = n
    · have h2 := (hV i).1 ej
      rw [if_neg (by omega : ¬ i = j)]; omega
    · have h2 := (hV i).2 ej
      by_cases e : i = j
      · rw [if_pos e]; omega
      · rw [if_neg e]; omega
  · rw [if_neg h1]
    have hD5 : 27 * fs_D n m nx w (fs_lv M k) ≤ 27 ^ 6 := by
      have h4 : k = 0 ∨ k = 1 ∨ k = 2 ∨ k = 3 ∨ k = 4 ∨ k = 5 := by omega
      rcases h4 with e | e | e | e | e | e <;> rw [e] at hDl ⊢ <;> omega
    by_cases h2 : M i = true
    · rw [if_pos h2]
      have hc : fs_cf m w M k i = fs_sum (fun l => w i l) (m i) := if_pos ⟨by omega, h2⟩
      rw [hc]
      by_cases ej : j = n
      · rw [if_neg (by omega : ¬ i = j)]
        have h3 := fs_wsum_le H i (u := fun l => fs_V n m nx w (fs_lv M k) (fs_th n G k j) (nx i l)) (Int.le_of_lt hD) (fun l => (hV (nx i l)).1 ej)
        try dsimp only at h3
        omega
      · have e1 : fs_sum (fun l => w i l * fs_V n m nx w (fs_lv M k) (fs_th n G k j) (nx i l)) (m i) = -1 * fs_sum (fun l => w i l * (-1 * fs_V n m nx w (fs_lv M k) (fs_th n G k j) (nx i l))) (m i) := by
          rw [← fs_sum_mul]
          exact fs_sum_congr _ (fun l _ => by (try dsimp only); grind)
        have h3 := fs_wsum_le H i (u := fun l => -1 * fs_V n m nx w (fs_lv M k) (fs_th n G k j) (nx i l)) (Int.le_of_lt hD) (fun l => by have := (hV (nx i l)).2 ej; (try dsimp only); omega)
        try dsimp only at h3
        rw [e1]
        have h5 := fs_wsum H i
        have h6 := Int.mul_le_mul_of_nonneg_left h5.2 (Int.le_of_lt hD)
        have h7 := Int.mul_nonneg (Int.le_of_lt hD) h5.1
        by_cases e : i = j
        · rw [if_pos e]
          omega
        · rw [if_neg e]; omega
    · rw [if_neg h2]
      have hc : fs_cf m w M k i = 1 := if_neg (fun z => h2 z.2)
      rw [hc]
      by_cases e : i = j
      · rw [if_pos e, if_neg (by omega : ¬ (j = n ∧ _))]; omega
      · rw [if_neg e]
        split <;> omega
/-- the equations as written -/
theorem fs_R_0 (i j : Nat) (hij : i = j → ¬ j = n) : fs_R n m nx w G M 0 i j = if M i = true then fs_sum (fun l => w i l * ((if i = j then 1 else 0) - (if ¬ j = n ∧ nx i l = j then 1 else 0))) (m i) else (if i = j then 1 else 0) + (if j = n ∧ G i = true then 1 else 0) := by
  unfold fs_R fs_U
  rw [if_neg (by omega : ¬ i < 0), fs_D_0]
  by_cases h : M i = true
  · have hcf : fs_cf m w M 0 i = fs_sum (fun l => w i l) (m i) := if_pos ⟨by omega, h⟩
    rw [if_pos h, if_pos h, hcf, Int.one_mul]
    have e1 : fs_sum (fun l => w i l * fs_V n m nx w (fs_lv M 0) (fs_th n G 0 j) (nx i l)) (m i) = fs_sum (fun l => w i l * - (if ¬ j = n ∧ nx i l = j then 1 else 0)) (m i) := by
      refine fs_sum_congr _ (fun l _ => ?_)
      try dsimp only
      rw [fs_V_bd _ _ _ _ _ (fs_lv_f (by omega)), fs_D_0]
      unfold fs_th
      by_cases e : j = n
      · rw [if_pos e, if_neg (by omega), if_neg (fun z => z.1 e)]; rfl
      · rw [if_neg e]
        by_cases e2 : nx i l = j
        · rw [if_pos ⟨by omega, e2⟩, if_pos ⟨e, e2⟩]; rfl
        · rw [if_neg (fun z => e2 z.2), if_neg (fun z => e2 z.2)]; rfl
    rw [e1]
    by_cases e : i = j
    · rw [if_pos e, ← fs_sum_add]
      exact fs_sum_congr _ (fun l _ => by (try dsimp only); rw [if_pos e]; grind)
    · rw [if_neg e, Int.zero_add]
      exact fs_sum_congr _ (fun l _ => by (try dsimp only); rw [if_neg e]; grind)
  · have hcf : fs_cf m w M 0 i = 1 := if_neg (fun z => h z.2)
    rw [if_neg h, if_neg h, hcf]
    omega
/-- the numbers at the end -/
theorem fs_R_n {i j : Nat} (hi : i < n) : (j < n → fs_R n m nx w G M n i j = if i = j then fs_D n m nx w (fs_lv M n) else 0) ∧ (j = n → fs_R n m nx w G M n i j = fs_V n m nx w (fs_lv M n) (fun t => if t < n ∧ G t = true then 1 else 0) i) := by
  have hc : fs_cf m w M n i = 1 := if_neg (by omega)
  unfold fs_R fs_U
  rw [hc, if_pos hi, Int.mul_one]
  refine ⟨fun h => ?_, fun h => ?_⟩
  · rw [fs_V_congr (h := fs_th n G n j) (g := fun _ => 0) (fun t => by unfold fs_th; rw [if_neg (by omega : ¬ j = n), if_neg (by omega)]), fs_V_zero]
    omega
  · rw [if_neg (by omega : ¬ i = j), Int.zero_add]
    exact fs_V_congr (fun t => by unfold fs_th; rw [if_pos h]) i
end
end
section
section
variable {n : Nat} {G : Nat → Bool}
/-- g / d are the chances under a plan whose ways are m, nx, w -/
def po_ok (n : Nat) (G : Nat → Bool) (m : Nat → Nat) (nx : Nat → Nat → Nat) (w : Nat → Nat → Int) (g : Nat → Int) (d : Int) : Prop :=
  0 < d ∧ (∀ s, s < n → 0 ≤ g s ∧ g s ≤ d) ∧ (∀ s, s < n → G s = true → g s = d) ∧
  (∀ s, s < n → G s = false → fs_sum (fun l => w s l * g (nx s l)) (m s) = fs_sum (fun l => w s l) (m s) * g s) ∧
  (∀ P : Nat → Prop, (∀ s, s < n → G s = true → P s) → (∀ s k, s < n → k < m s → P (nx s k) → P s) → ∀ s, s < n → 0 < g s → P s)
theorem po_lin (w g g' : Nat → Int) (d d' : Int) (k : Nat) : fs_sum (fun l => w l * (g l * d' - g' l * d)) k = d' * fs_sum (fun l => w l * g l) k - d * fs_sum (fun l => w l * g' l) k := by
  induction k with
  | zero => show (0 : Int) = d' * 0 - d * 0; omega
  | succ k ih =>
    show fs_sum (fun l => w l * (g l * d' - g' l * d)) k + w k * (g k * d' - g' k * d) = d' * (fs_sum (fun l => w l * g l) k + w k * g k) - d * (fs_sum (fun l => w l * g' l) k + w k * g' k)
    rw [ih]; grind
theorem po_desc {u : Nat → Int} (h : ∀ B : Nat, (∀ s, s < n → u s ≤ (B : Int) + 1) → ∀ s, s < n → u s ≤ (B : Int)) : ∀ s, s < n → u s ≤ 0 := by
  have key : ∀ B : Nat, (∀ s, s < n → u s ≤ (B : Int)) → ∀ s, s < n → u s ≤ 0 := by
    intro B
    induction B with
    | zero => intro h0 s hs; exact h0 s hs
    | succ B ih =>
      intro h0
      exact ih (h B (fun s hs => by have := h0 s hs; omega))
  obtain ⟨B, hB⟩ := fs_bound u n
  exact key B hB
theorem po_avg {w u : Nat → Int} {k : Nat} {B x : Int} (hp : ∀ l, l < k → 0 < w l) (hu : ∀ l, l < k → u l ≤ B + 1) (hs : fs_sum w k * x < fs_sum (fun l => w l * u l) k) : x ≤ B := by
  have h1 : fs_sum (fun l => w l * u l) k ≤ fs_sum (fun l => (B + 1) * w l) k := by
    refine fs_sum_le k (fun l hl => ?_)
    show w l * u l ≤ (B + 1) * w l
    rw [Int.mul_comm (w l)]
    exact Int.mul_le_mul_of_nonneg_right (hu l hl) (Int.le_of_lt (hp l hl))
  rw [fs_sum_mul, Int.mul_comm] at h1
  have h2 : fs_sum w k * x < fs_sum w k * (B + 1) := by omega
  have h3 := Int.lt_of_mul_lt_mul_left h2 (fs_sum_nonneg k (fun l hl => Int.le_of_lt (hp l hl)))
  omega
/-- a plan with a strictly better action at one state is nowhere worse -/
theorem po_up1 {mm : Nat → Nat → Nat} {nn : Nat → Nat → Nat → Nat} {ww : Nat → Nat → Nat → Int} (hx : ∀ s a k, nn s a k < n) (hp : ∀ s a k, s < n → k < mm s a → 0 < ww s a k)
    {π π' : Nat → Nat} {s0 : Nat} (hs0 : s0 < n) (hG0 : G s0 = false) (he : ∀ s, ¬ s = s0 → π' s = π s) {g g' : Nat → Int} {d d' : Int}
    (H : po_ok n G (fun s => mm s (π s)) (fun s => nn s (π s)) (fun s => ww s (π s)) g d)
    (H' : po_ok n G (fun s => mm s (π' s)) (fun s => nn s (π' s)) (fun s => ww s (π' s)) g' d')
    (hst : fs_sum (fun l => ww s0 (π' s0) l) (mm s0 (π' s0)) * g s0 < fs_sum (fun l => ww s0 (π' s0) l * g (nn s0 (π' s0) l)) (mm s0 (π' s0))) :
    ∀ s, s < n → g s * d' - g' s * d ≤ 0 := by
  obtain ⟨hd, hr, hgo, hh, hl⟩ := H
  obtain ⟨hd', hr', hgo', hh', hl'⟩ := H'
  refine po_desc (fun B hB => ?_)
  have hz : ∀ s, s < n → ¬ 0 < g s → g s * d' - g' s * d ≤ (B : Int) := by
    intro s hs h0
    have h1 : g s = 0 := by have := (hr s hs).1; omega
    have h2 := Int.mul_nonneg (hr' s hs).1 (Int.le_of_lt hd)
    rw [h1, Int.zero_mul]; omega
  have hgoal : ∀ s, s < n → G s = true → g s * d' - g' s * d ≤ (B : Int) := by
    intro s hs hG
    rw [hgo s hs hG, hgo' s hs hG, Int.mul_comm]; omega
  have hat : g s0 * d' - g' s0 * d ≤ (B : Int) := by
    refine po_avg (w := fun l => ww s0 (π' s0) l) (u := fun l => g (nn s0 (π' s0) l) * d' - g' (nn s0 (π' s0) l) * d) (k := mm s0 (π' s0)) (fun l hl => hp s0 _ l hs0 hl) (fun l _ => hB _ (hx _ _ _)) ?_
    have e1 := po_lin (fun l => ww s0 (π' s0) l) (fun l => g (nn s0 (π' s0) l)) (fun l => g' (nn s0 (π' s0) l)) d d' (mm s0 (π' s0))
    try dsimp only at e1
    rw [e1]
    have e2 := hh' s0 hs0 hG0
    try dsimp only at e2
    rw [e2]
    have h3 := Int.mul_lt_mul_of_pos_left hst hd'
    grind
  have hP := hl (fun s => g s * d' - g' s * d ≤ (B : Int)) hgoal (fun s k hs hk hP => ?_)
  · intro s hs
    by_cases h0 : 0 < g s
    · exact hP s hs h0
    · exact hz s hs h0
  · show g s * d' - g' s * d ≤ (B : Int)
    cases hG : G s with
    | true => exact hgoal s hs hG
    | false =>
      by_cases e : s = s0
      · rw [e]; exact hat
      · have e0 := he s e
        refine fs_avg (w := fun l => ww s (π s) l) (u := fun l => g (nn s (π s) l) * d' - g' (nn s (π s) l) * d) (k := mm s (π s)) (fun l hl => hp s _ l hs hl) (fun l _ => hB _ (hx _ _ _)) hk hP ?_
        have e1 := po_lin (fun l => ww s (π s) l) (fun l => g (nn s (π s) l)) (fun l => g' (nn s (π s) l)) d d' (mm s (π s))
        try dsimp only at e1
        rw [e1]
        have e2 := hh s hs hG
        have e3 := hh' s hs hG
        try dsimp only at e2 e3
        rw [e0] at e3
        rw [e2, e3]
        refine Int.le_of_eq ?_
        grind
theorem po_up2 {mm : Nat → Nat → Nat} {nn : Nat → Nat → Nat → Nat} {ww : Nat → Nat → Nat → Int} (hx : ∀ s a k, nn s a k < n) (hp : ∀ s a k, s < n → k < mm s a → 0 < ww s a k)
    {π' : Nat → Nat} {s0 : Nat} (hs0 : s0 < n) (hG0 : G s0 = false) {g g' : Nat → Int} {d d' : Int}
    (H' : po_ok n G (fun s => mm s (π' s)) (fun s => nn s (π' s)) (fun s => ww s (π' s)) g' d') (hd' : 0 < d')
    (hst : fs_sum (fun l => ww s0 (π' s0) l) (mm s0 (π' s0)) * g s0 < fs_sum (fun l => ww s0 (π' s0) l * g (nn s0 (π' s0) l)) (mm s0 (π' s0)))
    (hu : ∀ s, s < n → g s * d' - g' s * d ≤ 0) : g s0 * d' < g' s0 * d := by
  have e2 := H'.2.2.2.1 s0 hs0 hG0
  try dsimp only at e2
  have e1 := po_lin (fun l => ww s0 (π' s0) l) (fun l => g (nn s0 (π' s0) l)) (fun l => g' (nn s0 (π' s0) l)) d d' (mm s0 (π' s0))
  try dsimp only at e1
  have h1 : fs_sum (fun l => ww s0 (π' s0) l * (g (nn s0 (π' s0) l) * d' - g' (nn s0 (π' s0) l) * d)) (mm s0 (π' s0)) ≤ fs_sum (fun _ => 0) (mm s0 (π' s0)) := fs_sum_le _ (fun l hl => by
    have h2 := hu (nn s0 (π' s0) l) (hx _ _ _)
    have h3 := hp s0 (π' s0) l hs0 hl
    have h4 := Int.mul_le_mul_of_nonneg_left h2 (Int.le_of_lt h3)
    rw [Int.mul_zero] at h4
    exact h4)
  rw [fs_sum_zero, e1, e2] at h1
  have h3 := Int.mul_lt_mul_of_pos_left hst hd'
  have h5 : fs_sum (fun l => ww s0 (π' s0) l) (mm s0 (π' s0)) * (g s0 * d') < fs_sum (fun l => ww s0 (π' s0) l) (mm s0 (π' s0)) * (g' s0 * d) := by grind
  exact Int.lt_of_mul_lt_mul_left h5 (fs_sum_nonneg _ (fun l hl => Int.le_of_lt (hp s0 _ l hs0 hl)))
/-- a plan that no action betters is best -/
theorem po_opt {mm : Nat → Nat → Nat} {nn : Nat → Nat → Nat → Nat} {ww : Nat → Nat → Nat → Int} (hx : ∀ s a k, nn s a k < n) (hp : ∀ s a k, s < n → k < mm s a → 0 < ww s a k)
    {π' : Nat → Nat} {g g' : Nat → Int} {d d' : Int} (hd : 0 < d) (hg0 : ∀ s, s < n → 0 ≤ g s) (hgo : ∀ s, s < n → G s = true → g s = d)
    (H' : po_ok n G (fun s => mm s (π' s)) (fun s => nn s (π' s)) (fun s => ww s (π' s)) g' d')
    (hno : ∀ s, s < n → G s = false → fs_sum (fun l => ww s (π' s) l * g (nn s (π' s) l)) (mm s (π' s)) ≤ fs_sum (fun l => ww s (π' s) l) (mm s (π' s)) * g s) :
    ∀ s, s < n → g' s * d - g s * d' ≤ 0 := by
  obtain ⟨hd', hr', hgo', hh', hl'⟩ := H'
  refine po_desc (fun B hB => ?_)
  have hz : ∀ s, s < n → ¬ 0 < g' s → g' s * d - g s * d' ≤ (B : Int) := by
    intro s hs h0
    have h1 : g' s = 0 := by have := (hr' s hs).1; omega
    have h2 := Int.mul_nonneg (hg0 s hs) (Int.le_of_lt hd')
    rw [h1, Int.zero_mul]; omega
  have hgoal : ∀ s, s < n → G s = true → g' s * d - g s * d' ≤ (B : Int) := by
    intro s hs hG
    rw [hgo s hs hG, hgo' s hs hG, Int.mul_comm]; omega
  have hP := hl' (fun s => g' s * d - g s * d' ≤ (B : Int)) hgoal (fun s k hs hk hP => ?_)
  · intro s hs
    by_cases h0 : 0 < g' s
    · exact hP s hs h0
    · exact hz s hs h0
  · show g' s * d - g s * d' ≤ (B : Int)
    cases hG : G s with
    | true => exact hgoal s hs hG
    | false =>
      refine fs_avg (w := fun l => ww s (π' s) l) (u := fun l => g' (nn s (π' s) l) * d - g (nn s (π' s) l) * d') (k := mm s (π' s)) (fun l hl => hp s _ l hs hl) (fun l _ => hB _ (hx _ _ _)) hk hP ?_
      have e1 := po_lin (fun l => ww s (π' s) l) (fun l => g' (nn s (π' s) l)) (fun l => g (nn s (π' s) l)) d' d (mm s (π' s))
      try dsimp only at e1
      rw [e1]
      have e2 := hh' s hs hG
      try dsimp only at e2
      rw [e2]
      have h3 := Int.mul_le_mul_of_nonneg_left (hno s hs hG) (Int.le_of_lt hd')
      grind
theorem po_trans {a b c d e f : Int} (hb : 0 < b) (hd : 0 < d) (hf : 0 < f) (h1 : a * d ≤ c * b) (h2 : c * f ≤ e * d) : a * f ≤ e * b := by
  have h3 := Int.mul_le_mul_of_nonneg_right h1 (Int.le_of_lt hf)
  have h4 := Int.mul_le_mul_of_nonneg_right h2 (Int.le_of_lt hb)
  have h5 : d * (a * f) ≤ d * (e * b) := by grind
  exact Int.le_of_mul_le_mul_left h5 hd
theorem po_argmax {T d : Nat → Int} (hd : ∀ p, 0 < d p) : ∀ K : Nat, 0 < K → ∃ p, p < K ∧ ∀ q, q < K → T q * d p ≤ T p * d q := by
  intro K
  induction K with
  | zero => intro h; omega
  | succ K ih =>
    intro _
    by_cases hK : K = 0
    · subst hK
      exact ⟨0, by omega, fun q hq => by have : q = 0 := by omega
                                         subst this; exact Int.le_refl _⟩
    · obtain ⟨p, hp, hm⟩ := ih (by omega)
      by_cases hc : T K * d p ≤ T p * d K
      · refine ⟨p, by omega, fun q hq => ?_⟩
        by_cases e : q = K
        · subst e; exact hc
        · exact hm q (by omega)
      · refine ⟨K, by omega, fun q hq => ?_⟩
        by_cases e : q = K
        · subst e; exact Int.le_refl _
        · exact po_trans (hd q) (hd p) (hd K) (hm q (by omega)) (by omega)
/-- there is a plan that is best for all states at once -/
theorem po_best {mm : Nat → Nat → Nat} {nn : Nat → Nat → Nat → Nat} {ww : Nat → Nat → Nat → Int} (hx : ∀ s a k, nn s a k < n) (hp : ∀ s a k, s < n → k < mm s a → 0 < ww s a k)
    {ch : Nat → Nat → Nat} {K : Nat} (hK : 0 < K) {g : Nat → Nat → Int} {d : Nat → Int}
    (H : ∀ p, po_ok n G (fun s => mm s (ch p s)) (fun s => nn s (ch p s)) (fun s => ww s (ch p s)) (g p) (d p))
    (hsw : ∀ p, p < K → ∀ s0, s0 < n → ∀ q', 0 < mm s0 (ch q' s0) → ∃ q, q < K ∧ ch q s0 = ch q' s0 ∧ ∀ s, ¬ s = s0 → ch q s = ch p s) :
    ∃ p, p < K ∧ ∀ q s, s < n → g q s * d p ≤ g p s * d q := by
  obtain ⟨p, hpK, hm⟩ := po_argmax (T := fun p => fs_sum (g p) n) (d := d) (fun p => (H p).1) K hK
  refine ⟨p, hpK, fun q s hs => ?_⟩
  have := po_opt hx hp (π' := ch q) (g := g p) (g' := g q) (d := d p) (d' := d q) (H p).1 (fun s hs => ((H p).2.1 s hs).1) (H p).2.2.1 (H q) ?_ s hs
  · omega
  · intro s0 hs0 hG0
    apply Int.not_lt.mp
    intro hlt
    have hmm : 0 < mm s0 (ch q s0) := by
      apply Nat.pos_of_ne_zero
      intro e
      rw [e] at hlt
      have : (0 : Int) * g p s0 < 0 := hlt
      omega
    obtain ⟨q2, hq2, e1, e2⟩ := hsw p hpK s0 hs0 q hmm
    rw [← e1] at hlt
    have hu := po_up1 hx hp hs0 hG0 e2 (H p) (H q2) hlt
    have hs2 := po_up2 hx hp hs0 hG0 (H q2) (H q2).1 hlt hu
    have h1 := hm q2 hq2
    have h2 : fs_sum (fun s => d q2 * g p s) n < fs_sum (fun s => d p * g q2 s) n := by
      refine fs_sum_lt n (fun s hs => ?_) s0 hs0 ?_
      · have := hu s hs
        show d q2 * g p s ≤ d p * g q2 s
        rw [Int.mul_comm, Int.mul_comm (d p)]; omega
      · show d q2 * g p s0 < d p * g q2 s0
        rw [Int.mul_comm, Int.mul_comm (d p)]; exact hs2
    rw [fs_sum_mul, fs_sum_mul, Int.mul_comm, Int.mul_comm (d p)] at h2
    try dsimp only at h1
    have h3 : fs_sum (g q2) n * d p ≤ fs_sum (g p) n * d q2 := h1
    have h4 : fs_sum (g p) n * d q2 < fs_sum (g q2) n * d p := h2
    omega
end
end
section
theorem fs_sum_app (f : Nat → Int) (a : Nat) : ∀ b : Nat, fs_sum f (a + b) = fs_sum f a + fs_sum (fun i => f (a + i)) b := by
  intro b
  induction b with
  | zero => show fs_sum f a = fs_sum f a + 0; omega
  | succ b ih =>
    show fs_sum f (a + b) + f (a + b) = fs_sum f a + (fs_sum (fun i => f (a + i)) b + f (a + b))
    rw [ih]; omega
theorem fs_sum_blk (f : Nat → Int) (a : Nat) : ∀ b : Nat, fs_sum f (a * b) = fs_sum (fun r => fs_sum (fun c => f (a * r + c)) a) b := by
  intro b
  induction b with
  | zero => rfl
  | succ b ih =>
    show fs_sum f (a * b + a) = fs_sum (fun r => fs_sum (fun c => f (a * r + c)) a) b + fs_sum (fun c => f (a * b + c)) a
    rw [fs_sum_app, ih]
/-- how many choices there are below k -/
def fs_E (b : Nat → Nat) : Nat → Nat
  | 0 => 1
  | k + 1 => fs_E b k * b k
theorem fs_E_pos {b : Nat → Nat} : ∀ k : Nat, (∀ s, s < k → 0 < b s) → 0 < fs_E b k := by
  intro k
  induction k with
  | zero => intro _; exact Nat.one_pos
  | succ k ih => intro h; exact Nat.mul_pos (ih (fun s hs => h s (by omega))) (h k (by omega))
theorem fs_E_dvd {b : Nat → Nat} (s : Nat) : ∀ k : Nat, s < k → ∃ t, fs_E b k = fs_E b s * (b s * t) := by
  intro k
  induction k with
  | zero => intro h; omega
  | succ k ih =>
    intro h
    by_cases e : s = k
    · subst e; exact ⟨1, by show fs_E b s * b s = _; rw [Nat.mul_one]⟩
    · obtain ⟨t, ht⟩ := ih (by omega)
      refine ⟨t * b k, ?_⟩
      show fs_E b k * b k = _
      rw [ht, Nat.mul_assoc, Nat.mul_assoc]
/-- the choice that a code stands for -/
def fs_dec (b : Nat → Nat) (k code : Nat) (c : Nat → Nat) : Nat → Nat := fun s => if s < k then code / fs_E b s % b s else c s
theorem fs_dec_s {b : Nat → Nat} {k : Nat} (hb : ∀ s, s < k + 1 → 0 < b s) {r q : Nat} (hr : r < b k) (hq : q < fs_E b k) (c : Nat → Nat) : fs_dec b (k + 1) (fs_E b k * r + q) c = fs_dec b k q (fs_set c k r) := by
  funext s
  unfold fs_dec
  by_cases h : s < k
  · rw [if_pos h, if_pos (by omega)]
    obtain ⟨t, ht⟩ := fs_E_dvd (b := b) s k h
    have hp := fs_E_pos (b := b) s (fun s' hs' => hb s' (by omega))
    rw [ht, Nat.mul_assoc, Nat.mul_assoc, Nat.add_comm, Nat.add_mul_div_left _ _ hp, Nat.add_mul_mod_self_left]
  · rw [if_neg h]
    by_cases e : s = k
    · subst e
      rw [if_pos (by omega), fs_set_eq, Nat.add_comm, Nat.add_mul_div_left _ _ (by omega), Nat.div_eq_of_lt hq, Nat.zero_add, Nat.mod_eq_of_lt hr]
    · rw [if_neg (by omega), fs_set_ne c r e]
theorem fs_S_code {b : Nat → Nat} (φ : (Nat → Nat) → Int) : ∀ k : Nat, (∀ s, s < k → 0 < b s) → ∀ c, fs_S b k φ c = fs_sum (fun code => φ (fs_dec b k code c)) (fs_E b k) := by
  intro k
  induction k with
  | zero =>
    intro _ c
    show φ c = 0 + φ (fs_dec b 0 0 c)
    have e : fs_dec b 0 0 c = c := by
      funext s
      unfold fs_dec
      rw [if_neg (by omega)]
    rw [e]; omega
  | succ k ih =>
    intro hb c
    show fs_sum (fun r => fs_S b k φ (fs_set c k r)) (b k) = fs_sum (fun code => φ (fs_dec b (k + 1) code c)) (fs_E b k * b k)
    rw [fs_sum_blk]
    refine fs_sum_congr _ (fun r hr => ?_)
    rw [ih (fun s hs => hb s (by omega))]
    refine fs_sum_congr _ (fun q hq => ?_)
    try dsimp only
    rw [fs_dec_s hb hr hq]
/-- a moving state has ways -/
theorem fs_M_m {n : Nat} {m : Nat → Nat} {nx : Nat → Nat → Nat} {w : Nat → Nat → Int} {G M : Nat → Bool} (H : fs_ok n m nx w G M) {s : Nat} (hs : s < n) (hM : M s = true) : 0 < m s := by
  obtain ⟨hn, hx, hw, hp, hm, hg, hl⟩ := H
  have := hl (fun s => G s = true ∨ 0 < m s) (fun s _ h => Or.inl h) (fun s k _ hk _ => Or.inr (by omega)) s hs hM
  cases this with
  | inl h => rw [hg s hM] at h; exact absurd h (by decide)
  | inr h => exact h
/-- Euclid: the product halves -/
theorem eu_half {a b k : Nat} (hb : 0 < b) (hab : b ≤ a) (h : a * b < 2 ^ (k + 1)) : a % b < b ∧ b * (a % b) < 2 ^ k := by
  have h1 := Nat.mod_lt a hb
  refine ⟨h1, ?_⟩
  have h2 : 2 * (a % b) ≤ a := by
    have h3 := Nat.div_add_mod a b
    have h4 : 1 ≤ a / b := Nat.div_pos hab hb
    have h5 : b * 1 ≤ b * (a / b) := Nat.mul_le_mul_left b h4
    omega
  have h6 : b * (2 * (a % b)) ≤ b * a := Nat.mul_le_mul_left b h2
  have h7 : b * (2 * (a % b)) = 2 * (b * (a % b)) := by rw [Nat.mul_left_comm]
  have h8 : b * a = a * b := Nat.mul_comm _ _
  rw [Nat.pow_succ] at h
  omega
theorem eu_gcd (a b : Nat) : Nat.gcd b (a % b) = Nat.gcd a b := by
  rw [Nat.gcd_comm a b, Nat.gcd_rec b a, Nat.gcd_comm]
theorem eu_low1 {a b c d : Nat} (hb : 0 < b) (c1 : Nat.Coprime a b) (c2 : Nat.Coprime c d) (h : a * d = c * b) : a = c ∧ b = d := by
  have v1 : b ∣ d := by
    have : b ∣ a * d := ⟨c, by rw [h, Nat.mul_comm]⟩
    exact (Nat.Coprime.symm c1).dvd_of_dvd_mul_left this
  have v2 : d ∣ b := by
    have : d ∣ c * b := ⟨a, by rw [← h, Nat.mul_comm]⟩
    exact (Nat.Coprime.symm c2).dvd_of_dvd_mul_left this
  have e1 : b = d := Nat.dvd_antisymm v1 v2
  subst e1
  exact ⟨Nat.eq_of_mul_eq_mul_right hb h, rfl⟩
/-- equal fractions have equal lowest terms -/
theorem eu_low {a b c d : Nat} (hb : 0 < b) (hd : 0 < d) (h : a * d = c * b) : a / Nat.gcd a b = c / Nat.gcd c d ∧ b / Nat.gcd a b = d / Nat.gcd c d := by
  have hg1 : 0 < Nat.gcd a b := Nat.gcd_pos_of_pos_right _ hb
  have hg2 : 0 < Nat.gcd c d := Nat.gcd_pos_of_pos_right _ hd
  have ea := Nat.mul_div_cancel' (Nat.gcd_dvd_left a b)
  have eb := Nat.mul_div_cancel' (Nat.gcd_dvd_right a b)
  have ec := Nat.mul_div_cancel' (Nat.gcd_dvd_left c d)
  have ed := Nat.mul_div_cancel' (Nat.gcd_dvd_right c d)
  refine eu_low1 (Nat.div_pos (Nat.le_of_dvd hb (Nat.gcd_dvd_right a b)) hg1) (Nat.coprime_div_gcd_div_gcd hg1) (Nat.coprime_div_gcd_div_gcd hg2) ?_
  have h1 : (Nat.gcd a b * (a / Nat.gcd a b)) * (Nat.gcd c d * (d / Nat.gcd c d)) = (Nat.gcd c d * (c / Nat.gcd c d)) * (Nat.gcd a b * (b / Nat.gcd a b)) := by
    rw [ea, eb, ec, ed]; exact h
  have h2 : (Nat.gcd a b * Nat.gcd c d) * ((a / Nat.gcd a b) * (d / Nat.gcd c d)) = (Nat.gcd a b * Nat.gcd c d) * ((c / Nat.gcd c d) * (b / Nat.gcd a b)) := by
    generalize Nat.gcd a b = g at h1 ⊢
    generalize Nat.gcd c d = e at h1 ⊢
    generalize a / g = x at h1 ⊢
    generalize b / g = y at h1 ⊢
    generalize c / e = z at h1 ⊢
    generalize d / e = t at h1 ⊢
    grind
  exact Nat.eq_of_mul_eq_mul_left (Nat.mul_pos hg1 hg2) h2
end
section
/-- the graph's data are sound: n states, cnt the ways of each action, nxt and shr the ways' cells -/
def cf_ok (n : Nat) (cnt nxt shr : Nat → Nat) : Prop :=
  2 ≤ n ∧ n ≤ 6 ∧ (∀ c, cnt c ≤ 3) ∧ (∀ c, nxt c < n) ∧ (∀ c, shr c ≤ 9) ∧ (∀ c k, k < cnt c → 0 < shr (3 * c + k)) ∧ (∀ s, cnt (2 * s) = 0 → cnt (2 * s + 1) = 0)
/-- the ways of the chosen actions -/
def cf_m (cnt : Nat → Nat) (π : Nat → Nat) (s : Nat) : Nat := cnt (2 * s + π s)
def cf_nx (nxt : Nat → Nat) (π : Nat → Nat) (s k : Nat) : Nat := nxt (6 * s + 3 * π s + k)
def cf_w (shr : Nat → Nat) (π : Nat → Nat) (s k : Nat) : Int := (shr (6 * s + 3 * π s + k) : Int)
/-- the action that plan p chooses -/
def cf_ch (cnt : Nat → Nat) (p s : Nat) : Nat := if p.testBit s = true ∧ 0 < cnt (2 * s + 1) then 1 else 0
theorem cf_ch_le (cnt : Nat → Nat) (p s : Nat) : cf_ch cnt p s ≤ 1 := by
  unfold cf_ch
  split <;> omega
/-- s is in the least set that holds the goals and all that lead into it -/
def cf_RS (n : Nat) (m : Nat → Nat) (nx : Nat → Nat → Nat) (G : Nat → Bool) (s : Nat) : Prop :=
  ∀ P : Nat → Prop, (∀ s, s < n → G s = true → P s) → (∀ s k, s < n → k < m s → P (nx s k) → P s) → P s
noncomputable def cf_M (n : Nat) (m : Nat → Nat) (nx : Nat → Nat → Nat) (G : Nat → Bool) (s : Nat) : Bool := @decide (cf_RS n m nx G s ∧ G s = false) (Classical.propDecidable _)
theorem cf_M_t {n : Nat} {m : Nat → Nat} {nx : Nat → Nat → Nat} {G : Nat → Bool} {s : Nat} : cf_M n m nx G s = true ↔ cf_RS n m nx G s ∧ G s = false := by
  unfold cf_M
  exact @decide_eq_true_iff _ (Classical.propDecidable _)
theorem cf_RS_g {n : Nat} {m : Nat → Nat} {nx : Nat → Nat → Nat} {G : Nat → Bool} {s : Nat} (hs : s < n) (h : G s = true) : cf_RS n m nx G s := fun _ h1 _ => h1 s hs h
theorem cf_RS_s {n : Nat} {m : Nat → Nat} {nx : Nat → Nat → Nat} {G : Nat → Bool} {s k : Nat} (hs : s < n) (hk : k < m s) (h : cf_RS n m nx G (nx s k)) : cf_RS n m nx G s := fun P h1 h2 => h2 s k hs hk (h P h1 h2)
theorem cf_fs {n : Nat} {cnt nxt shr : Nat → Nat} (h : cf_ok n cnt nxt shr) (G : Nat → Bool) (π : Nat → Nat) : fs_ok n (cf_m cnt π) (cf_nx nxt π) (cf_w shr π) G (cf_M n (cf_m cnt π) (cf_nx nxt π) G) := by
  obtain ⟨h2, h6, hc, hx, hr, hp, h0⟩ := h
  refine ⟨h6, fun s k => hx _, fun s k => ?_, fun s k hs hk => ?_, fun s => hc _, fun s hM => (cf_M_t.mp hM).2, fun P h1 h2 s hs hM => (cf_M_t.mp hM).1 P h1 h2⟩
  · have := hr (6 * s + 3 * π s + k)
    unfold cf_w
    omega
  · have := hp (2 * s + π s) k hk
    unfold cf_w
    have e : 3 * (2 * s + π s) + k = 6 * s + 3 * π s + k := by omega
    rw [e] at this
    omega
/-- the goals as values -/
def cf_gl (n : Nat) (G : Nat → Bool) : Nat → Int := fun t => if t < n ∧ G t = true then 1 else 0
noncomputable def cf_g (n : Nat) (cnt nxt shr : Nat → Nat) (G : Nat → Bool) (π : Nat → Nat) (s : Nat) : Int := fs_V n (cf_m cnt π) (cf_nx nxt π) (cf_w shr π) (fs_lv (cf_M n (cf_m cnt π) (cf_nx nxt π) G) n) (cf_gl n G) s
noncomputable def cf_d (n : Nat) (cnt nxt shr : Nat → Nat) (G : Nat → Bool) (π : Nat → Nat) : Int := fs_D n (cf_m cnt π) (cf_nx nxt π) (cf_w shr π) (fs_lv (cf_M n (cf_m cnt π) (cf_nx nxt π) G) n)
theorem cf_gl_01 (n : Nat) (G : Nat → Bool) (t : Nat) : 0 ≤ cf_gl n G t ∧ cf_gl n G t ≤ 1 := by
  unfold cf_gl
  split <;> omega
theorem cf_po {n : Nat} {cnt nxt shr : Nat → Nat} (h : cf_ok n cnt nxt shr) (G : Nat → Bool) (π : Nat → Nat) : po_ok n G (cf_m cnt π) (cf_nx nxt π) (cf_w shr π) (cf_g n cnt nxt shr G π) (cf_d n cnt nxt shr G π) := by
  have H := cf_fs h G π
  have hw : ∀ s k, 0 ≤ cf_w shr π s k := fun s k => (H.2.2.1 s k).1
  have hd : 0 < cf_d n cnt nxt shr G π := fs_D_pos H n (Nat.le_refl _)
  have hdead : ∀ s, ¬ G s = true → ¬ cf_RS n (cf_m cnt π) (cf_nx nxt π) G s → cf_g n cnt nxt shr G π s = 0 := by
    intro s h1 h2
    unfold cf_g
    rw [fs_V_bd _ _ _ _ _ (fs_lv_f (fun z => h2 (cf_M_t.mp z.2).1))]
    unfold cf_gl
    rw [if_neg (fun z => h1 z.2), Int.mul_zero]
  refine ⟨hd, fun s _ => ⟨fs_V_nn hw _ (fun t => (cf_gl_01 n G t).1) s, fs_V_leD hw _ (fun t => (cf_gl_01 n G t).2) s⟩, fun s hs hG => ?_, fun s hs hG => ?_, fun P h1 h2 s hs hg => ?_⟩
  · unfold cf_g cf_d
    rw [fs_V_bd _ _ _ _ _ (fs_lv_f (fun z => by have := (cf_M_t.mp z.2).2; rw [hG] at this; exact absurd this (by decide)))]
    unfold cf_gl
    rw [if_pos ⟨hs, hG⟩, Int.mul_one]
  · by_cases hR : cf_RS n (cf_m cnt π) (cf_nx nxt π) G s
    · exact fs_V_harm _ _ _ H.1 H.2.1 hs (fs_lv_i hs (cf_M_t.mpr ⟨hR, hG⟩))
    · rw [hdead s (by rw [hG]; decide) hR, Int.mul_zero, ← fs_sum_zero (cf_m cnt π s)]
      refine fs_sum_congr _ (fun l hl => ?_)
      have h3 : ¬ cf_RS n (cf_m cnt π) (cf_nx nxt π) G (cf_nx nxt π s l) := fun z => hR (cf_RS_s hs hl z)
      have h4 : ¬ G (cf_nx nxt π s l) = true := fun z => h3 (cf_RS_g (H.2.1 s l) z)
      rw [hdead _ h4 h3, Int.mul_zero]
  · by_cases hR : cf_RS n (cf_m cnt π) (cf_nx nxt π) G s
    · exact hR P h1 h2
    · by_cases hG : G s = true
      · exact h1 s hs hG
      · rw [hdead s hG hR] at hg; omega
theorem cf_d_le {n : Nat} {cnt nxt shr : Nat → Nat} (h : cf_ok n cnt nxt shr) (G : Nat → Bool) (π : Nat → Nat) : cf_d n cnt nxt shr G π ≤ 27 ^ 6 := by
  have H := cf_fs h G π
  have hDl := fs_D_le H n (Nat.le_refl _)
  have hn := H.1
  unfold cf_d
  have h4 : n = 0 ∨ n = 1 ∨ n = 2 ∨ n = 3 ∨ n = 4 ∨ n = 5 ∨ n = 6 := by omega
  rcases h4 with e | e | e | e | e | e | e <;> subst e <;> omega
theorem cf_sw {n : Nat} {cnt : Nat → Nat} {p : Nat} (hp : p < 2 ^ n) {s0 : Nat} (hs0 : s0 < n) (q' : Nat) : ∃ q, q < 2 ^ n ∧ cf_ch cnt q s0 = cf_ch cnt q' s0 ∧ ∀ s, ¬ s = s0 → cf_ch cnt q s = cf_ch cnt p s := by
  by_cases hb : p.testBit s0 = q'.testBit s0
  · refine ⟨p, hp, ?_, fun s _ => rfl⟩
    unfold cf_ch
    rw [hb]
  · have h2 : 2 ^ s0 < 2 ^ n := Nat.pow_lt_pow_right (by decide) hs0
    refine ⟨p ^^^ 2 ^ s0, Nat.xor_lt_two_pow hp h2, ?_, fun s hs => ?_⟩
    · unfold cf_ch
      have e : (p ^^^ 2 ^ s0).testBit s0 = q'.testBit s0 := by
        rw [Nat.testBit_xor, Nat.testBit_two_pow]
        cases h3 : p.testBit s0 <;> cases h4 : q'.testBit s0 <;> simp_all
      rw [e]
    · unfold cf_ch
      have e : (p ^^^ 2 ^ s0).testBit s = p.testBit s := by
        rw [Nat.testBit_xor, Nat.testBit_two_pow]
        have : ¬ s0 = s := fun z => hs z.symm
        simp [this]
      rw [e]
/-- a plan that is best for all states at once -/
theorem cf_best {n : Nat} {cnt nxt shr : Nat → Nat} (h : cf_ok n cnt nxt shr) (G : Nat → Bool) : ∃ p, p < 2 ^ n ∧ ∀ q s, s < n → cf_g n cnt nxt shr G (cf_ch cnt q) s * cf_d n cnt nxt shr G (cf_ch cnt p) ≤ cf_g n cnt nxt shr G (cf_ch cnt p) s * cf_d n cnt nxt shr G (cf_ch cnt q) :=
  po_best (n := n) (G := G) (mm := fun s a => cnt (2 * s + a)) (nn := fun s a k => nxt (6 * s + 3 * a + k)) (ww := fun s a k => (shr (6 * s + 3 * a + k) : Int))
    (fun s a k => h.2.2.2.1 _)
    (fun s a k _ hk => by
      have := h.2.2.2.2.2.1 (2 * s + a) k hk
      have e : 3 * (2 * s + a) + k = 6 * s + 3 * a + k := by omega
      rw [e] at this
      show 0 < ((shr (6 * s + 3 * a + k) : Nat) : Int)
      omega)
    (ch := cf_ch cnt) (K := 2 ^ n) (Nat.two_pow_pos n) (g := fun p => cf_g n cnt nxt shr G (cf_ch cnt p)) (d := fun p => cf_d n cnt nxt shr G (cf_ch cnt p))
    (fun p => cf_po h G (cf_ch cnt p)) (fun p hp s0 hs0 q' _ => cf_sw hp hs0 q')
/-- how many of 0 .. k-1 are in S -/
def mk_cn (S : Nat → Bool) : Nat → Nat
  | 0 => 0
  | k + 1 => mk_cn S k + (if S k = true then 1 else 0)
theorem mk_cn_le (S : Nat → Bool) : ∀ k, mk_cn S k ≤ k := by
  intro k
  induction k with
  | zero => exact Nat.le_refl _
  | succ k ih =>
    show mk_cn S k + (if S k = true then 1 else 0) ≤ k + 1
    split <;> omega
theorem mk_cn_all {S : Nat → Bool} : ∀ k, k ≤ mk_cn S k → ∀ s, s < k → S s = true := by
  intro k
  induction k with
  | zero => intro _ s hs; omega
  | succ k ih =>
    intro h s hs
    have h1 := mk_cn_le S k
    have h2 : k + 1 ≤ mk_cn S k + (if S k = true then 1 else 0) := h
    by_cases e : S k = true
    · rw [if_pos e] at h2
      by_cases es : s = k
      · subst es; exact e
      · exact ih (by omega) s (by omega)
    · rw [if_neg e] at h2; omega
theorem mk_cn_mono {S T : Nat → Bool} : ∀ k, (∀ s, s < k → S s = true → T s = true) → mk_cn S k ≤ mk_cn T k := by
  intro k
  induction k with
  | zero => intro _; exact Nat.le_refl _
  | succ k ih =>
    intro h
    have h1 := ih (fun s hs => h s (by omega))
    have h2 := h k (by omega)
    show mk_cn S k + (if S k = true then 1 else 0) ≤ mk_cn T k + (if T k = true then 1 else 0)
    by_cases e : S k = true
    · rw [if_pos e, if_pos (h2 e)]; omega
    · rw [if_neg e]; omega
theorem mk_cn_lt {S T : Nat → Bool} : ∀ k, (∀ s, s < k → S s = true → T s = true) → (∃ s, s < k ∧ T s = true ∧ ¬ S s = true) → mk_cn S k < mk_cn T k := by
  intro k
  induction k with
  | zero => intro _ ⟨s, hs, _⟩; omega
  | succ k ih =>
    intro h ⟨s, hs, ht, hn⟩
    have h2 := h k (by omega)
    show mk_cn S k + (if S k = true then 1 else 0) < mk_cn T k + (if T k = true then 1 else 0)
    by_cases es : s = k
    · subst es
      have h1 := mk_cn_mono s (fun t ht' => h t (by omega))
      rw [if_pos ht, if_neg hn]; omega
    · have h1 := ih (fun t ht' => h t (by omega)) ⟨s, by omega, ht, hn⟩
      by_cases e : S k = true
      · rw [if_pos e, if_pos (h2 e)]; omega
      · rw [if_neg e]; omega
theorem mk_cn_pos {S : Nat → Bool} {s k : Nat} (hs : s < k) (h : S s = true) : 1 ≤ mk_cn S k := by
  have := mk_cn_lt (S := fun _ => false) (T := S) k (fun _ _ z => absurd z (by decide)) ⟨s, hs, h, by decide⟩
  omega
/-- what holds of the marks after r rounds -/
def mk_I (n : Nat) (m : Nat → Nat) (nx : Nat → Nat → Nat) (G : Nat → Bool) (r : Nat) (S : Nat → Bool) : Prop :=
  (∀ s, s < n → G s = true → S s = true) ∧ (∀ s, s < n → S s = true → cf_RS n m nx G s) ∧ ((∀ s, s < n → cf_RS n m nx G s → S s = true) ∨ r + 1 ≤ mk_cn S n)
theorem mk_I0 {n : Nat} {m : Nat → Nat} {nx : Nat → Nat → Nat} {G : Nat → Bool} (hx : ∀ s k, nx s k < n) {S : Nat → Bool} (h : ∀ s, s < n → S s = G s) : mk_I n m nx G 0 S := by
  refine ⟨fun s hs hG => by rw [h s hs]; exact hG, fun s hs hS => cf_RS_g hs (by rw [← h s hs]; exact hS), ?_⟩
  by_cases hg : ∃ s, s < n ∧ G s = true
  · obtain ⟨s, hs, hG⟩ := hg
    exact Or.inr (mk_cn_pos hs (by rw [h s hs]; exact hG))
  · refine Or.inl (fun s hs hR => ?_)
    exact absurd (hR (fun _ => False) (fun s hs hG => hg ⟨s, hs, hG⟩) (fun _ _ _ _ z => z)) (fun z => z)
theorem mk_I1 {n : Nat} {m : Nat → Nat} {nx : Nat → Nat → Nat} {G : Nat → Bool} (hx : ∀ s k, nx s k < n) {r : Nat} {S T : Nat → Bool} (h : mk_I n m nx G r S) (h1 : ∀ s, s < n → S s = true → T s = true) (h2 : ∀ s, s < n → T s = true → cf_RS n m nx G s) (h3 : ∀ s k, s < n → k < m s → S (nx s k) = true → T s = true) : mk_I n m nx G (r + 1) T := by
  obtain ⟨a, b, c⟩ := h
  refine ⟨fun s hs hG => h1 s hs (a s hs hG), h2, ?_⟩
  cases c with
  | inl c => exact Or.inl (fun s hs hR => h1 s hs (c s hs hR))
  | inr c =>
    by_cases hd : ∃ s, s < n ∧ T s = true ∧ ¬ S s = true
    · have := mk_cn_lt n h1 hd
      exact Or.inr (by omega)
    · refine Or.inl (fun s hs hR => ?_)
      have hcl : ∀ s, s < n → T s = true → S s = true := by
        intro s hs hT
        cases e : S s with
        | true => rfl
        | false => exact absurd ⟨s, hs, hT, by rw [e]; decide⟩ hd
      have := hR (fun s => s < n → S s = true) (fun s hs hG _ => a s hs hG) (fun s k hs hk hP _ => hcl s hs (h3 s k hs hk (hP (hx s k)))) hs
      exact h1 s hs this
theorem mk_IE {n : Nat} {m : Nat → Nat} {nx : Nat → Nat → Nat} {G : Nat → Bool} {r : Nat} {S : Nat → Bool} (h : mk_I n m nx G r S) (hr : n ≤ r + 1) : ∀ s, s < n → (S s = true ↔ cf_RS n m nx G s) := by
  obtain ⟨a, b, c⟩ := h
  intro s hs
  refine ⟨b s hs, fun hR => ?_⟩
  cases c with
  | inl c => exact c s hs hR
  | inr c => exact mk_cn_all n (by omega) s hs
end
section
/-- a long -/
def lj (z : Int) : Int64 := Int64.ofInt z
theorem lj_add (a b : Int) : lj a + lj b = lj (a + b) := (Int64.ofInt_add a b).symm
theorem lj_sub (a b : Int) : lj a - lj b = lj (a - b) := (Int64.ofInt_sub a b).symm
theorem lj_mul (a b : Int) : lj a * lj b = lj (a * b) := (Int64.ofInt_mul a b).symm
theorem lj_T {a : Int} (h1 : -2 ^ 63 ≤ a) (h2 : a < 2 ^ 63) : (lj a).toInt = a := Int64.toInt_ofInt_of_le h1 h2
theorem lj_lt {a b : Int} (ha1 : -2 ^ 63 ≤ a) (ha2 : a < 2 ^ 63) (hb1 : -2 ^ 63 ≤ b) (hb2 : b < 2 ^ 63) : lj a < lj b ↔ a < b := by
  rw [Int64.lt_iff_toInt_lt, lj_T ha1 ha2, lj_T hb1 hb2]
theorem lj_le {a b : Int} (ha1 : -2 ^ 63 ≤ a) (ha2 : a < 2 ^ 63) (hb1 : -2 ^ 63 ≤ b) (hb2 : b < 2 ^ 63) : lj a ≤ lj b ↔ a ≤ b := by
  rw [Int64.le_iff_toInt_le, lj_T ha1 ha2, lj_T hb1 hb2]
theorem lj_eq {a b : Int} (ha1 : -2 ^ 63 ≤ a) (ha2 : a < 2 ^ 63) (hb1 : -2 ^ 63 ≤ b) (hb2 : b < 2 ^ 63) : lj a = lj b ↔ a = b := by
  rw [← Int64.toInt_inj, lj_T ha1 ha2, lj_T hb1 hb2]
theorem lj_N (n : Nat) : lN n = lj (n : Int) := by
  apply Int64.toInt_inj.mp
  unfold lN lj
  rw [Int64.toInt_ofNat', Int64.toInt_ofInt]
theorem lj_0 : lj 0 = 0 := by decide
theorem lj_1 : lj 1 = 1 := by decide
/-- a division that leaves no rest -/
theorem lj_div {d q : Int} (hd : 0 < d) (hd2 : d < 2 ^ 62) (h1 : -2 ^ 62 ≤ d * q) (h2 : d * q < 2 ^ 62) : lj (d * q) / lj d = lj q := by
  unfold lj
  rw [← Int64.ofInt_tdiv (by show (-9223372036854775808 : Int) ≤ _; omega) (by show _ ≤ (9223372036854775807 : Int); omega) (by show (-9223372036854775808 : Int) ≤ _; omega) (by show _ ≤ (9223372036854775807 : Int); omega)]
  rw [Int.mul_tdiv_cancel_left q (by omega)]
/-- the share of a way as a long -/
theorem lj_sh {k : Nat} (h : k < 2 ^ 31) : (nI k).toInt64 = lj (k : Int) := by rw [nI_l h, lj_N]
theorem bi_1 : ∀ p, p < 64 → ∀ s, s < 6 → (nI p >>> (nI s &&& 31)) &&& 1 = if p.testBit s = true then 1 else 0 := by decide +kernel
theorem bi_2 : ∀ p, p < 64 → ∀ s, s < 6 → nI p ||| ((1 : Int32) <<< (nI s &&& 31)) = nI (p ||| 2 ^ s) := by decide +kernel
/-- the set p without s -/
def bi_off (p s : Nat) : Nat := p &&& (63 ^^^ 2 ^ s)
theorem bi_3 : ∀ p, p < 64 → ∀ s, s < 6 → nI p &&& (((1 : Int32) <<< (nI s &&& 31)) ^^^ (-1)) = nI (bi_off p s) := by decide +kernel
theorem bi_4 : ∀ p, p < 64 → ∀ q, q < 64 → nI p &&& (nI q ^^^ (-1)) = nI (p &&& (63 ^^^ q)) := by decide +kernel
theorem bi_5 : ∀ n, n < 7 → (1 : Int32) <<< (nI n &&& 31) = nI (2 ^ n) := by decide +kernel
theorem bi_off_t : ∀ p, p < 64 → ∀ s, s < 6 → bi_off p s < 64 ∧ ∀ t, t < 6 → (bi_off p s).testBit t = if t = s then false else p.testBit t := by decide +kernel
theorem bi_or_lt {p s : Nat} (hp : p < 64) (hs : s < 6) : p ||| 2 ^ s < 64 := by
  have h : (2 : Nat) ^ s < 2 ^ 6 := Nat.pow_lt_pow_right (by decide) hs
  exact Nat.or_lt_two_pow (n := 6) hp h
theorem bi_or_t {p s : Nat} (t : Nat) : (p ||| 2 ^ s).testBit t = if t = s then true else p.testBit t := by
  rw [Nat.testBit_or, Nat.testBit_two_pow]
  by_cases e : t = s
  · subst e; simp
  · have : ¬ s = t := fun z => e z.symm
    simp [e, this]
theorem bi_and_lt {p q : Nat} (hp : p < 64) : p &&& q < 64 := Nat.lt_of_le_of_lt Nat.and_le_left hp
theorem bi_and_t {p q t : Nat} (ht : t < 6) : (p &&& (63 ^^^ q)).testBit t = (p.testBit t && !q.testBit t) := by
  rw [Nat.testBit_and, Nat.testBit_xor]
  have : Nat.testBit 63 t = true := by
    have h : t = 0 ∨ t = 1 ∨ t = 2 ∨ t = 3 ∨ t = 4 ∨ t = 5 := by omega
    rcases h with e | e | e | e | e | e <;> subst e <;> decide
  rw [this]
  cases p.testBit t <;> cases q.testBit t <;> rfl
theorem bi_pow_le {n : Nat} (h : n ≤ 6) : 2 ^ n ≤ 64 := by
  have : (2 : Nat) ^ n ≤ 2 ^ 6 := Nat.pow_le_pow_right (by decide) h
  omega
end
section
/-- arrays of naturals -/
def xc (f : Nat → Nat) : Nat → Int32 := fun c => nI (f c)
/-- how many actions a state has -/
def xn (cnt : Nat → Nat) (s : Nat) : Nat := if cnt (2 * s) = 0 then 0 else if cnt (2 * s + 1) = 0 then 1 else 2
def xa (cnt : Nat → Nat) : Nat → Int32 := fun s => nI (xn cnt s)
/-- the goals -/
def xg (Γ : Nat) : Nat → Int32 := fun s => if Γ.testBit s = true then 1 else 0
def i_Rel (_ : Nat) (u : SX) (v : SY) : Prop := ∃ (n : Nat) (cnt nxt shr : Nat → Nat) (Γ : Nat) (cr : Nat → Int32) (eq pt pb et eb : Nat → Int64) (mv : Int32) (al : Int64) (pk : Nat → Int32) (gd tp bt : Nat → Int64),
  cf_ok n cnt nxt shr ∧ Γ < 64 ∧ u = ((nI n, nI (2 ^ n), xa cnt, xc cnt, xc nxt, xc shr, xg Γ, cr, eq, pt, pb, et, eb) : SX) ∧ v = ((nI n, nI Γ, mv, al, xc cnt, xc nxt, xc shr, pk, gd, tp, bt) : SY)
theorem i_up {k : Nat} {u : SX} {v : SY} (h : i_Rel k u v) : i_Rel (k + 4) u v := h
theorem x_upd (f : Nat → Nat) (i v : Nat) : upd (xc f) i (nI v) = xc (fs_set f i v) := by
  funext j
  unfold upd xc fs_set
  by_cases e : j = i
  · rw [if_pos e, if_pos e]
  · rw [if_neg e, if_neg e]
theorem ix_2 (s a : Nat) : (2 * nI s) + nI a = nI (2 * s + a) := by
  rw [show (2 : Int32) = nI 2 from rfl, pk_mul, nI_add]
theorem ix_20 (s : Nat) : 2 * nI s = nI (2 * s) := by
  rw [show (2 : Int32) = nI 2 from rfl, pk_mul]
theorem ix_3 (s a : Nat) : (3 * nI s) + nI a = nI (3 * s + a) := by
  rw [show (3 : Int32) = nI 3 from rfl, pk_mul, nI_add]
theorem ix_63 (s a k : Nat) : ((6 * nI s) + (3 * nI a)) + nI k = nI (6 * s + 3 * a + k) := by
  rw [show (3 : Int32) = nI 3 from rfl, show (6 : Int32) = nI 6 from rfl, pk_mul, pk_mul, nI_add, nI_add]
theorem ix_7 (s : Nat) : 7 * nI s = nI (7 * s) := by
  rw [show (7 : Int32) = nI 7 from rfl, pk_mul]
section
variable {n : Nat} {cnt nxt shr : Nat → Nat} {Γ : Nat} {cr : Nat → Int32} {eq pt pb et eb : Nat → Int64} {mv : Int32} {al : Int64} {pk : Nat → Int32} {gd tp bt : Nat → Int64}
theorem x_good_f {post : Int32 → Prop} {x : Int32} (hx : x < 0 ∨ nI n ≤ x) (h : post 0) : wpX_isGood post ((nI n, nI (2 ^ n), xa cnt, xc cnt, xc nxt, xc shr, xg Γ, cr, eq, pt, pb, et, eb) : SX) x := by
  by_cases h0 : x < 0
  · exact br_t h0 h
  · exact br_f h0 (br_t (hx.resolve_left h0) h)
theorem x_good_t {post : Int32 → Prop} {j : Nat} (hn : n ≤ 6) (hj : j < n) (h : post 1) : wpX_isGood post ((nI n, nI (2 ^ n), xa cnt, xc cnt, xc nxt, xc shr, xg Γ, cr, eq, pt, pb, et, eb) : SX) (nI j) :=
  br_f (nI_pos (by omega)) (br_f (nI_ge hj (by omega)) h)
theorem y_bad_t {post : Int32 → Prop} {x : Int32} (hx : x < 0 ∨ nI n ≤ x) (h : post 1) : wpY_bad post ((nI n, nI Γ, mv, al, xc cnt, xc nxt, xc shr, pk, gd, tp, bt) : SY) x := by
  by_cases h0 : x < 0
  · exact br_t h0 h
  · exact br_f h0 (br_t (hx.resolve_left h0) h)
theorem y_bad_f {post : Int32 → Prop} {j : Nat} (hn : n ≤ 6) (hj : j < n) (h : post 0) : wpY_bad post ((nI n, nI Γ, mv, al, xc cnt, xc nxt, xc shr, pk, gd, tp, bt) : SY) (nI j) :=
  br_f (nI_pos (by omega)) (br_f (nI_ge hj (by omega)) (br_t (nI_le (a := j) (b := 5) (by omega) (by omega)) h))
theorem x_plan_f {post : Int32 → Prop} {x : Int32} (hx : x < 0 ∨ nI (2 ^ n) ≤ x) (h : post 0) : wpX_isPlan post ((nI n, nI (2 ^ n), xa cnt, xc cnt, xc nxt, xc shr, xg Γ, cr, eq, pt, pb, et, eb) : SX) x := by
  by_cases h0 : x < 0
  · exact br_t h0 h
  · exact br_f h0 (br_t (hx.resolve_left h0) h)
theorem x_plan_t {post : Int32 → Prop} {j : Nat} (hn : n ≤ 6) (hj : j < 2 ^ n) (h : post 1) : wpX_isPlan post ((nI n, nI (2 ^ n), xa cnt, xc cnt, xc nxt, xc shr, xg Γ, cr, eq, pt, pb, et, eb) : SX) (nI j) := by
  have := bi_pow_le hn
  exact br_f (nI_pos (by omega)) (br_f (nI_ge hj (by omega)) h)
theorem y_plan_t {post : Int32 → Prop} {x : Int32} (hn : n ≤ 6) (hx : x < 0 ∨ nI (2 ^ n) ≤ x) (h : post 1) : wpY_badPlan post ((nI n, nI Γ, mv, al, xc cnt, xc nxt, xc shr, pk, gd, tp, bt) : SY) x := by
  by_cases h0 : x < 0
  · exact br_t h0 h
  · refine br_f h0 ?_
    rw [bi_5 n (by omega)]
    exact br_f (Int32.not_lt.mpr (hx.resolve_left h0)) h
theorem y_plan_f {post : Int32 → Prop} {j : Nat} (hn : n ≤ 6) (hj : j < 2 ^ n) (h : post 0) : wpY_badPlan post ((nI n, nI Γ, mv, al, xc cnt, xc nxt, xc shr, pk, gd, tp, bt) : SY) (nI j) := by
  have := bi_pow_le hn
  refine br_f (nI_pos (by omega)) ?_
  rw [bi_5 n (by omega)]
  exact br_t (nI_lt hj (by omega)) h
theorem i_mk {k : Nat} (h : cf_ok n cnt nxt shr) (hΓ : Γ < 64) : i_Rel k ((nI n, nI (2 ^ n), xa cnt, xc cnt, xc nxt, xc shr, xg Γ, cr, eq, pt, pb, et, eb) : SX) ((nI n, nI Γ, mv, al, xc cnt, xc nxt, xc shr, pk, gd, tp, bt) : SY) :=
  ⟨n, cnt, nxt, shr, Γ, cr, eq, pt, pb, et, eb, mv, al, pk, gd, tp, bt, h, hΓ, rfl, rfl⟩
end
theorem xg_0 : xg 0 = fun _ => 0 := by
  funext s
  unfold xg
  rw [Nat.zero_testBit, if_neg (by decide)]
theorem i_0 {n : Nat} (h2 : 2 ≤ n) (h6 : n ≤ 6) {f g : Int32} (hf : f = nI n) (hg : g = nI (2 ^ n)) {k : Nat} : i_Rel k (f, g, (fun _ => 0), (fun _ => 0), (fun _ => 0), (fun _ => 0), (fun _ => 0), (fun _ => 0), (fun _ => 0), (fun _ => 0), (fun _ => 0), (fun _ => 0), (fun _ => 0)) (f, 0, 0, 0, (fun _ => 0), (fun _ => 0), (fun _ => 0), (fun _ => 0), (fun _ => 0), (fun _ => 0), (fun _ => 0)) := by
  refine ⟨n, fun _ => 0, fun _ => 0, fun _ => 0, 0, fun _ => 0, fun _ => 0, fun _ => 0, fun _ => 0, fun _ => 0, fun _ => 0, 0, 0, fun _ => 0, fun _ => 0, fun _ => 0, fun _ => 0, ⟨h2, h6, fun _ => Nat.zero_le 3, fun _ => Nat.lt_of_lt_of_le (by decide : 0 < 2) h2, fun _ => Nat.zero_le 9, fun _ k h => absurd h (Nat.not_lt_zero k), fun _ _ => rfl⟩, by decide, ?_, ?_⟩
  · rw [xg_0, hf, hg]; rfl
  · rw [hf]; rfl
theorem i_vc0 (k0 : Int32) : wpX_init (fun u => wpY_init (fun v => i_Rel 1 u v) k0) k0 := by
  unfold wpX_init wpY_init
  by_cases h2 : 2 ≤ k0
  · by_cases h6 : k0 ≤ 6
    · have h0 : ¬ k0 < 0 := Int32.not_lt.mpr (Int32.le_trans (by decide) h2)
      obtain ⟨j, hj, rfl⟩ := nI_of h0
      have a2 : 2 ≤ j := (nI_leI (a := 2) (by omega) hj).mp h2
      have a6 : j ≤ 6 := (nI_leI (b := 6) hj (by omega)).mp h6
      refine br_t h2 (br_t h6 (nm_r (bi_5 j (by omega)) ?_))
      exact br_t h2 (br_t h6 (i_0 a2 a6 rfl rfl))
    · refine br_t h2 (br_f h6 (nm_r (bi_5 6 (by omega)) ?_))
      exact br_t h2 (br_f h6 (i_0 (n := 6) (by omega) (by omega) rfl rfl))
  · refine br_f h2 (nm_r (bi_5 2 (by omega)) ?_)
    exact br_f h2 (i_0 (n := 2) (by omega) (by omega) rfl rfl)
theorem i_vc_states {k : Nat} {u : SX} {v : SY} (I : i_Rel k u v) (hk : k + 4 ≤ 2049) : wpX_states (fun r => wpY_states (fun r' => r' = r ∧ i_Rel (k + 4) u v) v) u := by
  obtain ⟨n, cnt, nxt, shr, Γ, cr, eq, pt, pb, et, eb, mv, al, pk, gd, tp, bt, hc, hΓ, rfl, rfl⟩ := I
  exact ⟨rfl, i_mk hc hΓ⟩
end
section
theorem xa_at {cnt : Nat → Nat} {s : Nat} (hs : s < 6) : xa cnt (nI s).toNatClampNeg = nI (xn cnt s) := by rw [nI_clamp (by omega)]; rfl
theorem xc_at {f : Nat → Nat} {x : Int32} {c : Nat} (hx : x = nI c) (hc : c < 1000) : xc f x.toNatClampNeg = nI (f c) := by rw [hx, nI_clamp (by omega)]; rfl
theorem xn_le (cnt : Nat → Nat) (s : Nat) : xn cnt s ≤ 2 := by
  unfold xn
  split
  · omega
  · split <;> omega
/-- the graph with one way more -/
theorem w_ok {n : Nat} {cnt nxt shr : Nat → Nat} (h : cf_ok n cnt nxt shr) {s a x y : Nat} (ha : a < 2) (h1 : a = 1 → ¬ cnt (2 * s) = 0) (hk : cnt (2 * s + a) < 3) (hx : x < n) (hy1 : 1 ≤ y) (hy9 : y ≤ 9) : cf_ok n (fs_set cnt (2 * s + a) (cnt (2 * s + a) + 1)) (fs_set nxt (3 * (2 * s + a) + cnt (2 * s + a)) x) (fs_set shr (3 * (2 * s + a) + cnt (2 * s + a)) y) := by
  obtain ⟨h2, h6, hc, hn, hr, hp, h0⟩ := h
  refine ⟨h2, h6, fun c => ?_, fun c => ?_, fun c => ?_, fun c k hkc => ?_, fun t ht => ?_⟩
  · have := hc c
    unfold fs_set
    split <;> omega
  · have := hn c
    unfold fs_set
    split <;> omega
  · have := hr c
    unfold fs_set
    split <;> omega
  · unfold fs_set at hkc ⊢
    by_cases e : c = 2 * s + a
    · rw [if_pos e] at hkc
      subst e
      by_cases e2 : k = cnt (2 * s + a)
      · rw [if_pos (by omega)]; omega
      · rw [if_neg (by omega)]; exact hp _ k (by omega)
    · rw [if_neg e] at hkc
      have := hc c
      rw [if_neg (by omega)]
      exact hp c k hkc
  · unfold fs_set at ht ⊢
    by_cases e : 2 * t = 2 * s + a
    · rw [if_pos e] at ht; omega
    · rw [if_neg e] at ht
      have := h0 t ht
      by_cases e2 : 2 * t + 1 = 2 * s + a
      · exfalso
        have e3 : t = s := by omega
        subst e3
        exact h1 (by omega) ht
      · rw [if_neg e2]; exact this
theorem w_s0 {cnt : Nat → Nat} {t a v : Nat} : fs_set cnt (2 * t + a) v (2 * t) = if a = 0 then v else cnt (2 * t) := by
  unfold fs_set
  by_cases e : a = 0
  · rw [if_pos e, if_pos (by omega)]
  · rw [if_neg e, if_neg (by omega)]
theorem w_s1 {cnt : Nat → Nat} {t a v : Nat} : fs_set cnt (2 * t + a) v (2 * t + 1) = if a = 1 then v else cnt (2 * t + 1) := by
  unfold fs_set
  by_cases e : a = 1
  · rw [if_pos e, if_pos (by omega)]
  · rw [if_neg e, if_neg (by omega)]
theorem w_xn {cnt : Nat → Nat} {t a : Nat} (h0 : cnt (2 * t) = 0 → cnt (2 * t + 1) = 0) (ha : a < 2) (hle : a ≤ xn cnt t) : xn (fs_set cnt (2 * t + a) (cnt (2 * t + a) + 1)) t = if a = xn cnt t then a + 1 else xn cnt t := by
  unfold xn at hle ⊢
  rw [w_s0, w_s1]
  have ha' : a = 0 ∨ a = 1 := by omega
  by_cases c0 : cnt (2 * t) = 0
  · have c1 := h0 c0
    rcases ha' with e | e <;> subst e <;> simp_all
  · by_cases c1 : cnt (2 * t + 1) = 0
    · rcases ha' with e | e <;> subst e <;> simp_all
    · rcases ha' with e | e <;> subst e <;> simp_all
theorem w_xa1 {cnt : Nat → Nat} {s a : Nat} (h0 : cnt (2 * s) = 0 → cnt (2 * s + 1) = 0) (ha : a < 2) (hac : a = xn cnt s) : upd (xa cnt) s (nI (a + 1)) = xa (fs_set cnt (2 * s + a) (cnt (2 * s + a) + 1)) := by
  funext t
  unfold upd xa
  by_cases e : t = s
  · rw [if_pos e]
    subst e
    apply congrArg nI
    rw [w_xn h0 ha (by omega), if_pos hac]
  · rw [if_neg e]
    apply congrArg nI
    unfold xn fs_set
    rw [if_neg (by omega : ¬ 2 * t = 2 * s + a), if_neg (by omega : ¬ 2 * t + 1 = 2 * s + a)]
theorem w_xa2 {cnt : Nat → Nat} {s a : Nat} (h0 : cnt (2 * s) = 0 → cnt (2 * s + 1) = 0) (ha : a < 2) (hle : a ≤ xn cnt s) (hac : ¬ a = xn cnt s) : xa cnt = xa (fs_set cnt (2 * s + a) (cnt (2 * s + a) + 1)) := by
  funext t
  unfold xa
  apply congrArg nI
  by_cases e : t = s
  · subst e
    rw [w_xn h0 ha hle, if_neg hac]
  · unfold xn fs_set
    rw [if_neg (by omega : ¬ 2 * t = 2 * s + a), if_neg (by omega : ¬ 2 * t + 1 = 2 * s + a)]
theorem w_neg {x : Int32} (h : x < 0) : x >>> ((4 : Int32) &&& 31) < 0 := by
  rw [Int32.lt_iff_toInt_lt] at h ⊢
  rw [pk_shr x _ 4 (by decide), Int.shiftRight_eq_div_pow]
  have h0 : (0 : Int32).toInt = 0 := by decide
  rw [h0] at h ⊢
  have : ((2 : Nat) ^ 4 : Nat) = 16 := rfl
  omega
theorem w_sh {j : Nat} (hj : j < 2 ^ 31) : nI j >>> ((4 : Int32) &&& 31) = nI (j / 16) := pk_shrN hj _ 4 (by decide)
theorem w_an {j : Nat} (hj : j < 2 ^ 31) : nI j &&& 15 = nI (j % 16) := pk_andN (by omega) 4 (by decide)
theorem w_dv {j : Nat} (hj : j < 2 ^ 31) : nI j / 16 = nI (j / 16) := pk_div (d := 16) hj (by omega) (by omega)
theorem w_rm {j : Nat} (hj : j < 2 ^ 31) : nI j - nI j / 16 * 16 = nI (j % 16) := pk_rem (d := 16) hj (by omega) (by omega)
section
variable {n : Nat} {cnt nxt shr : Nat → Nat} {Γ : Nat} {cr : Nat → Int32} {eq pt pb et eb : Nat → Int64} {mv : Int32} {al : Int64} {pk : Nat → Int32} {gd tp bt : Nat → Int64}
/-- the reference's way, behind the test of the action -/
theorem y_way_3 {post : Int32 → SY → Prop} {s a : Nat} {z : Int32} (h : post (-3) ((nI n, nI Γ, mv, al, xc cnt, xc nxt, xc shr, pk, gd, tp, bt) : SY)) (hz : z < 0 ∨ ∃ j, j < 2 ^ 31 ∧ z = nI j ∧ (n ≤ j / 16 ∨ j % 16 < 1 ∨ 9 < j % 16)) (hn : n ≤ 6) : wY_way_38 post (nI s) (nI a) z (nI n) (nI Γ) mv al (xc cnt) (xc nxt) (xc shr) pk gd tp bt := by
  unfold wY_way_38
  by_cases h0 : z < 0
  · exact br_t h0 h
  · refine br_f h0 ⟨by decide, ?_⟩
    obtain ⟨j, hj, e, hc⟩ := hz.resolve_left h0
    subst e
    rw [w_rm hj, w_dv hj]
    refine pk_le n (j / 16) (fun _ => h) (fun h1 => ⟨by decide, ?_⟩)
    refine pk_lt (j % 16) 1 (fun _ => h) (fun h2 => ⟨by decide, ?_⟩)
    exact pk_le (j % 16) 9 (fun h3 => by omega) (fun _ => h)
theorem y_way_ok {post : Int32 → SY → Prop} {s a j : Nat} (hs : s < 6) (ha : a < 2) (hj : j < 2 ^ 31) (h1 : j / 16 < n) (h2 : 1 ≤ j % 16) (h3 : j % 16 ≤ 9) (hn : n ≤ 6) (hc : ∀ c, cnt c ≤ 3)
    (hf : 2 < cnt (2 * s + a) → post (-4) ((nI n, nI Γ, mv, al, xc cnt, xc nxt, xc shr, pk, gd, tp, bt) : SY))
    (hg : cnt (2 * s + a) < 3 → post (nI (cnt (2 * s + a) + 1)) ((nI n, nI Γ, mv, al, xc (fs_set cnt (2 * s + a) (cnt (2 * s + a) + 1)), xc (fs_set nxt (3 * (2 * s + a) + cnt (2 * s + a)) (j / 16)), xc (fs_set shr (3 * (2 * s + a) + cnt (2 * s + a)) (j % 16)), pk, gd, tp, bt) : SY)) : wY_way_38 post (nI s) (nI a) (nI j) (nI n) (nI Γ) mv al (xc cnt) (xc nxt) (xc shr) pk gd tp bt := by
  unfold wY_way_38
  have hcc := hc (2 * s + a)
  refine br_f (nI_pos (by omega)) ⟨by decide, ?_⟩
  rw [w_rm hj, w_dv hj, ix_2]
  refine pk_le n (j / 16) (fun _ => by omega) (fun _ => ⟨by decide, ?_⟩)
  refine pk_lt (j % 16) 1 (fun _ => by omega) (fun _ => ⟨by decide, ?_⟩)
  refine pk_le (j % 16) 9 (fun _ => ?_) (fun _ => by omega)
  refine ⟨pk_in (2 * s + a) 12 (by omega), nm_r (xc_at rfl (by omega)) ?_⟩
  rw [ix_63]
  refine pk_le (cnt (2 * s + a)) 2 (fun hk => ?_) (fun hk => hf hk)
  have e : 6 * s + 3 * a + cnt (2 * s + a) = 3 * (2 * s + a) + cnt (2 * s + a) := by omega
  rw [e]
  refine ⟨by decide, pk_in (3 * (2 * s + a) + cnt (2 * s + a)) 36 (by omega), ?_⟩
  rw [nI_clamp (by omega), nI_clamp (by omega)]
  refine nm_r (x_upd _ _ _) ⟨by decide, pk_in (3 * (2 * s + a) + cnt (2 * s + a)) 36 (by omega), ?_⟩
  refine nm_r (x_upd _ _ _) ⟨pk_in (2 * s + a) 12 (by omega), ?_⟩
  rw [nI_1]
  refine nm_r (x_upd _ _ _) ?_
  exact hg (by omega)
end
theorem i_vc_way {k : Nat} {u : SX} {v : SY} (I : i_Rel k u v) (hk : k + 4 ≤ 2049) (v1 : Int32) (v2 : Int32) (v3 : Int32) : wpX_way (fun r u' => wpY_way (fun r' v' => r' = r ∧ i_Rel (k + 4) u' v') v v1 v2 v3) u v1 v2 v3 := by
  obtain ⟨n, cnt, nxt, shr, Γ, cr, eq, pt, pb, et, eb, mv, al, pk, gd, tp, bt, hc, hΓ, rfl, rfl⟩ := I
  have HC := hc
  obtain ⟨h2, h6, hc3, hn, hr, hp, h0⟩ := HC
  unfold wpX_way
  have hrel : i_Rel (k + 4) ((nI n, nI (2 ^ n), xa cnt, xc cnt, xc nxt, xc shr, xg Γ, cr, eq, pt, pb, et, eb) : SX) ((nI n, nI Γ, mv, al, xc cnt, xc nxt, xc shr, pk, gd, tp, bt) : SY) := i_mk hc hΓ
  rcases pk_ix v1 (n := n) (by omega) with hb | hb | ⟨s, hs, rfl⟩
  · exact x_good_f (Or.inl hb) (br_t rfl (by unfold wpY_way; exact y_bad_t (Or.inl hb) (br_f (by decide) ⟨rfl, hrel⟩)))
  · exact x_good_f (Or.inr hb) (br_t rfl (by unfold wpY_way; exact y_bad_t (Or.inr hb) (br_f (by decide) ⟨rfl, hrel⟩)))
  refine x_good_t h6 hs (br_f (by decide) ?_)
  by_cases hn2 : v2 < 0
  · refine br_t hn2 ?_
    unfold wpY_way
    exact y_bad_f h6 hs (br_t rfl (br_t hn2 ⟨rfl, hrel⟩))
  refine br_f hn2 ?_
  obtain ⟨a, ha, rfl⟩ := nI_of hn2
  refine pk_le 2 a (fun h => ?_) (fun h => ?_)
  · unfold wpY_way
    exact y_bad_f h6 hs (br_t rfl (br_f hn2 (pk_lt 1 a (fun _ => ⟨rfl, hrel⟩) (fun h => by omega))))
  refine ⟨pk_in s 6 (by omega), ?_⟩
  rw [xa_at (by omega)]
  -- the reference, up to the way
  have hY : ∀ (post : Int32 → SY → Prop), (a ≤ xn cnt s → wY_way_38 post (nI s) (nI a) v3 (nI n) (nI Γ) mv al (xc cnt) (xc nxt) (xc shr) pk gd tp bt) → (¬ a ≤ xn cnt s → post (-2) ((nI n, nI Γ, mv, al, xc cnt, xc nxt, xc shr, pk, gd, tp, bt) : SY)) → wpY_way post ((nI n, nI Γ, mv, al, xc cnt, xc nxt, xc shr, pk, gd, tp, bt) : SY) (nI s) (nI a) v3 := by
    intro post hA hB
    unfold wpY_way
    refine y_bad_f h6 hs (br_t rfl (br_f hn2 (pk_lt 1 a (fun h => by omega) (fun _ => ?_))))
    refine pk_eq a 1 (fun e => ⟨?_, ?_⟩) (fun e => ?_)
    · rw [ix_20]; exact pk_in (2 * s) 12 (by omega)
    · rw [ix_20, xc_at rfl (by omega)]
      have := hc3 (2 * s)
      refine pk_eq (cnt (2 * s)) 0 (fun e0 => hB ?_) (fun e0 => hA ?_)
      · unfold xn; rw [if_pos e0]; omega
      · unfold xn; rw [if_neg e0]; split <;> omega
    · exact hA (by omega)
  have hxl := xn_le cnt s
  refine pk_le a (xn cnt s) (fun hle => ?_) (fun hle => hY _ (fun z => by omega) (fun _ => ⟨rfl, hrel⟩))
  by_cases hz : v3 < 0
  · refine nm_e (nm_e ?_)
    refine x_good_f (Or.inl (w_neg hz)) (br_t rfl ?_)
    exact hY _ (fun _ => y_way_3 ⟨rfl, hrel⟩ (Or.inl hz) h6) (fun z => by omega)
  obtain ⟨j, hj, rfl⟩ := nI_of hz
  refine nm_r (w_sh hj) (nm_r (w_an hj) ?_)
  by_cases g1 : j / 16 < n
  · refine x_good_t h6 g1 (br_f (by decide) ?_)
    refine pk_lt (j % 16) 1 (fun h1 => hY _ (fun _ => y_way_3 ⟨rfl, hrel⟩ (Or.inr ⟨j, hj, rfl, Or.inr (Or.inl h1)⟩) h6) (fun z => by omega)) (fun g2 => ?_)
    refine pk_le (j % 16) 9 (fun g3 => ?_) (fun h1 => hY _ (fun _ => y_way_3 ⟨rfl, hrel⟩ (Or.inr ⟨j, hj, rfl, Or.inr (Or.inr h1)⟩) h6) (fun z => by omega))
    have hcc := hc3 (2 * s + a)
    refine nm_r (ix_2 s a) ⟨pk_in (2 * s + a) 12 (by omega), nm_r (xc_at rfl (by omega)) ?_⟩
    rw [ix_3]
    refine pk_lt (cnt (2 * s + a)) 3 (fun hk3 => ?_) (fun hk3 => hY _ (fun _ => y_way_ok (by omega) h hj g1 (by omega) g3 h6 hc3 (fun _ => ⟨rfl, hrel⟩) (fun z => by omega)) (fun z => by omega))
    have h1' : a = 1 → ¬ cnt (2 * s) = 0 := by
      intro e z
      unfold xn at hle
      rw [if_pos z] at hle; omega
    have hok := w_ok (x := j / 16) (y := j % 16) hc (s := s) h h1' hk3 g1 (by omega) g3
    refine ⟨pk_in (3 * (2 * s + a) + cnt (2 * s + a)) 36 (by omega), ?_⟩
    rw [nI_clamp (by omega), nI_clamp (by omega), nI_clamp (by omega)]
    refine nm_r (x_upd _ _ _) ⟨pk_in (3 * (2 * s + a) + cnt (2 * s + a)) 36 (by omega), nm_r (x_upd _ _ _) ⟨pk_in (2 * s + a) 12 (by omega), ?_⟩⟩
    rw [nI_1]
    refine nm_r (x_upd _ _ _) ⟨pk_in s 6 (by omega), ?_⟩
    refine pk_eq a (xn cnt s) (fun he => ⟨pk_in s 6 (by omega), ?_⟩) (fun he => ?_)
    · rw [nI_1]
      refine nm_r (w_xa1 (h0 s) h he) ?_
      exact hY _ (fun _ => y_way_ok (by omega) h hj g1 (by omega) g3 h6 hc3 (fun z => by omega) (fun _ => ⟨rfl, i_mk hok hΓ⟩)) (fun z => by omega)
    · rw [w_xa2 (h0 s) h hle he]
      exact hY _ (fun _ => y_way_ok (by omega) h hj g1 (by omega) g3 h6 hc3 (fun z => by omega) (fun _ => ⟨rfl, i_mk hok hΓ⟩)) (fun z => by omega)
  · refine x_good_f (Or.inr (nI_le (by omega) (by omega))) (br_t rfl ?_)
    exact hY _ (fun _ => y_way_3 ⟨rfl, hrel⟩ (Or.inr ⟨j, hj, rfl, Or.inl (by omega)⟩) h6) (fun z => by omega)
end
section
section
variable {n : Nat} {cnt nxt shr : Nat → Nat} {Γ : Nat} {cr : Nat → Int32} {eq pt pb et eb : Nat → Int64} {mv : Int32} {al : Int64} {pk : Nat → Int32} {gd tp bt : Nat → Int64}
theorem y_acount {post : Int32 → Prop} {s : Nat} (hs : s < 6) (hc : ∀ c, cnt c ≤ 3) (h : post (nI (xn cnt s))) : wpY_actionCount post ((nI n, nI Γ, mv, al, xc cnt, xc nxt, xc shr, pk, gd, tp, bt) : SY) (nI s) := by
  unfold wpY_actionCount
  dsimp only
  have h1 := hc (2 * s)
  have h2 := hc (2 * s + 1)
  rw [ix_20, show nI (2 * s) + 1 = nI (2 * s + 1) from nI_1 _, xc_at rfl (by omega), xc_at rfl (by omega)]
  unfold xn at h
  refine ⟨pk_in (2 * s) 12 (by omega), pk_eq (cnt (2 * s)) 0 (fun e => ?_) (fun e => ⟨pk_in (2 * s + 1) 12 (by omega), pk_eq (cnt (2 * s + 1)) 0 (fun e1 => ?_) (fun e1 => ?_)⟩)⟩
  · rw [if_pos e] at h; exact h
  · rw [if_neg e, if_pos e1] at h; exact h
  · rw [if_neg e, if_neg e1] at h; exact h
end
/-- the graph without a state's actions -/
def st_cn (cnt : Nat → Nat) (s : Nat) : Nat → Nat := fs_set (fs_set cnt (2 * s) 0) (2 * s + 1) 0
theorem st_ok {n : Nat} {cnt nxt shr : Nat → Nat} (h : cf_ok n cnt nxt shr) (s : Nat) : cf_ok n (st_cn cnt s) nxt shr := by
  obtain ⟨h2, h6, hc, hn, hr, hp, h0⟩ := h
  have hle : ∀ c, st_cn cnt s c = 0 ∨ st_cn cnt s c = cnt c := by
    intro c
    unfold st_cn fs_set
    split
    · exact Or.inl rfl
    · split
      · exact Or.inl rfl
      · exact Or.inr rfl
  refine ⟨h2, h6, fun c => ?_, hn, hr, fun c k hk => ?_, fun t ht => ?_⟩
  · have := hc c
    rcases hle c with e | e <;> rw [e] <;> omega
  · rcases hle c with e | e
    · rw [e] at hk; omega
    · rw [e] at hk; exact hp c k hk
  · by_cases e : t = s
    · subst e; exact fs_set_eq _ _ _
    · unfold st_cn fs_set at ht ⊢
      rw [if_neg (by omega), if_neg (by omega)] at ht
      rw [if_neg (by omega), if_neg (by omega)]
      exact h0 t ht
theorem st_xa (cnt : Nat → Nat) (s : Nat) : upd (xa cnt) s 0 = xa (st_cn cnt s) := by
  funext t
  unfold upd xa
  by_cases e : t = s
  · subst e
    rw [if_pos rfl]
    unfold xn st_cn
    rw [fs_set_ne _ _ (by omega), fs_set_eq, if_pos rfl]; rfl
  · rw [if_neg e]
    apply congrArg nI
    have e1 : st_cn cnt s (2 * t) = cnt (2 * t) := by
      unfold st_cn
      rw [fs_set_ne _ _ (by omega), fs_set_ne _ _ (by omega)]
    have e2 : st_cn cnt s (2 * t + 1) = cnt (2 * t + 1) := by
      unfold st_cn
      rw [fs_set_ne _ _ (by omega), fs_set_ne _ _ (by omega)]
    unfold xn
    rw [e1, e2]
theorem x_upd0 (f : Nat → Nat) (i : Nat) : upd (xc f) i 0 = xc (fs_set f i 0) := x_upd f i 0
theorem i_vc_still {k : Nat} {u : SX} {v : SY} (I : i_Rel k u v) (hk : k + 4 ≤ 2049) (v1 : Int32) : wpX_still (fun r u' => wpY_still (fun r' v' => r' = r ∧ i_Rel (k + 4) u' v') v v1) u v1 := by
  obtain ⟨n, cnt, nxt, shr, Γ, cr, eq, pt, pb, et, eb, mv, al, pk, gd, tp, bt, hc, hΓ, rfl, rfl⟩ := I
  have HC := hc
  obtain ⟨h2, h6, hc3, hn, hr, hp, h0⟩ := HC
  unfold wpX_still
  have hrel : i_Rel (k + 4) ((nI n, nI (2 ^ n), xa cnt, xc cnt, xc nxt, xc shr, xg Γ, cr, eq, pt, pb, et, eb) : SX) ((nI n, nI Γ, mv, al, xc cnt, xc nxt, xc shr, pk, gd, tp, bt) : SY) := i_mk hc hΓ
  rcases pk_ix v1 (n := n) (by omega) with hb | hb | ⟨s, hs, rfl⟩
  · exact x_good_f (Or.inl hb) (br_t rfl (by unfold wpY_still; exact y_bad_t (Or.inl hb) (br_f (by decide) ⟨rfl, hrel⟩)))
  · exact x_good_f (Or.inr hb) (br_t rfl (by unfold wpY_still; exact y_bad_t (Or.inr hb) (br_f (by decide) ⟨rfl, hrel⟩)))
  refine x_good_t h6 hs (br_f (by decide) ⟨pk_in s 6 (by omega), nm_r (xa_at (by omega)) ⟨pk_in s 6 (by omega), ?_⟩⟩)
  rw [nI_clamp (by omega)]
  refine nm_r (st_xa cnt s) ?_
  refine ⟨3, ?_⟩
  rw [wX_still_26]
  refine br_f (by decide) ⟨?_, ?_⟩
  · exact pk_in (2 * s) 12 (by omega) (ix_2 s 0)
  have e0 : (2 * nI s) + 0 = nI (2 * s) := ix_2 s 0
  have e1 : (2 * nI s) + 1 = nI (2 * s + 1) := ix_2 s 1
  rw [e0, nI_clamp (by omega)]
  refine nm_r (x_upd0 _ _) (nm_e ?_)
  rw [wX_still_26]
  refine br_f (by decide) ⟨?_, ?_⟩
  · exact pk_in (2 * s + 1) 12 (by omega) e1
  have e1' : (2 * nI s) + (0 + 1) = nI (2 * s + 1) := ix_2 s 1
  rw [e1', nI_clamp (by omega)]
  refine nm_r (x_upd0 _ _) (nm_e ?_)
  rw [wX_still_26]
  refine br_t (by decide) ?_
  unfold wpY_still
  refine y_bad_f h6 hs (br_t rfl (y_acount (by omega) hc3 ?_))
  rw [ix_20]
  refine ⟨pk_in (2 * s) 12 (by omega), ?_⟩
  rw [nI_clamp (by omega), show nI (2 * s) + 1 = nI (2 * s + 1) from nI_1 _, nI_clamp (by omega)]
  refine nm_r (x_upd0 _ _) ⟨pk_in (2 * s + 1) 12 (by omega), nm_r (x_upd0 _ _) ⟨rfl, ?_⟩⟩
  exact i_mk (st_ok hc s) hΓ
theorem i_vc_actions {k : Nat} {u : SX} {v : SY} (I : i_Rel k u v) (hk : k + 4 ≤ 2049) (v1 : Int32) : wpX_actions (fun r => wpY_actions (fun r' => r' = r ∧ i_Rel (k + 4) u v) v v1) u v1 := by
  obtain ⟨n, cnt, nxt, shr, Γ, cr, eq, pt, pb, et, eb, mv, al, pk, gd, tp, bt, hc, hΓ, rfl, rfl⟩ := I
  have HC := hc
  obtain ⟨h2, h6, hc3, hn, hr, hp, h0⟩ := HC
  unfold wpX_actions
  have hrel : i_Rel (k + 4) ((nI n, nI (2 ^ n), xa cnt, xc cnt, xc nxt, xc shr, xg Γ, cr, eq, pt, pb, et, eb) : SX) ((nI n, nI Γ, mv, al, xc cnt, xc nxt, xc shr, pk, gd, tp, bt) : SY) := i_mk hc hΓ
  rcases pk_ix v1 (n := n) (by omega) with hb | hb | ⟨s, hs, rfl⟩
  · exact x_good_f (Or.inl hb) (br_t rfl (by unfold wpY_actions; exact y_bad_t (Or.inl hb) (br_f (by decide) ⟨rfl, hrel⟩)))
  · exact x_good_f (Or.inr hb) (br_t rfl (by unfold wpY_actions; exact y_bad_t (Or.inr hb) (br_f (by decide) ⟨rfl, hrel⟩)))
  refine x_good_t h6 hs (br_f (by decide) ⟨pk_in s 6 (by omega), ?_⟩)
  rw [xa_at (by omega)]
  unfold wpY_actions
  exact y_bad_f h6 hs (br_t rfl (y_acount (by omega) hc3 ⟨rfl, hrel⟩))
theorem vn_0 : vp_nar .boolean 0 = 0 := by decide
theorem vn_1 : vp_nar .boolean 1 = 1 := by decide
theorem xg_at {Γ s : Nat} (hs : s < 6) : xg Γ (nI s).toNatClampNeg = if Γ.testBit s = true then 1 else 0 := by rw [nI_clamp (by omega)]; rfl
theorem xg_off {Γ s : Nat} (hΓ : Γ < 64) (hs : s < 6) : upd (xg Γ) s 0 = xg (bi_off Γ s) := by
  funext t
  unfold upd xg
  by_cases ht : t < 6
  · rw [(bi_off_t Γ hΓ s hs).2 t ht]
    by_cases e : t = s
    · rw [if_pos e, if_pos e, if_neg (by decide)]
    · rw [if_neg e, if_neg e]
  · have e : ¬ t = s := by omega
    rw [if_neg e]
    have h1 : Γ.testBit t = false := Nat.testBit_lt_two_pow (Nat.lt_of_lt_of_le hΓ (Nat.pow_le_pow_right (n := 2) (by decide) (by omega : 6 ≤ t)))
    have h2 : (bi_off Γ s).testBit t = false := Nat.testBit_lt_two_pow (Nat.lt_of_lt_of_le (bi_off_t Γ hΓ s hs).1 (Nat.pow_le_pow_right (n := 2) (by decide) (by omega : 6 ≤ t)))
    rw [h1, h2]
theorem xg_on {Γ s : Nat} (hΓ : Γ < 64) (hs : s < 6) : upd (xg Γ) s 1 = xg (bi_off Γ s ||| 2 ^ s) := by
  funext t
  unfold upd xg
  rw [bi_or_t]
  by_cases e : t = s
  · rw [if_pos e, if_pos e, if_pos rfl]
  · rw [if_neg e, if_neg e]
    have := congrFun (xg_off hΓ hs) t
    unfold upd xg at this
    rw [if_neg e] at this
    exact this
theorem i_vc_goal {k : Nat} {u : SX} {v : SY} (I : i_Rel k u v) (hk : k + 4 ≤ 2049) (v1 : Int32) (v2 : Int32) : wpX_goal (fun r u' => wpY_goal (fun r' v' => r' = r ∧ i_Rel (k + 4) u' v') v v1 v2) u v1 v2 := by
  obtain ⟨n, cnt, nxt, shr, Γ, cr, eq, pt, pb, et, eb, mv, al, pk, gd, tp, bt, hc, hΓ, rfl, rfl⟩ := I
  have HC := hc
  obtain ⟨h2, h6, hc3, hn, hr, hp, h0⟩ := HC
  unfold wpX_goal
  have hrel : i_Rel (k + 4) ((nI n, nI (2 ^ n), xa cnt, xc cnt, xc nxt, xc shr, xg Γ, cr, eq, pt, pb, et, eb) : SX) ((nI n, nI Γ, mv, al, xc cnt, xc nxt, xc shr, pk, gd, tp, bt) : SY) := i_mk hc hΓ
  rcases pk_ix v1 (n := n) (by omega) with hb | hb | ⟨s, hs, rfl⟩
  · exact x_good_f (Or.inl hb) (br_t rfl (by unfold wpY_goal; exact y_bad_t (Or.inl hb) (br_f (by decide) ⟨rfl, hrel⟩)))
  · exact x_good_f (Or.inr hb) (br_t rfl (by unfold wpY_goal; exact y_bad_t (Or.inr hb) (br_f (by decide) ⟨rfl, hrel⟩)))
  have hY : ∀ (r : Int32) (Γ' : Nat), Γ' < 64 → r = (if Γ.testBit s = true then 1 else 0) → Γ' = (if v2 = 0 then bi_off Γ s else bi_off Γ s ||| 2 ^ s) → ∀ u' : SX, u' = ((nI n, nI (2 ^ n), xa cnt, xc cnt, xc nxt, xc shr, xg Γ', cr, eq, pt, pb, et, eb) : SX) → wpY_goal (fun r' v' => r' = r ∧ i_Rel (k + 4) u' v') ((nI n, nI Γ, mv, al, xc cnt, xc nxt, xc shr, pk, gd, tp, bt) : SY) (nI s) v2 := by
    intro r Γ' hΓ' hr' hG u' hu
    unfold wpY_goal
    refine y_bad_f h6 hs (br_t rfl (nm_r (bi_1 Γ hΓ s (by omega)) (nm_r (bi_3 Γ hΓ s (by omega)) ?_)))
    refine br_c (fun e => ?_) (fun e => ?_)
    · rw [if_pos e] at hG
      subst hu
      subst hG
      exact ⟨hr'.symm, i_mk hc hΓ'⟩
    · rw [if_neg e] at hG
      refine nm_r (bi_2 _ (bi_off_t Γ hΓ s (by omega)).1 s (by omega)) ?_
      subst hu
      subst hG
      exact ⟨hr'.symm, i_mk hc hΓ'⟩
  refine x_good_t h6 hs (br_f (by decide) ⟨pk_in s 6 (by omega), ?_⟩)
  rw [xg_at (by omega)]
  have hX : ∀ z : Int32, z = (if Γ.testBit s = true then 1 else 0) → wX_goal_24 (fun r u' => wpY_goal (fun r' v' => r' = r ∧ i_Rel (k + 4) u' v') ((nI n, nI Γ, mv, al, xc cnt, xc nxt, xc shr, pk, gd, tp, bt) : SY) (nI s) v2) (nI s) v2 z (nI n) (nI (2 ^ n)) (xa cnt) (xc cnt) (xc nxt) (xc shr) (xg Γ) cr eq pt pb et eb := by
    intro z hz
    unfold wX_goal_24
    rw [nI_clamp (by omega), vn_0, vn_1]
    refine br_c (fun e => ⟨pk_in s 6 (by omega), nm_r (xg_off hΓ (by omega)) ?_⟩) (fun e => ⟨pk_in s 6 (by omega), nm_r (xg_on hΓ (by omega)) ?_⟩)
    · exact hY _ _ (bi_off_t Γ hΓ s (by omega)).1 hz (by rw [if_pos e]) _ rfl
    · exact hY _ _ (bi_or_lt (bi_off_t Γ hΓ s (by omega)).1 (by omega)) hz (by rw [if_neg e]) _ rfl
  by_cases hb : Γ.testBit s = true
  · rw [if_pos hb] at hX ⊢
    exact br_f (by decide) (hX 1 rfl)
  · rw [if_neg hb] at hX ⊢
    exact br_t rfl (hX 0 rfl)
end
section
section
variable {n : Nat} {cnt nxt shr : Nat → Nat} {Γ : Nat} {eq pt pb et eb : Nat → Int64}
theorem x_cell {post : Int32 → Prop} {cr : Nat → Int32} {s p : Nat} (hs : s < 6) (hp : p < 64) (h0 : cnt (2 * s) = 0 → cnt (2 * s + 1) = 0) (h : post (nI (2 * s + cf_ch cnt p s))) : wpX_chosenCell post ((nI n, nI (2 ^ n), xa cnt, xc cnt, xc nxt, xc shr, xg Γ, cr, eq, pt, pb, et, eb) : SX) (nI s) (nI p) := by
  unfold wpX_chosenCell
  refine ⟨pk_in s 6 hs, ?_⟩
  rw [xa_at hs]
  have e2 := xn_le cnt s
  refine pk_eq (xn cnt s) 2 (fun e => nm_r (bi_1 p hp s hs) ?_) (fun e => ?_)
  · have hpos : 0 < cnt (2 * s + 1) := by
      unfold xn at e
      split at e
      · omega
      · split at e <;> omega
    by_cases hb : p.testBit s = true
    · rw [if_pos hb]
      have e1 : cf_ch cnt p s = 1 := if_pos ⟨hb, hpos⟩
      rw [e1] at h
      exact (ix_2 s 1).symm ▸ h
    · rw [if_neg hb]
      have e1 : cf_ch cnt p s = 0 := if_neg (fun z => hb z.1)
      rw [e1] at h
      exact (ix_2 s 0).symm ▸ h
  · have hz : cnt (2 * s + 1) = 0 := by
      unfold xn at e
      split at e
      · rename_i z; exact h0 z
      · split at e
        · rename_i z; exact z
        · omega
    have e1 : cf_ch cnt p s = 0 := if_neg (fun z => by omega)
    rw [e1] at h
    exact (ix_2 s 0).symm ▸ h
/-- the marks -/
def x_S (cr : Nat → Int32) : Nat → Bool := fun s => decide (¬ cr s = 0)
theorem x_S_t {cr : Nat → Int32} {s : Nat} : x_S cr s = true ↔ ¬ cr s = 0 := by
  unfold x_S
  exact decide_eq_true_iff
/-- what holds within a round, the states below s being done -/
def mk_Q (n : Nat) (m : Nat → Nat) (nx : Nat → Nat → Nat) (G : Nat → Bool) (S0 : Nat → Bool) (s : Nat) (cr : Nat → Int32) : Prop :=
  (∀ t, t < n → S0 t = true → ¬ cr t = 0) ∧ (∀ t, t < n → ¬ cr t = 0 → cf_RS n m nx G t) ∧ (∀ t k, t < s → t < n → k < m t → S0 (nx t k) = true → ¬ cr t = 0)
theorem x_mark59 {post : SX → Prop} {J30 J40 : Int32 → (Nat → Int32) → (Nat → Int32) → (Nat → Int32) → (Nat → Int32) → (Nat → Int32) → (Nat → Int32) → (Nat → Int64) → (Nat → Int64) → (Nat → Int64) → (Nat → Int64) → (Nat → Int64) → Prop} (hc : cf_ok n cnt nxt shr) {p r s : Nat} {S0 : Nat → Bool} (hs : s < n)
    (hJ : ∀ cr', mk_Q n (cf_m cnt (cf_ch cnt p)) (cf_nx nxt (cf_ch cnt p)) (fun t => Γ.testBit t) S0 (s + 1) cr' → J40 (nI (s + 1)) (xa cnt) (xc cnt) (xc nxt) (xc shr) (xg Γ) cr' eq pt pb et eb) :
    ∀ (d i : Nat) (cr : Nat → Int32), i + d = cnt (2 * s + cf_ch cnt p s) → mk_Q n (cf_m cnt (cf_ch cnt p)) (cf_nx nxt (cf_ch cnt p)) (fun t => Γ.testBit t) S0 s cr → (∀ k, k < i → S0 (cf_nx nxt (cf_ch cnt p) s k) = true → ¬ cr s = 0) →
    wX_markReachingStates_59 post J30 J40 (nI p) (nI r) (nI s) (nI (2 * s + cf_ch cnt p s)) (nI n) (nI (2 ^ n)) (d + 1) (nI i) (xa cnt) (xc cnt) (xc nxt) (xc shr) (xg Γ) cr eq pt pb et eb := by
  have HC := hc
  obtain ⟨h2, h6, hc3, hn, hr, hp, h0⟩ := HC
  have hch := cf_ch_le cnt p s
  have hcc := hc3 (2 * s + cf_ch cnt p s)
  intro d
  induction d with
  | zero =>
    intro i cr hi hQ hI
    rw [wX_markReachingStates_59]
    refine ⟨pk_in (2 * s + cf_ch cnt p s) 12 (by omega), ?_⟩
    rw [xc_at rfl (by omega)]
    refine pk_le (cnt (2 * s + cf_ch cnt p s)) i (fun _ => nm_r (nI_1 s) (hJ cr ⟨hQ.1, hQ.2.1, fun t k ht htn hk hS => ?_⟩)) (fun z => by omega)
    by_cases e : t = s
    · subst e
      exact hI k (by have : k < cnt (2 * t + cf_ch cnt p t) := hk
                     omega) hS
    · exact hQ.2.2 t k (by omega) htn hk hS
  | succ d ih =>
    intro i cr hi hQ hI
    rw [wX_markReachingStates_59]
    refine ⟨pk_in (2 * s + cf_ch cnt p s) 12 (by omega), ?_⟩
    rw [xc_at rfl (by omega)]
    refine pk_le (cnt (2 * s + cf_ch cnt p s)) i (fun z => by omega) (fun _ => ?_)
    rw [ix_3, xc_at rfl (by omega)]
    have hnx := hn (3 * (2 * s + cf_ch cnt p s) + i)
    have enx : nxt (3 * (2 * s + cf_ch cnt p s) + i) = cf_nx nxt (cf_ch cnt p) s i := by
      unfold cf_nx
      exact congrArg nxt (by omega)
    rw [enx] at hnx ⊢
    refine ⟨pk_in (3 * (2 * s + cf_ch cnt p s) + i) 36 (by omega), pk_in (cf_nx nxt (cf_ch cnt p) s i) 6 (by omega), ?_⟩
    rw [nI_clamp (n := cf_nx nxt (cf_ch cnt p) s i) (by omega), nI_clamp (n := s) (by omega), vn_1]
    refine br_c (fun hz => nm_r (nI_1 i) (ih (i + 1) cr (by omega) hQ (fun k hk hS => ?_))) (fun hz => ⟨pk_in s 6 (by omega), nm_e (nm_r (nI_1 i) (ih (i + 1) _ (by omega) ⟨fun t ht hS => ?_, fun t ht hS => ?_, fun t k ht htn hk hS => ?_⟩ (fun k hk hS => ?_)))⟩)
    · by_cases e : k = i
      · subst e
        exact absurd hz (hQ.1 _ hnx hS)
      · exact hI k (by omega) hS
    · unfold upd
      split
      · decide
      · exact hQ.1 t ht hS
    · by_cases e : t = s
      · subst e
        exact cf_RS_s (k := i) ht (by show i < cnt (2 * t + cf_ch cnt p t); omega) (hQ.2.1 _ hnx hz)
      · have : upd cr s 1 t = cr t := pk_un e
        rw [this] at hS
        exact hQ.2.1 t ht hS
    · unfold upd
      split
      · decide
      · exact hQ.2.2 t k ht htn hk hS
    · rw [pk_us]; decide
theorem x_mark40 {post : SX → Prop} {J30 : Int32 → (Nat → Int32) → (Nat → Int32) → (Nat → Int32) → (Nat → Int32) → (Nat → Int32) → (Nat → Int32) → (Nat → Int64) → (Nat → Int64) → (Nat → Int64) → (Nat → Int64) → (Nat → Int64) → Prop} (hc : cf_ok n cnt nxt shr) {p r : Nat} (hp64 : p < 64) {S0 : Nat → Bool}
    (hJ : ∀ cr', mk_Q n (cf_m cnt (cf_ch cnt p)) (cf_nx nxt (cf_ch cnt p)) (fun t => Γ.testBit t) S0 n cr' → J30 (nI (r + 1)) (xa cnt) (xc cnt) (xc nxt) (xc shr) (xg Γ) cr' eq pt pb et eb) :
    ∀ (d s : Nat) (cr : Nat → Int32), s + d = n → mk_Q n (cf_m cnt (cf_ch cnt p)) (cf_nx nxt (cf_ch cnt p)) (fun t => Γ.testBit t) S0 s cr →
    wX_markReachingStates_40 post J30 (nI p) (nI r) (nI n) (nI (2 ^ n)) (d + 1) (nI s) (xa cnt) (xc cnt) (xc nxt) (xc shr) (xg Γ) cr eq pt pb et eb := by
  have h6 := hc.2.1
  intro d
  induction d with
  | zero =>
    intro s cr hi hQ
    have e : s = n := by omega
    subst e
    rw [wX_markReachingStates_40]
    exact pk_le s s (fun _ => nm_r (nI_1 r) (hJ cr hQ)) (fun z => by omega)
  | succ d ih =>
    intro s cr hi hQ
    rw [wX_markReachingStates_40]
    refine pk_le n s (fun z => by omega) (fun _ => ?_)
    refine x_cell (by omega) hp64 (hc.2.2.2.2.2.2 s) ⟨cnt (2 * s + cf_ch cnt p s) + 1, ?_⟩
    exact x_mark59 hc (by omega) (fun cr' hQ' => ih (s + 1) cr' (by omega) hQ') (cnt (2 * s + cf_ch cnt p s)) 0 cr (by omega) hQ (fun k hk => by omega)
theorem x_mark30 {post : SX → Prop} (hc : cf_ok n cnt nxt shr) {p : Nat} (hp64 : p < 64)
    (hJ : ∀ cr', mk_I n (cf_m cnt (cf_ch cnt p)) (cf_nx nxt (cf_ch cnt p)) (fun t => Γ.testBit t) (n - 1) (x_S cr') → post ((nI n, nI (2 ^ n), xa cnt, xc cnt, xc nxt, xc shr, xg Γ, cr', eq, pt, pb, et, eb) : SX)) :
    ∀ (d r : Nat) (cr : Nat → Int32), r + 1 + d = n → mk_I n (cf_m cnt (cf_ch cnt p)) (cf_nx nxt (cf_ch cnt p)) (fun t => Γ.testBit t) r (x_S cr) →
    wX_markReachingStates_30 post (nI p) (nI n) (nI (2 ^ n)) (d + 1) (nI (r + 1)) (xa cnt) (xc cnt) (xc nxt) (xc shr) (xg Γ) cr eq pt pb et eb := by
  have h6 := hc.2.1
  have hx : ∀ s k, cf_nx nxt (cf_ch cnt p) s k < n := fun s k => hc.2.2.2.1 _
  intro d
  induction d with
  | zero =>
    intro r cr hi hI
    have e : r = n - 1 := by omega
    subst e
    rw [wX_markReachingStates_30]
    exact pk_le n (n - 1 + 1) (fun _ => hJ cr hI) (fun z => by omega)
  | succ d ih =>
    intro r cr hi hI
    rw [wX_markReachingStates_30]
    refine pk_le n (r + 1) (fun z => by omega) (fun _ => ⟨n + 1, ?_⟩)
    refine x_mark40 hc hp64 (S0 := x_S cr) (fun cr' hQ => ?_) n 0 cr (by omega) ⟨fun t ht h => x_S_t.mp h, fun t ht h => hI.2.1 t ht (x_S_t.mpr h), fun t k ht => by omega⟩
    exact ih (r + 1) cr' (by omega) (mk_I1 hx hI (fun t ht h => x_S_t.mpr (hQ.1 t ht h)) (fun t ht h => hQ.2.1 t ht (x_S_t.mp h)) (fun t k ht hk h => x_S_t.mpr (hQ.2.2 t k ht ht hk h)))
theorem xg_nar (Γ s : Nat) : vp_nar .boolean (xg Γ s) = xg Γ s := by
  unfold xg
  split
  · exact vn_1
  · exact vn_0
theorem x_mark2 {post : SX → Prop} (hc : cf_ok n cnt nxt shr) {p : Nat}
    (hJ : ∀ cr', (∀ t, t < n → cr' t = xg Γ t) → ∃ q, wX_markReachingStates_30 post (nI p) (nI n) (nI (2 ^ n)) q 1 (xa cnt) (xc cnt) (xc nxt) (xc shr) (xg Γ) cr' eq pt pb et eb) :
    ∀ (d i : Nat) (cr : Nat → Int32), i + d = n → (∀ t, t < i → cr t = xg Γ t) →
    wX_markReachingStates_2 post (nI p) (nI n) (nI (2 ^ n)) (d + 1) (nI i) (xa cnt) (xc cnt) (xc nxt) (xc shr) (xg Γ) cr eq pt pb et eb := by
  have h6 := hc.2.1
  intro d
  induction d with
  | zero =>
    intro i cr hi hI
    have e : i = n := by omega
    subst e
    rw [wX_markReachingStates_2]
    exact pk_le i i (fun _ => hJ cr hI) (fun z => by omega)
  | succ d ih =>
    intro i cr hi hI
    rw [wX_markReachingStates_2]
    refine pk_le n i (fun z => by omega) (fun _ => ⟨pk_in i 6 (by omega), pk_in i 6 (by omega), ?_⟩)
    rw [nI_clamp (by omega), xg_nar]
    refine nm_e (nm_r (nI_1 i) (ih (i + 1) _ (by omega) (fun t ht => ?_)))
    by_cases e : t = i
    · subst e; exact pk_us
    · rw [pk_un e]; exact hI t (by omega)
theorem x_mark {post : SX → Prop} {cr : Nat → Int32} (hc : cf_ok n cnt nxt shr) {p : Nat} (hp64 : p < 64)
    (h : ∀ cr', (∀ t, t < n → (¬ cr' t = 0 ↔ cf_RS n (cf_m cnt (cf_ch cnt p)) (cf_nx nxt (cf_ch cnt p)) (fun t => Γ.testBit t) t)) → post ((nI n, nI (2 ^ n), xa cnt, xc cnt, xc nxt, xc shr, xg Γ, cr', eq, pt, pb, et, eb) : SX)) : wpX_markReachingStates post ((nI n, nI (2 ^ n), xa cnt, xc cnt, xc nxt, xc shr, xg Γ, cr, eq, pt, pb, et, eb) : SX) (nI p) := by
  have hx : ∀ s k, cf_nx nxt (cf_ch cnt p) s k < n := fun s k => hc.2.2.2.1 _
  have h2 := hc.1
  refine ⟨n + 1, ?_⟩
  refine x_mark2 hc (fun cr1 h1 => ⟨n - 1 + 1, ?_⟩) n 0 cr (by omega) (fun t ht => by omega)
  refine x_mark30 hc hp64 (fun cr' hI => h cr' (fun t ht => ?_)) (n - 1) 0 cr1 (by omega) (mk_I0 hx (fun s hs => ?_))
  · rw [← x_S_t]
    exact mk_IE hI (by omega) t ht
  · unfold x_S
    rw [h1 s hs]
    unfold xg
    cases Γ.testBit s <;> decide
end
end
section
/-- the numbers of the component's equations under plan p, k columns being cleared -/
noncomputable def xr (n : Nat) (cnt nxt shr : Nat → Nat) (Γ p k i j : Nat) : Int := fs_R n (cf_m cnt (cf_ch cnt p)) (cf_nx nxt (cf_ch cnt p)) (cf_w shr (cf_ch cnt p)) (fun t => Γ.testBit t) (cf_M n (cf_m cnt (cf_ch cnt p)) (cf_nx nxt (cf_ch cnt p)) (fun t => Γ.testBit t)) k i j
noncomputable def xd (n : Nat) (cnt nxt shr : Nat → Nat) (Γ p k : Nat) : Int := fs_D n (cf_m cnt (cf_ch cnt p)) (cf_nx nxt (cf_ch cnt p)) (cf_w shr (cf_ch cnt p)) (fs_lv (cf_M n (cf_m cnt (cf_ch cnt p)) (cf_nx nxt (cf_ch cnt p)) (fun t => Γ.testBit t)) k)
/-- row i of the equations' cells holds f -/
def xrow (n : Nat) (eq : Nat → Int64) (i : Nat) (f : Nat → Int) : Prop := ∀ j, j ≤ n → eq (7 * i + j) = lj (f j)
theorem xi_7 (i j : Nat) : 7 * nI i + nI j = nI (7 * i + j) := by rw [ix_7, nI_add]
theorem xu1 {n s : Nat} {eq : Nat → Int64} {A : Nat → Int} {W : Int} (hs : s ≤ n) (hA : ∀ j, j ≤ n → eq (7 * s + j) = lj (A j)) (t : Nat) (ht : t ≤ n) : vp_updL eq (7 * s + s) (lj (A s + W)) (7 * s + t) = lj (A t + (if s = t then W else 0)) := by
  by_cases e : s = t
  · rw [if_pos e, ← e, pk_uLs]
  · rw [if_neg e, pk_uLn (by omega), hA t ht, Int.add_zero]
theorem xu2 {n s x : Nat} {eq : Nat → Int64} {A : Nat → Int} {W : Int} (hs : s ≤ n) (hx : x ≤ n) (hA : ∀ j, j ≤ n → eq (7 * s + j) = lj (A j)) (j : Nat) (hj : j ≤ n) :
    vp_updL (vp_updL eq (7 * s + s) (lj (A s + W))) (7 * s + x) ((vp_updL eq (7 * s + s) (lj (A s + W))) (7 * s + x) - lj W) (7 * s + j) = lj (A j + (if s = j then W else 0) - (if x = j then W else 0)) := by
  by_cases e : x = j
  · rw [if_pos e, e, pk_uLs, xu1 hs hA j hj, lj_sub]
  · rw [if_neg e, pk_uLn (by omega), xu1 hs hA j hj, Int.sub_zero]
/-- what way l of state s puts into column j, by its share -/
def xk (n : Nat) (nx : Nat → Nat → Nat) (s l j : Nat) : Int := (if s = j then 1 else 0) - (if ¬ j = n ∧ nx s l = j then 1 else 0)
theorem xk_w {n : Nat} {nx : Nat → Nat → Nat} {s l : Nat} (h : nx s l < n) (j : Nat) (W : Int) : (if s = j then W else 0) - (if nx s l = j then W else 0) = W * xk n nx s l j := by
  unfold xk
  by_cases e1 : s = j
  · by_cases e2 : nx s l = j
    · rw [if_pos e1, if_pos e2, if_pos e1, if_pos ⟨by omega, e2⟩]; omega
    · rw [if_pos e1, if_neg e2, if_pos e1, if_neg (fun z => e2 z.2)]; omega
  · by_cases e2 : nx s l = j
    · rw [if_neg e1, if_pos e2, if_neg e1, if_pos ⟨by omega, e2⟩]; omega
    · rw [if_neg e1, if_neg e2, if_neg e1, if_neg (fun z => e2 z.2)]; omega
section
variable {n : Nat} {cnt nxt shr : Nat → Nat} {Γ : Nat} {cr : Nat → Int32} {pt pb et eb : Nat → Int64}
theorem xr_0f {p s : Nat} (hs : s < n) (hM : ¬ cf_M n (cf_m cnt (cf_ch cnt p)) (cf_nx nxt (cf_ch cnt p)) (fun t => Γ.testBit t) s = true) (j : Nat) : xr n cnt nxt shr Γ p 0 s j = (if s = j then 1 else 0) + (if j = n ∧ Γ.testBit s = true then 1 else 0) := by
  unfold xr
  rw [fs_R_0 (n := n) s j (fun e => by omega), if_neg hM]
theorem xr_0t {p s : Nat} (hs : s < n) (hM : cf_M n (cf_m cnt (cf_ch cnt p)) (cf_nx nxt (cf_ch cnt p)) (fun t => Γ.testBit t) s = true) (j : Nat) : xr n cnt nxt shr Γ p 0 s j = fs_sum (fun l => cf_w shr (cf_ch cnt p) s l * xk n (cf_nx nxt (cf_ch cnt p)) s l j) (cf_m cnt (cf_ch cnt p) s) := by
  unfold xr
  rw [fs_R_0 (n := n) s j (fun e => by omega), if_pos hM]
  rfl
/-- the ways of a moving state are written -/
theorem x_we97 {post : SX → Prop} (hc : cf_ok n cnt nxt shr) {p s : Nat} (hs : s < n) {eq0 : Nat → Int64}
    (h : ∀ eq', xrow n eq' s (fun j => fs_sum (fun l => cf_w shr (cf_ch cnt p) s l * xk n (cf_nx nxt (cf_ch cnt p)) s l j) (cf_m cnt (cf_ch cnt p) s)) → (∀ q, ¬ (7 * s ≤ q ∧ q ≤ 7 * s + n) → eq' q = eq0 q) → post ((nI n, nI (2 ^ n), xa cnt, xc cnt, xc nxt, xc shr, xg Γ, cr, eq', pt, pb, et, eb) : SX)) :
    ∀ (d i : Nat) (eq : Nat → Int64), i + d = cf_m cnt (cf_ch cnt p) s → xrow n eq s (fun j => fs_sum (fun l => cf_w shr (cf_ch cnt p) s l * xk n (cf_nx nxt (cf_ch cnt p)) s l j) i) → (∀ q, ¬ (7 * s ≤ q ∧ q ≤ 7 * s + n) → eq q = eq0 q) →
    wX_writeEquation_97 post (nI s) (nI (7 * s)) (nI (2 * s + cf_ch cnt p s)) (nI n) (nI (2 ^ n)) (d + 1) (nI i) (xa cnt) (xc cnt) (xc nxt) (xc shr) (xg Γ) cr eq pt pb et eb := by
  have HC := hc
  obtain ⟨h2, h6, hc3, hn, hr, hp, h0⟩ := HC
  have hch := cf_ch_le cnt p s
  have hcc := hc3 (2 * s + cf_ch cnt p s)
  have em : cf_m cnt (cf_ch cnt p) s = cnt (2 * s + cf_ch cnt p s) := rfl
  intro d
  induction d with
  | zero =>
    intro i eq hi hR hO
    have e : i = cf_m cnt (cf_ch cnt p) s := by omega
    rw [wX_writeEquation_97]
    refine ⟨pk_in (2 * s + cf_ch cnt p s) 12 (by omega), ?_⟩
    rw [xc_at rfl (by omega)]
    refine pk_le (cnt (2 * s + cf_ch cnt p s)) i (fun _ => ?_) (fun z => by omega)
    rw [e] at hR
    exact h eq hR hO
  | succ d ih =>
    intro i eq hi hR hO
    rw [wX_writeEquation_97]
    refine ⟨pk_in (2 * s + cf_ch cnt p s) 12 (by omega), ?_⟩
    rw [xc_at rfl (by omega)]
    refine pk_le (cnt (2 * s + cf_ch cnt p s)) i (fun z => by omega) (fun _ => ?_)
    rw [ix_3, xc_at rfl (by omega), xc_at rfl (by omega)]
    have hnx := hn (3 * (2 * s + cf_ch cnt p s) + i)
    have hsh := hr (3 * (2 * s + cf_ch cnt p s) + i)
    have eix : 3 * (2 * s + cf_ch cnt p s) + i = 6 * s + 3 * cf_ch cnt p s + i := by omega
    have enx : nxt (3 * (2 * s + cf_ch cnt p s) + i) = cf_nx nxt (cf_ch cnt p) s i := by rw [eix]; rfl
    have esh : ((shr (3 * (2 * s + cf_ch cnt p s) + i) : Nat) : Int) = cf_w shr (cf_ch cnt p) s i := by rw [eix]; rfl
    rw [enx] at hnx ⊢
    rw [nI_add, nI_add]
    refine ⟨pk_in (3 * (2 * s + cf_ch cnt p s) + i) 36 (by omega), nm_e ⟨pk_in (7 * s + s) 42 (by omega), pk_in (7 * s + s) 42 (by omega), ?_⟩⟩
    rw [lj_sh (by omega), esh, nI_clamp (n := 7 * s + s) (by omega), hR s (by omega), lj_add]
    refine nm_e ⟨pk_in (3 * (2 * s + cf_ch cnt p s) + i) 36 (by omega), pk_in (7 * s + cf_nx nxt (cf_ch cnt p) s i) 42 (by omega), pk_in (7 * s + cf_nx nxt (cf_ch cnt p) s i) 42 (by omega), ?_⟩
    rw [nI_clamp (n := 7 * s + cf_nx nxt (cf_ch cnt p) s i) (by omega)]
    refine nm_e (nm_r (nI_1 i) (ih (i + 1) _ (by omega) (fun j hj => ?_) (fun q hq => ?_)))
    · have h1 := xu2 (n := n) (s := s) (x := cf_nx nxt (cf_ch cnt p) s i) (eq := eq) (W := cf_w shr (cf_ch cnt p) s i) (by omega) (by omega) hR j hj
      refine Eq.trans h1 (congrArg lj ?_)
      show fs_sum (fun l => cf_w shr (cf_ch cnt p) s l * xk n (cf_nx nxt (cf_ch cnt p)) s l j) i + _ - _ = fs_sum (fun l => cf_w shr (cf_ch cnt p) s l * xk n (cf_nx nxt (cf_ch cnt p)) s l j) i + cf_w shr (cf_ch cnt p) s i * xk n (cf_nx nxt (cf_ch cnt p)) s i j
      rw [← xk_w hnx j]
      omega
    · rw [pk_uLn (by omega), pk_uLn (by omega)]
      exact hO q hq
theorem x_we51 {post : SX → Prop} (hc : cf_ok n cnt nxt shr) {s : Nat} (hs : s < n) {eq0 : Nat → Int64}
    (h : ∀ eq', xrow n eq' s (fun j => (if s = j then 1 else 0) + (if j = n ∧ Γ.testBit s = true then 1 else 0)) → (∀ q, ¬ (7 * s ≤ q ∧ q ≤ 7 * s + n) → eq' q = eq0 q) → post ((nI n, nI (2 ^ n), xa cnt, xc cnt, xc nxt, xc shr, xg Γ, cr, eq', pt, pb, et, eb) : SX))
    {eq : Nat → Int64} (hz : ∀ j, j ≤ n → eq (7 * s + j) = 0) (hO : ∀ q, ¬ (7 * s ≤ q ∧ q ≤ 7 * s + n) → eq q = eq0 q) :
    wX_writeEquation_51 post (nI s) (nI (7 * s)) (nI n) (nI (2 ^ n)) (xa cnt) (xc cnt) (xc nxt) (xc shr) (xg Γ) cr eq pt pb et eb := by
  have h6 := hc.2.1
  unfold wX_writeEquation_51
  rw [nI_add, nI_add, nI_clamp (n := 7 * s + s) (by omega), nI_clamp (n := 7 * s + n) (by omega), xg_at (by omega)]
  refine ⟨pk_in (7 * s + s) 42 (by omega), nm_e ⟨pk_in s 6 (by omega), ?_⟩⟩
  have key : ∀ v : Int, v = (if Γ.testBit s = true then 1 else 0) → post ((nI n, nI (2 ^ n), xa cnt, xc cnt, xc nxt, xc shr, xg Γ, cr, (vp_updL (vp_updL eq (7 * s + s) 1) (7 * s + n) (lj v)), pt, pb, et, eb) : SX) := by
    intro v hv
    refine h _ (fun j hj => ?_) (fun q hq => ?_)
    · show _ = lj ((if s = j then 1 else 0) + (if j = n ∧ Γ.testBit s = true then 1 else 0))
      by_cases e1 : j = n
      · subst e1
        rw [pk_uLs, if_neg (by omega : ¬ s = j), hv]
        by_cases hb : Γ.testBit s = true
        · rw [if_pos hb, if_pos ⟨rfl, hb⟩]; rfl
        · rw [if_neg hb, if_neg (fun z => hb z.2)]; rfl
      · rw [pk_uLn (by omega), if_neg (fun z : j = n ∧ Γ.testBit s = true => e1 z.1)]
        by_cases e2 : s = j
        · subst e2
          rw [pk_uLs, if_pos rfl]; exact lj_1.symm
        · rw [pk_uLn (by omega), if_neg e2, hz j hj]; exact lj_0.symm
    · rw [pk_uLn (by omega), pk_uLn (by omega)]
      exact hO q hq
  by_cases hb : Γ.testBit s = true
  · rw [if_pos hb] at key ⊢
    exact br_f (by decide) ⟨pk_in (7 * s + n) 42 (by omega), nm_e (key 1 rfl)⟩
  · rw [if_neg hb] at key ⊢
    exact br_t rfl ⟨pk_in (7 * s + n) 42 (by omega), nm_e (key 0 rfl)⟩
/-- a state's equation is written -/
theorem x_we {post : SX → Prop} (hc : cf_ok n cnt nxt shr) {p : Nat} (hp64 : p < 64) {s : Nat} (hs : s < n) (hcr : ¬ cr s = 0 ↔ cf_RS n (cf_m cnt (cf_ch cnt p)) (cf_nx nxt (cf_ch cnt p)) (fun t => Γ.testBit t) s) {eq : Nat → Int64}
    (h : ∀ eq', xrow n eq' s (fun j => xr n cnt nxt shr Γ p 0 s j) → (∀ q, ¬ (7 * s ≤ q ∧ q ≤ 7 * s + n) → eq' q = eq q) → post ((nI n, nI (2 ^ n), xa cnt, xc cnt, xc nxt, xc shr, xg Γ, cr, eq', pt, pb, et, eb) : SX)) : wpX_writeEquation post ((nI n, nI (2 ^ n), xa cnt, xc cnt, xc nxt, xc shr, xg Γ, cr, eq, pt, pb, et, eb) : SX) (nI s) (nI p) := by
  have h6 := hc.2.1
  refine nm_r (ix_7 s) ⟨n + 1 + 1, ?_⟩
  have key : ∀ (d j : Nat) (eq' : Nat → Int64), j + d = n + 1 → (∀ i, i < j → eq' (7 * s + i) = 0) → (∀ q, ¬ (7 * s ≤ q ∧ q ≤ 7 * s + n) → eq' q = eq q) → wX_writeEquation_8 post (nI s) (nI p) (nI (7 * s)) (nI n) (nI (2 ^ n)) (d + 1) (nI j) (xa cnt) (xc cnt) (xc nxt) (xc shr) (xg Γ) cr eq' pt pb et eb := by
    intro d
    induction d with
    | zero =>
      intro j eq' hj hz hO
      have ej : j = n + 1 := by omega
      subst ej
      rw [wX_writeEquation_8]
      refine pk_lt n (n + 1) (fun _ => ⟨pk_in s 6 (by omega), ?_⟩) (fun z => by omega)
      have hz' : ∀ i, i ≤ n → eq' (7 * s + i) = 0 := fun i hi => hz i (by omega)
      have hstop : (¬ cf_M n (cf_m cnt (cf_ch cnt p)) (cf_nx nxt (cf_ch cnt p)) (fun t => Γ.testBit t) s = true) → wX_writeEquation_51 post (nI s) (nI (7 * s)) (nI n) (nI (2 ^ n)) (xa cnt) (xc cnt) (xc nxt) (xc shr) (xg Γ) cr eq' pt pb et eb := by
        intro hM
        refine x_we51 hc hs (fun e2 hr2 hO2 => h e2 (fun j hj => ?_) hO2) hz' hO
        rw [hr2 j hj]
        exact congrArg lj (xr_0f hs hM j).symm
      rw [xg_at (by omega), nI_clamp (n := s) (by omega)]
      by_cases hb : Γ.testBit s = true
      · rw [if_pos hb]
        exact br_f (by decide) (hstop (fun z => by have := (cf_M_t.mp z).2; rw [hb] at this; exact absurd this (by decide)))
      · rw [if_neg hb]
        refine br_t rfl ⟨pk_in s 6 (by omega), br_c (fun hz0 => hstop (fun z => (hcr.mpr (cf_M_t.mp z).1) hz0)) (fun hz0 => ?_)⟩
        have hM : cf_M n (cf_m cnt (cf_ch cnt p)) (cf_nx nxt (cf_ch cnt p)) (fun t => Γ.testBit t) s = true := cf_M_t.mpr ⟨hcr.mp hz0, by
          cases hb' : Γ.testBit s with
          | false => rfl
          | true => exact absurd hb' hb⟩
        refine x_cell (by omega) hp64 (hc.2.2.2.2.2.2 s) ⟨cf_m cnt (cf_ch cnt p) s + 1, ?_⟩
        refine x_we97 hc hs (eq0 := eq) (fun e2 hr2 hO2 => h e2 (fun j hj => ?_) hO2) (cf_m cnt (cf_ch cnt p) s) 0 eq' (by omega) (fun j hj => ?_) hO
        · rw [hr2 j hj]
          exact congrArg lj (xr_0t hs hM j).symm
        · rw [hz' j hj]; exact lj_0.symm
    | succ d ih =>
      intro j eq' hj hz hO
      rw [wX_writeEquation_8]
      refine pk_lt n j (fun z => by omega) (fun _ => ?_)
      rw [nI_add, nI_clamp (n := 7 * s + j) (by omega)]
      refine ⟨pk_in (7 * s + j) 42 (by omega), nm_e (nm_r (nI_1 j) (ih (j + 1) _ (by omega) (fun i hi => ?_) (fun q hq => ?_)))⟩
      · by_cases e : i = j
        · subst e; exact pk_uLs
        · rw [pk_uLn (by omega)]; exact hz i (by omega)
      · rw [pk_uLn (by omega)]; exact hO q hq
  exact key (n + 1) 0 eq (by omega) (fun i hi => by omega) (fun q _ => rfl)
end
end
section
theorem xm_b {a b B : Int} (hB : 0 ≤ B) (ha1 : -B ≤ a) (ha2 : a ≤ B) (hb1 : 0 ≤ b) (hb2 : b ≤ B) : -(B * B) ≤ b * a ∧ b * a ≤ B * B := by
  have h1 := Int.mul_le_mul_of_nonneg_left ha2 hb1
  have h2 := Int.mul_le_mul_of_nonneg_left ha1 hb1
  have h3 := Int.mul_le_mul_of_nonneg_right hb2 hB
  have h4 : b * -B = -(b * B) := by grind
  omega
section
variable {n : Nat} {cnt nxt shr : Nat → Nat} {Γ : Nat} {cr : Nat → Int32} {pt pb et eb : Nat → Int64}
theorem xd_pos (hc : cf_ok n cnt nxt shr) {p k : Nat} (hk : k ≤ n) : 0 < xd n cnt nxt shr Γ p k := fs_D_pos (cf_fs hc _ _) k hk
theorem xd_le (hc : cf_ok n cnt nxt shr) {p k : Nat} (hk : k ≤ n) : xd n cnt nxt shr Γ p k ≤ 27 ^ 6 := by
  have hDl := fs_D_le (cf_fs hc (fun t => Γ.testBit t) (cf_ch cnt p)) k hk
  have hn := hc.2.1
  unfold xd
  have h4 : k = 0 ∨ k = 1 ∨ k = 2 ∨ k = 3 ∨ k = 4 ∨ k = 5 ∨ k = 6 := by omega
  rcases h4 with e | e | e | e | e | e | e <;> rw [e] at hDl ⊢ <;> omega
theorem xr_kk (hc : cf_ok n cnt nxt shr) {p k : Nat} (hk : k < n) : xr n cnt nxt shr Γ p k k k = xd n cnt nxt shr Γ p (k + 1) := fs_R_kk (cf_fs hc _ _) hk
theorem xr_row (hc : cf_ok n cnt nxt shr) {p k : Nat} (hk : k < n) (j : Nat) : xr n cnt nxt shr Γ p (k + 1) k j = xr n cnt nxt shr Γ p k k j := fs_R_row (cf_fs hc _ _) hk
theorem xr_bar (hc : cf_ok n cnt nxt shr) {p k i : Nat} (hk : k < n) (hi : i < n) (hik : ¬ i = k) (j : Nat) : xd n cnt nxt shr Γ p k * xr n cnt nxt shr Γ p (k + 1) i j = xr n cnt nxt shr Γ p k k k * xr n cnt nxt shr Γ p k i j - xr n cnt nxt shr Γ p k i k * xr n cnt nxt shr Γ p k k j := fs_bar (cf_fs hc _ _) hk hi hik
theorem xr_le (hc : cf_ok n cnt nxt shr) {p k i : Nat} (hk : k ≤ n) (hi : i < n) (j : Nat) : -(27 ^ 6) ≤ xr n cnt nxt shr Γ p k i j ∧ xr n cnt nxt shr Γ p k i j ≤ 27 ^ 6 := fs_R_le (cf_fs hc _ _) hk hi
/-- one number of the step -/
theorem xr_step (hc : cf_ok n cnt nxt shr) {p k i : Nat} (hk : k < n) (hi : i < n) (hik : ¬ i = k) (j : Nat) : (lj (xr n cnt nxt shr Γ p k k k) * lj (xr n cnt nxt shr Γ p k i j) - lj (xr n cnt nxt shr Γ p k i k) * lj (xr n cnt nxt shr Γ p k k j)) / lj (xd n cnt nxt shr Γ p k) = lj (xr n cnt nxt shr Γ p (k + 1) i j) := by
  have h0 := xd_pos (Γ := Γ) (p := p) hc (by omega : k ≤ n)
  have h1 := xd_le (Γ := Γ) (p := p) hc (by omega : k ≤ n)
  have h2 := xr_le (Γ := Γ) (p := p) hc (by omega : k + 1 ≤ n) hi j
  have h3 := xm_b (B := 27 ^ 6) (by decide) h2.1 h2.2 (Int.le_of_lt h0) h1
  rw [lj_mul, lj_mul, lj_sub, ← xr_bar hc hk hi hik j]
  refine lj_div h0 ?_ ?_ ?_
  · omega
  · omega
  · omega
theorem lj_nz {z : Int} (h0 : 0 < z) (h1 : z < 2 ^ 63) : ¬ lj z = 0 := by
  rw [← lj_0, lj_eq (by omega) h1 (by omega) (by omega)]
  omega
theorem x_clear {post : SX → Prop} (hc : cf_ok n cnt nxt shr) {p k i : Nat} (hk : k < n) (hi : i < n) (hik : ¬ i = k) {eq : Nat → Int64}
    (hri : xrow n eq i (fun j => xr n cnt nxt shr Γ p k i j)) (hrk : xrow n eq k (fun j => xr n cnt nxt shr Γ p k k j))
    (h : ∀ eq', xrow n eq' i (fun j => xr n cnt nxt shr Γ p (k + 1) i j) → (∀ q, ¬ (7 * i ≤ q ∧ q ≤ 7 * i + n) → eq' q = eq q) → post ((nI n, nI (2 ^ n), xa cnt, xc cnt, xc nxt, xc shr, xg Γ, cr, eq', pt, pb, et, eb) : SX)) :
    wpX_clearColumn post ((nI n, nI (2 ^ n), xa cnt, xc cnt, xc nxt, xc shr, xg Γ, cr, eq, pt, pb, et, eb) : SX) (nI i) (nI k) (lj (xr n cnt nxt shr Γ p k k k)) (lj (xd n cnt nxt shr Γ p k)) := by
  have h6 := hc.2.1
  have hd0 := xd_pos (Γ := Γ) (p := p) hc (by omega : k ≤ n)
  have hd1 := xd_le (Γ := Γ) (p := p) hc (by omega : k ≤ n)
  have hdz : ¬ lj (xd n cnt nxt shr Γ p k) = 0 := lj_nz hd0 (by omega)
  have hk0 : eq (7 * i + k) = lj (xr n cnt nxt shr Γ p k i k) := hri k (by omega)
  refine br_f hdz (nm_r (ix_7 i) (nm_r (ix_7 k) ?_))
  rw [nI_add, nI_clamp (n := 7 * i + k) (by omega), hk0]
  refine ⟨pk_in (7 * i + k) 42 (by omega), nm_e ⟨n + 1 + 1, ?_⟩⟩
  have key : ∀ (d j : Nat) (eq' : Nat → Int64), j + d = n + 1 → (∀ t, t < j → eq' (7 * i + t) = lj (xr n cnt nxt shr Γ p (k + 1) i t)) → (∀ q, ¬ (7 * i ≤ q ∧ q < 7 * i + j) → eq' q = eq q) → wX_clearColumn_34 post (lj (xr n cnt nxt shr Γ p k k k)) (lj (xd n cnt nxt shr Γ p k)) (nI (7 * i)) (nI (7 * k)) (lj (xr n cnt nxt shr Γ p k i k)) (nI n) (nI (2 ^ n)) (d + 1) (nI j) (xa cnt) (xc cnt) (xc nxt) (xc shr) (xg Γ) cr eq' pt pb et eb := by
    intro d
    induction d with
    | zero =>
      intro j eq' hj hz hO
      have ej : j = n + 1 := by omega
      subst ej
      rw [wX_clearColumn_34]
      refine pk_lt n (n + 1) (fun _ => h eq' (fun t ht => hz t (by omega)) (fun q hq => hO q (by omega))) (fun z => by omega)
    | succ d ih =>
      intro j eq' hj hz hO
      rw [wX_clearColumn_34]
      refine pk_lt n j (fun z => by omega) (fun _ => ?_)
      have e1 : eq' (7 * i + j) = lj (xr n cnt nxt shr Γ p k i j) := by
        rw [hO _ (by omega)]; exact hri j (by omega)
      have e2 : eq' (7 * k + j) = lj (xr n cnt nxt shr Γ p k k j) := by
        rw [hO _ (by omega)]; exact hrk j (by omega)
      rw [nI_add, nI_add, nI_clamp (n := 7 * i + j) (by omega), nI_clamp (n := 7 * k + j) (by omega), e1, e2, xr_step hc hk hi hik j]
      refine ⟨pk_in (7 * i + j) 42 (by omega), pk_in (7 * k + j) 42 (by omega), hdz, pk_in (7 * i + j) 42 (by omega), nm_e (nm_r (nI_1 j) (ih (j + 1) _ (by omega) (fun t ht => ?_) (fun q hq => ?_)))⟩
      · by_cases e : t = j
        · subst e; exact pk_uLs
        · rw [pk_uLn (by omega)]; exact hz t (by omega)
      · rw [pk_uLn (by omega)]; exact hO q (by omega)
  exact key (n + 1) 0 eq (by omega) (fun t ht => by omega) (fun q _ => rfl)
theorem x_so36 {post : SX → Prop} {J4 : Int64 → Int32 → Int32 → Int32 → (Nat → Int32) → (Nat → Int32) → (Nat → Int32) → (Nat → Int32) → (Nat → Int32) → (Nat → Int32) → (Nat → Int64) → (Nat → Int64) → (Nat → Int64) → (Nat → Int64) → (Nat → Int64) → Prop} (hc : cf_ok n cnt nxt shr) {p k : Nat} (hk : k < n)
    (hJ : ∀ eq', (∀ t, t < n → xrow n eq' t (fun j => xr n cnt nxt shr Γ p (k + 1) t j)) → J4 (lj (xr n cnt nxt shr Γ p k k k)) (nI (k + 1)) (nI n) (nI (2 ^ n)) (xa cnt) (xc cnt) (xc nxt) (xc shr) (xg Γ) cr eq' pt pb et eb) :
    ∀ (d i : Nat) (eq : Nat → Int64), i + d = n → (∀ t, t < i → t < n → xrow n eq t (fun j => xr n cnt nxt shr Γ p (k + 1) t j)) → (∀ t, i ≤ t → t < n → xrow n eq t (fun j => xr n cnt nxt shr Γ p k t j)) →
    wX_solveEquations_36 post J4 (lj (xd n cnt nxt shr Γ p k)) (nI k) (lj (xr n cnt nxt shr Γ p k k k)) (d + 1) (nI i) (nI n) (nI (2 ^ n)) (xa cnt) (xc cnt) (xc nxt) (xc shr) (xg Γ) cr eq pt pb et eb := by
  have h6 := hc.2.1
  intro d
  induction d with
  | zero =>
    intro i eq hi hA hB
    have e : i = n := by omega
    subst e
    rw [wX_solveEquations_36]
    exact pk_le i i (fun _ => nm_r (nI_1 k) (hJ eq (fun t ht => hA t ht ht))) (fun z => by omega)
  | succ d ih =>
    intro i eq hi hA hB
    rw [wX_solveEquations_36]
    refine pk_le n i (fun z => by omega) (fun _ => pk_eq i k (fun e => nm_r (nI_1 i) (ih (i + 1) eq (by omega) (fun t ht htn => ?_) (fun t ht htn => hB t (by omega) htn))) (fun e => ?_))
    · by_cases et : t = i
      · subst et
        subst e
        intro j hj
        have := hB t (by omega) htn j hj
        rw [this]
        exact congrArg lj (xr_row hc hk j).symm
      · exact hA t (by omega) htn
    · have hrk : xrow n eq k (fun j => xr n cnt nxt shr Γ p k k j) := by
        by_cases h1 : k < i
        · intro j hj
          have := hA k h1 hk j hj
          rw [this]
          exact congrArg lj (xr_row hc hk j)
        · exact hB k (by omega) hk
      refine x_clear hc hk (by omega) e (hB i (Nat.le_refl _) (by omega)) hrk (fun eq' hr hO => nm_r (nI_1 i) (ih (i + 1) eq' (by omega) (fun t ht htn => ?_) (fun t ht htn => ?_)))
      · by_cases et : t = i
        · subst et; exact hr
        · intro j hj
          rw [hO _ (by omega)]
          exact hA t (by omega) htn j hj
      · intro j hj
        rw [hO _ (by omega)]
        exact hB t (by omega) htn j hj
theorem xd_0 {p : Nat} : xd n cnt nxt shr Γ p 0 = 1 := fs_D_0
theorem x_solve {post : SX → Prop} (hc : cf_ok n cnt nxt shr) {p : Nat} {eq : Nat → Int64} (hr : ∀ t, t < n → xrow n eq t (fun j => xr n cnt nxt shr Γ p 0 t j))
    (h : ∀ eq', (∀ t, t < n → xrow n eq' t (fun j => xr n cnt nxt shr Γ p n t j)) → post ((nI n, nI (2 ^ n), xa cnt, xc cnt, xc nxt, xc shr, xg Γ, cr, eq', pt, pb, et, eb) : SX)) : wpX_solveEquations post ((nI n, nI (2 ^ n), xa cnt, xc cnt, xc nxt, xc shr, xg Γ, cr, eq, pt, pb, et, eb) : SX) := by
  have h6 := hc.2.1
  have key : ∀ (d k : Nat) (eq' : Nat → Int64), k + d = n → (∀ t, t < n → xrow n eq' t (fun j => xr n cnt nxt shr Γ p k t j)) → wX_solveEquations_4 post (d + 1) (lj (xd n cnt nxt shr Γ p k)) (nI k) (nI n) (nI (2 ^ n)) (xa cnt) (xc cnt) (xc nxt) (xc shr) (xg Γ) cr eq' pt pb et eb := by
    intro d
    induction d with
    | zero =>
      intro k eq' hk hr'
      have e : k = n := by omega
      subst e
      rw [wX_solveEquations_4]
      exact pk_le k k (fun _ => h eq' hr') (fun z => by omega)
    | succ d ih =>
      intro k eq' hk hr'
      have hkn : k < n := by omega
      rw [wX_solveEquations_4]
      refine pk_le n k (fun z => by omega) (fun _ => ?_)
      have e1 : eq' (7 * k + k) = lj (xr n cnt nxt shr Γ p k k k) := hr' k hkn k (by omega)
      rw [xi_7, nI_clamp (n := 7 * k + k) (by omega), e1]
      have hd0 := xd_pos (Γ := Γ) (p := p) hc (by omega : k + 1 ≤ n)
      have hd1 := xd_le (Γ := Γ) (p := p) hc (by omega : k + 1 ≤ n)
      have hz : ¬ lj (xr n cnt nxt shr Γ p k k k) = 0 := by
        rw [xr_kk hc hkn]
        exact lj_nz hd0 (by omega)
      refine ⟨pk_in (7 * k + k) 42 (by omega), nm_e (br_f hz ⟨n + 1, ?_⟩)⟩
      refine x_so36 hc hkn (fun e2 hr2 => ?_) n 0 eq' (by omega) (fun t ht => by omega) (fun t _ htn => hr' t htn)
      rw [xr_kk hc hkn]
      exact ih (k + 1) e2 (by omega) hr2
  refine ⟨n + 1, ?_⟩
  have := key n 0 eq (by omega) hr
  rw [xd_0, lj_1] at this
  exact this
end
end
section
theorem lN_z {b : Nat} (hb : b < 2 ^ 63) : lN b = 0 ↔ b = 0 := pk_lEQ (b := 0) hb (by omega)
theorem x_gcd1 {post : Int64 → Prop} : ∀ (d i a b k : Nat), i + d = 1000 → b ≤ a → a * b < 2 ^ k → k ≤ d → a < 2 ^ 62 → post (lN (Nat.gcd a b)) → wX_commonDivisor_9 post (d + 1) (lN a) (lN b) (nI i) := by
  intro d
  induction d with
  | zero =>
    intro i a b k hi hba hk hkd ha h
    have hb : b = 0 := by
      have : k = 0 := by omega
      subst this
      by_cases hb : b = 0
      · exact hb
      · have := Nat.mul_pos (by omega : 0 < a) (by omega : 0 < b)
        omega
    subst hb
    rw [Nat.gcd_zero_right] at h
    rw [wX_commonDivisor_9]
    exact pk_le 1000 i (fun _ => h) (fun z => by omega)
  | succ d ih =>
    intro i a b k hi hba hk hkd ha h
    rw [wX_commonDivisor_9]
    refine pk_le 1000 i (fun z => by omega) (fun _ => ?_)
    by_cases hb : b = 0
    · subst hb
      rw [Nat.gcd_zero_right] at h
      exact br_t rfl h
    · have hz : ¬ lN b = 0 := fun z => hb ((lN_z (by omega)).mp z)
      refine br_f hz ⟨hz, nm_r (pk_lRem (by omega) (by omega) (by omega)) (nm_r (nI_1 i) ?_)⟩
      cases k with
      | zero =>
        exfalso
        have := Nat.mul_pos (by omega : 0 < a) (by omega : 0 < b)
        omega
      | succ k =>
        have h1 := eu_half (by omega : 0 < b) hba hk
        refine ih (i + 1) b (a % b) k (by omega) (by omega) h1.2 (by omega) (by omega) ?_
        rw [eu_gcd]; exact h
theorem eu_60 {a b : Nat} (hb0 : 0 < b) (hb : b < 2 ^ 30) : b * (a % b) < 2 ^ 60 := by
  have h1 := Nat.mod_lt a hb0
  have h2 : b * (a % b) ≤ 2 ^ 30 * (a % b) := Nat.mul_le_mul_right _ (by omega)
  have h3 : 2 ^ 30 * (a % b) < 2 ^ 30 * 2 ^ 30 := Nat.mul_lt_mul_of_pos_left (by omega) (by decide)
  omega
theorem x_gcd {post : Int64 → Prop} {a b : Nat} (ha : a < 2 ^ 30) (hb0 : 0 < b) (hb : b < 2 ^ 30) (h : post (lN (Nat.gcd a b))) : wpX_commonDivisor post (lN a) (lN b) := by
  refine ⟨999 + 1 + 1, ?_⟩
  rw [wX_commonDivisor_9]
  have hz : ¬ lN b = 0 := fun z => by have := (lN_z (by omega)).mp z; omega
  refine br_f (by decide) (br_f hz ⟨hz, nm_r (pk_lRem (by omega) (by omega) (by omega)) (nm_e ?_)⟩)
  have h1 := Nat.mod_lt a hb0
  refine x_gcd1 999 1 b (a % b) 60 (by omega) (by omega) (eu_60 hb0 hb) (by omega) (by omega) ?_
  rw [eu_gcd]; exact h
/-- good and all of plan p, as naturals -/
noncomputable def gn (n : Nat) (cnt nxt shr : Nat → Nat) (Γ p s : Nat) : Nat := (cf_g n cnt nxt shr (fun t => Γ.testBit t) (cf_ch cnt p) s).toNat
noncomputable def dn (n : Nat) (cnt nxt shr : Nat → Nat) (Γ p : Nat) : Nat := (cf_d n cnt nxt shr (fun t => Γ.testBit t) (cf_ch cnt p)).toNat
section
variable {n : Nat} {cnt nxt shr : Nat → Nat} {Γ : Nat} {cr : Nat → Int32} {pt pb et eb : Nat → Int64}
theorem gn_i (hc : cf_ok n cnt nxt shr) {p s : Nat} (hs : s < n) : ((gn n cnt nxt shr Γ p s : Nat) : Int) = cf_g n cnt nxt shr (fun t => Γ.testBit t) (cf_ch cnt p) s := Int.toNat_of_nonneg ((cf_po hc (fun t => Γ.testBit t) (cf_ch cnt p)).2.1 s hs).1
theorem dn_i (hc : cf_ok n cnt nxt shr) {p : Nat} : ((dn n cnt nxt shr Γ p : Nat) : Int) = cf_d n cnt nxt shr (fun t => Γ.testBit t) (cf_ch cnt p) := Int.toNat_of_nonneg (Int.le_of_lt (cf_po hc (fun t => Γ.testBit t) (cf_ch cnt p)).1)
theorem dn_b (hc : cf_ok n cnt nxt shr) {p : Nat} : 0 < dn n cnt nxt shr Γ p ∧ dn n cnt nxt shr Γ p < 2 ^ 29 := by
  have h1 := dn_i (Γ := Γ) (p := p) hc
  have h2 := (cf_po hc (fun t => Γ.testBit t) (cf_ch cnt p)).1
  have h3 := cf_d_le hc (fun t => Γ.testBit t) (cf_ch cnt p)
  omega
theorem gn_b (hc : cf_ok n cnt nxt shr) {p s : Nat} (hs : s < n) : gn n cnt nxt shr Γ p s ≤ dn n cnt nxt shr Γ p := by
  have h1 := dn_i (Γ := Γ) (p := p) hc
  have h2 := gn_i (Γ := Γ) (p := p) hc hs
  have h3 := ((cf_po hc (fun t => Γ.testBit t) (cf_ch cnt p)).2.1 s hs).2
  omega
theorem xr_nn {p s : Nat} (hs : s < n) : xr n cnt nxt shr Γ p n s n = cf_g n cnt nxt shr (fun t => Γ.testBit t) (cf_ch cnt p) s := (fs_R_n hs).2 rfl
theorem xr_ns {p s : Nat} (hs : s < n) : xr n cnt nxt shr Γ p n s s = cf_d n cnt nxt shr (fun t => Γ.testBit t) (cf_ch cnt p) := by
  have := (fs_R_n (n := n) (m := cf_m cnt (cf_ch cnt p)) (nx := cf_nx nxt (cf_ch cnt p)) (w := cf_w shr (cf_ch cnt p)) (G := fun t => Γ.testBit t) (M := cf_M n (cf_m cnt (cf_ch cnt p)) (cf_nx nxt (cf_ch cnt p)) (fun t => Γ.testBit t)) (i := s) (j := s) hs).1 hs
  rw [if_pos rfl] at this
  exact this
/-- the lowest terms of plan p's chance of s -/
noncomputable def ltop (n : Nat) (cnt nxt shr : Nat → Nat) (Γ p s : Nat) : Nat := gn n cnt nxt shr Γ p s / Nat.gcd (gn n cnt nxt shr Γ p s) (dn n cnt nxt shr Γ p)
noncomputable def lbot (n : Nat) (cnt nxt shr : Nat → Nat) (Γ p s : Nat) : Nat := dn n cnt nxt shr Γ p / Nat.gcd (gn n cnt nxt shr Γ p s) (dn n cnt nxt shr Γ p)
theorem x_read {post : SX → Prop} (hc : cf_ok n cnt nxt shr) {p s : Nat} (hs : s < n) {eq : Nat → Int64} (hr : xrow n eq s (fun j => xr n cnt nxt shr Γ p n s j))
    (h : post ((nI n, nI (2 ^ n), xa cnt, xc cnt, xc nxt, xc shr, xg Γ, cr, eq, (vp_updL pt s (lN (ltop n cnt nxt shr Γ p s))), (vp_updL pb s (lN (lbot n cnt nxt shr Γ p s))), et, eb) : SX)) : wpX_readChance post ((nI n, nI (2 ^ n), xa cnt, xc cnt, xc nxt, xc shr, xg Γ, cr, eq, pt, pb, et, eb) : SX) (nI s) := by
  have h6 := hc.2.1
  have hd := dn_b (Γ := Γ) (p := p) hc
  have hg := gn_b (Γ := Γ) (p := p) hc hs
  have e1 : eq (7 * s + n) = lN (gn n cnt nxt shr Γ p s) := by
    have : eq (7 * s + n) = lj (xr n cnt nxt shr Γ p n s n) := hr n (Nat.le_refl _)
    rw [this, xr_nn hs, lj_N, gn_i hc hs]
  have e2 : eq (7 * s + s) = lN (dn n cnt nxt shr Γ p) := by
    have : eq (7 * s + s) = lj (xr n cnt nxt shr Γ p n s s) := hr s (by omega)
    rw [this, xr_ns hs, lj_N, dn_i hc]
  unfold wpX_readChance
  dsimp only
  rw [xi_7, xi_7, nI_clamp (n := 7 * s + n) (by omega), nI_clamp (n := 7 * s + s) (by omega), e1, e2]
  refine ⟨pk_in (7 * s + n) 42 (by omega), nm_e ⟨pk_in (7 * s + s) 42 (by omega), nm_e ?_⟩⟩
  have hg0 : 0 < Nat.gcd (gn n cnt nxt shr Γ p s) (dn n cnt nxt shr Γ p) := Nat.gcd_pos_of_pos_right _ hd.1
  have hgl : Nat.gcd (gn n cnt nxt shr Γ p s) (dn n cnt nxt shr Γ p) ≤ dn n cnt nxt shr Γ p := Nat.le_of_dvd hd.1 (Nat.gcd_dvd_right _ _)
  refine x_gcd (by omega) hd.1 (by omega) ?_
  have hend : wX_readChance_55 post (nI s) (lN (ltop n cnt nxt shr Γ p s)) (lN (lbot n cnt nxt shr Γ p s)) (nI n) (nI (2 ^ n)) (xa cnt) (xc cnt) (xc nxt) (xc shr) (xg Γ) cr eq pt pb et eb := by
    unfold wX_readChance_55
    rw [nI_clamp (n := s) (by omega)]
    exact ⟨pk_in s 6 (by omega), nm_e ⟨pk_in s 6 (by omega), nm_e h⟩⟩
  unfold ltop lbot at hend
  by_cases hq : Nat.gcd (gn n cnt nxt shr Γ p s) (dn n cnt nxt shr Γ p) ≤ 1
  · have hq1 : Nat.gcd (gn n cnt nxt shr Γ p s) (dn n cnt nxt shr Γ p) = 1 := by omega
    rw [hq1, Nat.div_one, Nat.div_one] at hend
    rw [hq1]
    exact br_t (by decide) hend
  · have hz : ¬ lN (Nat.gcd (gn n cnt nxt shr Γ p s) (dn n cnt nxt shr Γ p)) = 0 := fun z => by have := (lN_z (by omega)).mp z; omega
    have hq2 : ¬ lN (Nat.gcd (gn n cnt nxt shr Γ p s) (dn n cnt nxt shr Γ p)) ≤ 1 := fun z => hq ((pk_lLE (b := 1) (by omega) (by omega)).mp z)
    exact br_f hq2 ⟨hz, nm_r (pk_lDiv (by omega) hg0 (by omega)) ⟨hz, nm_r (pk_lDiv (by omega) hg0 (by omega)) hend⟩⟩
/-- the component's chances under a plan -/
theorem x_chances {post : SX → Prop} (hc : cf_ok n cnt nxt shr) {p : Nat} (hp64 : p < 64) {eq : Nat → Int64}
    (h : ∀ cr' eq' pt' pb', (∀ t, t < n → pt' t = lN (ltop n cnt nxt shr Γ p t) ∧ pb' t = lN (lbot n cnt nxt shr Γ p t)) → post ((nI n, nI (2 ^ n), xa cnt, xc cnt, xc nxt, xc shr, xg Γ, cr', eq', pt', pb', et, eb) : SX)) : wpX_findChances post ((nI n, nI (2 ^ n), xa cnt, xc cnt, xc nxt, xc shr, xg Γ, cr, eq, pt, pb, et, eb) : SX) (nI p) := by
  have h6 := hc.2.1
  refine x_mark hc hp64 (fun cr1 hcr => ⟨n + 1, ?_⟩)
  have k33 : ∀ (eq1 : Nat → Int64), (∀ t, t < n → xrow n eq1 t (fun j => xr n cnt nxt shr Γ p n t j)) → ∀ (d s : Nat) (pt' pb' : Nat → Int64), s + d = n → (∀ t, t < s → pt' t = lN (ltop n cnt nxt shr Γ p t) ∧ pb' t = lN (lbot n cnt nxt shr Γ p t)) → wX_findChances_33 post (d + 1) (nI s) (nI n) (nI (2 ^ n)) (xa cnt) (xc cnt) (xc nxt) (xc shr) (xg Γ) cr1 eq1 pt' pb' et eb := by
    intro eq1 hr1 d
    induction d with
    | zero =>
      intro s pt' pb' hs hI
      have e : s = n := by omega
      subst e
      rw [wX_findChances_33]
      exact pk_le s s (fun _ => h cr1 eq1 pt' pb' hI) (fun z => by omega)
    | succ d ih =>
      intro s pt' pb' hs hI
      rw [wX_findChances_33]
      refine pk_le n s (fun z => by omega) (fun _ => x_read hc (by omega) (hr1 s (by omega)) (nm_r (nI_1 s) (ih (s + 1) _ _ (by omega) (fun t ht => ?_))))
      by_cases e : t = s
      · subst e; exact ⟨pk_uLs, pk_uLs⟩
      · rw [pk_uLn e, pk_uLn e]; exact hI t (by omega)
  have k7 : ∀ (d s : Nat) (eq1 : Nat → Int64), s + d = n → (∀ t, t < s → t < n → xrow n eq1 t (fun j => xr n cnt nxt shr Γ p 0 t j)) → wX_findChances_7 post (nI p) (d + 1) (nI s) (nI n) (nI (2 ^ n)) (xa cnt) (xc cnt) (xc nxt) (xc shr) (xg Γ) cr1 eq1 pt pb et eb := by
    intro d
    induction d with
    | zero =>
      intro s eq1 hs hI
      have e : s = n := by omega
      subst e
      rw [wX_findChances_7]
      refine pk_le s s (fun _ => x_solve hc (fun t ht => hI t ht ht) (fun eq2 hr2 => ⟨s + 1, k33 eq2 hr2 s 0 pt pb (by omega) (fun t ht => by omega)⟩)) (fun z => by omega)
    | succ d ih =>
      intro s eq1 hs hI
      rw [wX_findChances_7]
      refine pk_le n s (fun z => by omega) (fun _ => x_we hc hp64 (by omega) (hcr s (by omega)) (fun eq2 hr2 hO => nm_r (nI_1 s) (ih (s + 1) eq2 (by omega) (fun t ht htn => ?_))))
      by_cases e : t = s
      · subst e; exact hr2
      · intro j hj
        rw [hO _ (by omega)]
        exact hI t (by omega) htn j hj
  exact k7 n 0 eq (by omega) (fun t ht => by omega)
end
end
section
theorem nm_60 {a d : Nat} (ha : a < 2 ^ 30) (hd : d < 2 ^ 30) : a * d < 2 ^ 60 := by
  have h2 : a * d ≤ 2 ^ 30 * d := Nat.mul_le_mul_right _ (by omega)
  have h3 : 2 ^ 30 * d < 2 ^ 30 * 2 ^ 30 := Nat.mul_lt_mul_of_pos_left hd (by decide)
  omega
theorem nt_trans {a b c d e f : Nat} (hd : 0 < d) (h1 : a * d ≤ c * b) (h2 : c * f ≤ e * d) : a * f ≤ e * b := by
  have h3 := Nat.mul_le_mul_right f h1
  have h4 := Nat.mul_le_mul_right b h2
  have h5 : d * (a * f) ≤ d * (e * b) := by grind
  exact Nat.le_of_mul_le_mul_left h5 hd
/-- q's chance of t is at least as good (best) or as bad (not best) as p's -/
def pl (n : Nat) (cnt nxt shr : Nat → Nat) (Γ : Nat) (best : Bool) (p q t : Nat) : Prop :=
  if best = true then gn n cnt nxt shr Γ p t * dn n cnt nxt shr Γ q ≤ gn n cnt nxt shr Γ q t * dn n cnt nxt shr Γ p else gn n cnt nxt shr Γ q t * dn n cnt nxt shr Γ p ≤ gn n cnt nxt shr Γ p t * dn n cnt nxt shr Γ q
section
variable {n : Nat} {cnt nxt shr : Nat → Nat} {Γ : Nat} {cr : Nat → Int32} {eq pt pb et eb : Nat → Int64}
theorem pl_refl (best : Bool) (p t : Nat) : pl n cnt nxt shr Γ best p p t := by
  unfold pl
  split <;> exact Nat.le_refl _
theorem pl_trans (hc : cf_ok n cnt nxt shr) {best : Bool} {p q r t : Nat} (h1 : pl n cnt nxt shr Γ best p q t) (h2 : pl n cnt nxt shr Γ best q r t) : pl n cnt nxt shr Γ best p r t := by
  have hq := (dn_b (Γ := Γ) (p := q) hc).1
  unfold pl at h1 h2 ⊢
  cases best with
  | true =>
    rw [if_pos rfl] at h1 h2 ⊢
    exact nt_trans hq h1 h2
  | false =>
    rw [if_neg (by decide)] at h1 h2 ⊢
    exact nt_trans hq h2 h1
theorem pl_anti {best : Bool} {p q t : Nat} (h1 : pl n cnt nxt shr Γ best p q t) (h2 : pl n cnt nxt shr Γ best q p t) : gn n cnt nxt shr Γ p t * dn n cnt nxt shr Γ q = gn n cnt nxt shr Γ q t * dn n cnt nxt shr Γ p := by
  unfold pl at h1 h2
  cases best with
  | true =>
    rw [if_pos rfl] at h1 h2
    omega
  | false =>
    rw [if_neg (by decide)] at h1 h2
    omega
theorem pl_of {best : Bool} {p q t : Nat} (h : gn n cnt nxt shr Γ p t * dn n cnt nxt shr Γ q = gn n cnt nxt shr Γ q t * dn n cnt nxt shr Γ p) : pl n cnt nxt shr Γ best p q t := by
  unfold pl
  split <;> omega
/-- the gcd of a chance, and the parts by it -/
theorem lt_g (hc : cf_ok n cnt nxt shr) (p t : Nat) : ∃ g, 0 < g ∧ gn n cnt nxt shr Γ p t = g * ltop n cnt nxt shr Γ p t ∧ dn n cnt nxt shr Γ p = g * lbot n cnt nxt shr Γ p t :=
  ⟨Nat.gcd (gn n cnt nxt shr Γ p t) (dn n cnt nxt shr Γ p), Nat.gcd_pos_of_pos_right _ (dn_b hc).1, (Nat.mul_div_cancel' (Nat.gcd_dvd_left _ _)).symm, (Nat.mul_div_cancel' (Nat.gcd_dvd_right _ _)).symm⟩
theorem lt_b (hc : cf_ok n cnt nxt shr) (p : Nat) {t : Nat} (ht : t < n) : ltop n cnt nxt shr Γ p t < 2 ^ 29 ∧ lbot n cnt nxt shr Γ p t < 2 ^ 29 ∧ 0 < lbot n cnt nxt shr Γ p t := by
  have h1 := dn_b (Γ := Γ) (p := p) hc
  have h2 := gn_b (Γ := Γ) (p := p) hc ht
  refine ⟨Nat.lt_of_le_of_lt (Nat.div_le_self _ _) (by omega), Nat.lt_of_le_of_lt (Nat.div_le_self _ _) h1.2, ?_⟩
  obtain ⟨g, hg, _, e⟩ := lt_g (Γ := Γ) hc p t
  apply Nat.pos_of_ne_zero
  intro z
  rw [z, Nat.mul_zero] at e
  omega
theorem lt_cmp (hc : cf_ok n cnt nxt shr) (p q t : Nat) : (ltop n cnt nxt shr Γ p t * lbot n cnt nxt shr Γ q t < ltop n cnt nxt shr Γ q t * lbot n cnt nxt shr Γ p t ↔ gn n cnt nxt shr Γ p t * dn n cnt nxt shr Γ q < gn n cnt nxt shr Γ q t * dn n cnt nxt shr Γ p) ∧ (ltop n cnt nxt shr Γ p t * lbot n cnt nxt shr Γ q t = ltop n cnt nxt shr Γ q t * lbot n cnt nxt shr Γ p t ↔ gn n cnt nxt shr Γ p t * dn n cnt nxt shr Γ q = gn n cnt nxt shr Γ q t * dn n cnt nxt shr Γ p) := by
  obtain ⟨g1, hg1, a1, b1⟩ := lt_g (Γ := Γ) hc p t
  obtain ⟨g2, hg2, a2, b2⟩ := lt_g (Γ := Γ) hc q t
  have e1 : gn n cnt nxt shr Γ p t * dn n cnt nxt shr Γ q = (g1 * g2) * (ltop n cnt nxt shr Γ p t * lbot n cnt nxt shr Γ q t) := by rw [a1, b2]; grind
  have e2 : gn n cnt nxt shr Γ q t * dn n cnt nxt shr Γ p = (g1 * g2) * (ltop n cnt nxt shr Γ q t * lbot n cnt nxt shr Γ p t) := by rw [a2, b1]; grind
  have hg := Nat.mul_pos hg1 hg2
  rw [e1, e2]
  exact ⟨⟨fun h => Nat.mul_lt_mul_of_pos_left h hg, fun h => Nat.lt_of_mul_lt_mul_left h⟩, ⟨fun h => by rw [h], fun h => Nat.eq_of_mul_eq_mul_left hg h⟩⟩
theorem x_ord {post : Int32 → Prop} {a b c d : Nat} (ha : a < 2 ^ 29) (hb : b < 2 ^ 29) (hc : c < 2 ^ 29) (hd : d < 2 ^ 29) (h0 : a * d = c * b → post 0) (h1 : a * d < c * b → post (-1)) (h2 : c * b < a * d → post 1) : wpX_orderOf post (lN a) (lN b) (lN c) (lN d) := by
  have m1 := nm_60 (a := a) (d := d) (by omega) (by omega)
  have m2 := nm_60 (a := c) (d := b) (by omega) (by omega)
  unfold wpX_orderOf
  refine nm_r (lN_mul a d) (nm_r (lN_mul c b) ?_)
  rw [pk_lLE (by omega) (by omega), pk_lLE (by omega) (by omega)]
  exact br_c (fun z => br_c (fun z2 => h0 (by omega)) (fun z2 => h1 (by omega))) (fun z => h2 (by omega))
/-- the direction as the component says it -/
def dr (best : Bool) : Int32 := if best = true then 1 else -1
/-- a / b is the extreme of the first P plans for t, in lowest terms -/
def xe (n : Nat) (cnt nxt shr : Nat → Nat) (Γ : Nat) (best : Bool) (P t : Nat) (a b : Int64) : Prop :=
  ∃ q, q < P ∧ a = lN (ltop n cnt nxt shr Γ q t) ∧ b = lN (lbot n cnt nxt shr Γ q t) ∧ ∀ p, p < P → pl n cnt nxt shr Γ best p q t
theorem xe_keep {best : Bool} {P t q : Nat} (hq : q < P) (h : ∀ p, p < P → pl n cnt nxt shr Γ best p q t) (hP : pl n cnt nxt shr Γ best P q t) : xe n cnt nxt shr Γ best (P + 1) t (lN (ltop n cnt nxt shr Γ q t)) (lN (lbot n cnt nxt shr Γ q t)) := by
  refine ⟨q, by omega, rfl, rfl, fun p hp => ?_⟩
  by_cases e : p = P
  · subst e; exact hP
  · exact h p (by omega)
theorem xe_new (hc : cf_ok n cnt nxt shr) {best : Bool} {P t q : Nat} (h : ∀ p, p < P → pl n cnt nxt shr Γ best p q t) (hP : pl n cnt nxt shr Γ best q P t) : xe n cnt nxt shr Γ best (P + 1) t (lN (ltop n cnt nxt shr Γ P t)) (lN (lbot n cnt nxt shr Γ P t)) := by
  refine ⟨P, by omega, rfl, rfl, fun p hp => ?_⟩
  by_cases e : p = P
  · subst e; exact pl_refl _ _ _
  · exact pl_trans hc (h p (by omega)) hP
theorem x_keep {post : SX → Prop} (hc : cf_ok n cnt nxt shr) (best : Bool) {P : Nat} (hpt : ∀ t, t < n → pt t = lN (ltop n cnt nxt shr Γ P t) ∧ pb t = lN (lbot n cnt nxt shr Γ P t))
    (hE : ∀ t, t < n → xe n cnt nxt shr Γ best P t (et t) (eb t))
    (h : ∀ et' eb', (∀ t, t < n → xe n cnt nxt shr Γ best (P + 1) t (et' t) (eb' t)) → post ((nI n, nI (2 ^ n), xa cnt, xc cnt, xc nxt, xc shr, xg Γ, cr, eq, pt, pb, et', eb') : SX)) : wpX_keepExtremes post ((nI n, nI (2 ^ n), xa cnt, xc cnt, xc nxt, xc shr, xg Γ, cr, eq, pt, pb, et, eb) : SX) (dr best) := by
  have h6 := hc.2.1
  have key : ∀ (d s : Nat) (et' eb' : Nat → Int64), s + d = n → (∀ t, t < s → xe n cnt nxt shr Γ best (P + 1) t (et' t) (eb' t)) → (∀ t, s ≤ t → t < n → xe n cnt nxt shr Γ best P t (et' t) (eb' t)) → wX_keepExtremes_2 post (dr best) (nI n) (nI (2 ^ n)) (d + 1) (nI s) (xa cnt) (xc cnt) (xc nxt) (xc shr) (xg Γ) cr eq pt pb et' eb' := by
    intro d
    induction d with
    | zero =>
      intro s et' eb' hs hA hB
      have e : s = n := by omega
      subst e
      rw [wX_keepExtremes_2]
      exact pk_le s s (fun _ => h et' eb' hA) (fun z => by omega)
    | succ d ih =>
      intro s et' eb' hs hA hB
      obtain ⟨q, hq, e1, e2, hq2⟩ := hB s (Nat.le_refl _) (by omega)
      obtain ⟨e3, e4⟩ := hpt s (by omega)
      have b1 := lt_b (Γ := Γ) hc P (by omega : s < n)
      have b2 := lt_b (Γ := Γ) hc q (by omega : s < n)
      have hcmp := lt_cmp (Γ := Γ) hc P q s
      have hin : vp_in (nI s) 6 := pk_in s 6 (by omega)
      rw [wX_keepExtremes_2]
      refine pk_le n s (fun z => by omega) (fun _ => ⟨hin, hin, hin, hin, ?_⟩)
      rw [nI_clamp (n := s) (by omega), e1, e2, e3, e4]
      have stay : pl n cnt nxt shr Γ best P q s → wX_keepExtremes_2 post (dr best) (nI n) (nI (2 ^ n)) (d + 1) (nI (s + 1)) (xa cnt) (xc cnt) (xc nxt) (xc shr) (xg Γ) cr eq pt pb et' eb' := by
        intro hP
        refine ih (s + 1) et' eb' (by omega) (fun t ht => ?_) (fun t ht htn => hB t (by omega) htn)
        by_cases e : t = s
        · subst e
          rw [e1, e2]
          exact xe_keep hq hq2 hP
        · exact hA t (by omega)
      have move : pl n cnt nxt shr Γ best q P s → wX_keepExtremes_2 post (dr best) (nI n) (nI (2 ^ n)) (d + 1) (nI (s + 1)) (xa cnt) (xc cnt) (xc nxt) (xc shr) (xg Γ) cr eq pt pb (vp_updL et' s (lN (ltop n cnt nxt shr Γ P s))) (vp_updL eb' s (lN (lbot n cnt nxt shr Γ P s))) := by
        intro hP
        refine ih (s + 1) _ _ (by omega) (fun t ht => ?_) (fun t ht htn => ?_)
        · by_cases e : t = s
          · subst e
            rw [pk_uLs, pk_uLs]
            exact xe_new hc hq2 hP
          · rw [pk_uLn e, pk_uLn e]; exact hA t (by omega)
        · rw [pk_uLn (by omega), pk_uLn (by omega)]; exact hB t (by omega) htn
      cases best with
      | true =>
        refine x_ord b1.1 b1.2.1 b2.1 b2.2.1 (fun z => ?_) (fun z => ?_) (fun z => ?_)
        · exact br_f (by decide) (nm_r (nI_1 s) (stay (pl_of (hcmp.2.mp z))))
        · exact br_f (by decide) (nm_r (nI_1 s) (stay (by unfold pl; rw [if_pos rfl]; exact Nat.le_of_lt (hcmp.1.mp z))))
        · refine br_t (by decide) ⟨hin, hin, nm_e ⟨hin, hin, nm_e (nm_r (nI_1 s) (move ?_))⟩⟩
          unfold pl
          rw [if_pos rfl]
          have h1 := hcmp.1
          have h2 := hcmp.2
          omega
      | false =>
        refine x_ord b1.1 b1.2.1 b2.1 b2.2.1 (fun z => ?_) (fun z => ?_) (fun z => ?_)
        · exact br_f (by decide) (nm_r (nI_1 s) (stay (pl_of (hcmp.2.mp z))))
        · refine br_t (by decide) ⟨hin, hin, nm_e ⟨hin, hin, nm_e (nm_r (nI_1 s) (move ?_))⟩⟩
          unfold pl
          rw [if_neg (by decide)]
          exact Nat.le_of_lt (hcmp.1.mp z)
        · refine br_f (by decide) (nm_r (nI_1 s) (stay ?_))
          unfold pl
          rw [if_neg (by decide)]
          have h1 := hcmp.1
          have h2 := hcmp.2
          omega
  exact ⟨n + 1, key n 0 et eb (by omega) (fun t ht => by omega) (fun t _ htn => hE t htn)⟩
/-- the component's extremes -/
theorem x_ext {post : SX → Prop} (hc : cf_ok n cnt nxt shr) (best : Bool)
    (h : ∀ cr' eq' pt' pb' et' eb', (∀ t, t < n → xe n cnt nxt shr Γ best (2 ^ n) t (et' t) (eb' t)) → post ((nI n, nI (2 ^ n), xa cnt, xc cnt, xc nxt, xc shr, xg Γ, cr', eq', pt', pb', et', eb') : SX)) : wpX_findExtremes post ((nI n, nI (2 ^ n), xa cnt, xc cnt, xc nxt, xc shr, xg Γ, cr, eq, pt, pb, et, eb) : SX) (dr best) := by
  have h6 := hc.2.1
  have h64 := bi_pow_le h6
  have hp1 : 1 ≤ 2 ^ n := Nat.one_le_two_pow
  have k47 : ∀ (d P : Nat) (cr' : Nat → Int32) (eq' pt' pb' et' eb' : Nat → Int64), P + d = 2 ^ n → (∀ t, t < n → xe n cnt nxt shr Γ best P t (et' t) (eb' t)) → wX_findExtremes_47 post (dr best) (d + 1) (nI P) (nI n) (nI (2 ^ n)) (xa cnt) (xc cnt) (xc nxt) (xc shr) (xg Γ) cr' eq' pt' pb' et' eb' := by
    intro d
    induction d with
    | zero =>
      intro P cr' eq' pt' pb' et' eb' hP hE
      have e : P = 2 ^ n := by omega
      rw [wX_findExtremes_47]
      refine pk_le (2 ^ n) P (fun _ => h _ _ _ _ _ _ (fun t ht => ?_)) (fun z => by omega)
      rw [← e]; exact hE t ht
    | succ d ih =>
      intro P cr' eq' pt' pb' et' eb' hP hE
      rw [wX_findExtremes_47]
      refine pk_le (2 ^ n) P (fun z => by omega) (fun _ => x_chances hc (by omega) (fun cr2 eq2 pt2 pb2 hpt => x_keep hc best hpt hE (fun et3 eb3 hE3 => nm_r (nI_1 P) (ih (P + 1) _ _ _ _ _ _ (by omega) hE3))))
  have k7 : ∀ (cr' : Nat → Int32) (eq' pt' pb' : Nat → Int64), (∀ t, t < n → pt' t = lN (ltop n cnt nxt shr Γ 0 t) ∧ pb' t = lN (lbot n cnt nxt shr Γ 0 t)) → ∀ (d s : Nat) (et' eb' : Nat → Int64), s + d = n → (∀ t, t < s → et' t = pt' t ∧ eb' t = pb' t) → wX_findExtremes_7 post (dr best) (nI n) (nI (2 ^ n)) (d + 1) (nI s) (xa cnt) (xc cnt) (xc nxt) (xc shr) (xg Γ) cr' eq' pt' pb' et' eb' := by
    intro cr' eq' pt' pb' hpt d
    induction d with
    | zero =>
      intro s et' eb' hs hA
      have e : s = n := by omega
      subst e
      rw [wX_findExtremes_7]
      refine pk_le s s (fun _ => ⟨2 ^ s - 1 + 1, k47 (2 ^ s - 1) 1 _ _ _ _ _ _ (by omega) (fun t ht => ?_)⟩) (fun z => by omega)
      rw [(hA t ht).1, (hA t ht).2, (hpt t ht).1, (hpt t ht).2]
      exact ⟨0, by omega, rfl, rfl, fun p hp => by have : p = 0 := by omega
                                                   subst this; exact pl_refl _ _ _⟩
    | succ d ih =>
      intro s et' eb' hs hA
      have hin : vp_in (nI s) 6 := pk_in s 6 (by omega)
      rw [wX_findExtremes_7]
      refine pk_le n s (fun z => by omega) (fun _ => ⟨hin, hin, ?_⟩)
      rw [nI_clamp (n := s) (by omega)]
      refine nm_e ⟨hin, hin, nm_e (nm_r (nI_1 s) (ih (s + 1) _ _ (by omega) (fun t ht => ?_)))⟩
      by_cases e : t = s
      · subst e; exact ⟨pk_uLs, pk_uLs⟩
      · rw [pk_uLn e, pk_uLn e]; exact hA t (by omega)
  exact x_chances (p := 0) hc (by decide) (fun cr2 eq2 pt2 pb2 hpt => ⟨n + 1, k7 cr2 eq2 pt2 pb2 hpt n 0 et eb (by omega) (fun t ht => by omega)⟩)
end
end
section
section
variable {n : Nat} {cnt nxt shr : Nat → Nat} {Γ : Nat} {mv : Int32} {al : Int64} {pk : Nat → Int32} {gd tp bt : Nat → Int64}
theorem y_chosen {post : Int32 → Prop} {s p : Nat} (hs : s < 6) (hp : p < 64) (hc : ∀ c, cnt c ≤ 3) (h : post (nI (cf_ch cnt p s))) : wpY_chosen post ((nI n, nI Γ, mv, al, xc cnt, xc nxt, xc shr, pk, gd, tp, bt) : SY) (nI s) (nI p) := by
  unfold wpY_chosen
  dsimp only
  have e1 : (2 * nI s) + 1 = nI (2 * s + 1) := ix_2 s 1
  have h3 := hc (2 * s + 1)
  rw [bi_1 p hp s hs, e1, xc_at rfl (by omega)]
  unfold cf_ch at h
  by_cases hb : p.testBit s = true
  · rw [if_pos hb]
    refine br_t rfl ⟨pk_in (2 * s + 1) 12 (by omega), pk_le (cnt (2 * s + 1)) 0 (fun z => ?_) (fun z => ?_)⟩
    · rw [if_neg (by omega)] at h; exact h
    · rw [if_pos ⟨hb, by omega⟩] at h; exact h
  · rw [if_neg hb]
    refine br_f (by decide) ?_
    rw [if_neg (fun z => hb z.1)] at h
    exact h
theorem y_leads {post : Int32 → Prop} (hc : cf_ok n cnt nxt shr) {s p S : Nat} (hs : s < n) (hp : p < 64) (hS : S < 64)
    (h1 : ∀ k, k < cf_m cnt (cf_ch cnt p) s → S.testBit (cf_nx nxt (cf_ch cnt p) s k) = true → post 1)
    (h0 : (∀ k, k < cf_m cnt (cf_ch cnt p) s → ¬ S.testBit (cf_nx nxt (cf_ch cnt p) s k) = true) → post 0) : wpY_leads post ((nI n, nI Γ, mv, al, xc cnt, xc nxt, xc shr, pk, gd, tp, bt) : SY) (nI s) (nI p) (nI S) := by
  have HC := hc
  obtain ⟨h2, h6, hc3, hn, hr, hpp, hz⟩ := HC
  have hch := cf_ch_le cnt p s
  have hcc := hc3 (2 * s + cf_ch cnt p s)
  have em : cf_m cnt (cf_ch cnt p) s = cnt (2 * s + cf_ch cnt p s) := rfl
  unfold wpY_leads
  refine y_chosen (by omega) hp hc3 ⟨cnt (2 * s + cf_ch cnt p s) + 1, ?_⟩
  have key : ∀ (d i : Nat), i + d = cnt (2 * s + cf_ch cnt p s) → (∀ k, k < i → ¬ S.testBit (cf_nx nxt (cf_ch cnt p) s k) = true) → wY_leads_11 post (nI s) (nI S) (nI (cf_ch cnt p s)) (nI n) (nI Γ) mv al (xc cnt) (xc nxt) (xc shr) pk gd tp bt (d + 1) (nI i) := by
    intro d
    induction d with
    | zero =>
      intro i hi hI
      rw [wY_leads_11, ix_2, xc_at rfl (by omega)]
      exact ⟨pk_in (2 * s + cf_ch cnt p s) 12 (by omega), pk_le (cnt (2 * s + cf_ch cnt p s)) i (fun _ => h0 (fun k hk => hI k (by omega))) (fun z => by omega)⟩
    | succ d ih =>
      intro i hi hI
      rw [wY_leads_11]
      dsimp only
      rw [ix_2, xc_at rfl (by omega), ix_63, xc_at rfl (by omega)]
      have hnx := hn (6 * s + 3 * cf_ch cnt p s + i)
      rw [bi_1 S hS _ (by omega)]
      refine ⟨pk_in (2 * s + cf_ch cnt p s) 12 (by omega), pk_le (cnt (2 * s + cf_ch cnt p s)) i (fun z => by omega) (fun _ => pk_le 3 i (fun z => by omega) (fun _ => ⟨pk_in (6 * s + 3 * cf_ch cnt p s + i) 36 (by omega), ?_⟩))⟩
      by_cases hb : S.testBit (nxt (6 * s + 3 * cf_ch cnt p s + i)) = true
      · rw [if_pos hb]
        exact br_t rfl (h1 i (by omega) hb)
      · rw [if_neg hb]
        refine br_f (by decide) (nm_r (nI_1 i) (ih (i + 1) (by omega) (fun k hk => ?_)))
        by_cases e : k = i
        · subst e; exact hb
        · exact hI k (by omega)
  exact key _ 0 (by omega) (fun k hk => by omega)
/-- what holds within a round of the reference -/
def mk_R (n : Nat) (m : Nat → Nat) (nx : Nat → Nat → Nat) (G : Nat → Bool) (S0 s S : Nat) : Prop :=
  (∀ t, t < n → S0.testBit t = true → S.testBit t = true) ∧ (∀ t, t < n → S.testBit t = true → cf_RS n m nx G t) ∧ (∀ t k, t < s → t < n → k < m t → S0.testBit (nx t k) = true → S.testBit t = true)
theorem y_reach16 {post : SY → Prop} {J7 : Int32 → Int32 → Prop} (hc : cf_ok n cnt nxt shr) {p r S0 : Nat} (hp : p < 64)
    (hJ : ∀ S, S < 64 → mk_R n (cf_m cnt (cf_ch cnt p)) (cf_nx nxt (cf_ch cnt p)) (fun t => Γ.testBit t) S0 n S → J7 (nI S) (nI (r + 1))) :
    ∀ (d s S : Nat), s + d = n → S < 64 → mk_R n (cf_m cnt (cf_ch cnt p)) (cf_nx nxt (cf_ch cnt p)) (fun t => Γ.testBit t) S0 s S → wY_reach_16 post J7 (nI p) (nI r) (nI n) (nI Γ) mv al (xc cnt) (xc nxt) (xc shr) pk gd tp bt (d + 1) (nI S) (nI s) := by
  have h6 := hc.2.1
  intro d
  induction d with
  | zero =>
    intro s S hs hS hQ
    have e : s = n := by omega
    subst e
    rw [wY_reach_16]
    exact pk_le s s (fun _ => nm_r (nI_1 r) (hJ S hS hQ)) (fun z => by omega)
  | succ d ih =>
    intro s S hs hS hQ
    rw [wY_reach_16]
    refine pk_le n s (fun z => by omega) (fun _ => pk_le 6 s (fun z => by omega) (fun _ => ?_))
    refine y_leads hc (by omega) hp hS (fun k hk hb => ?_) (fun hno => ?_)
    · refine br_f (by decide) (nm_r (bi_2 S hS s (by omega)) (nm_r (nI_1 s) (ih (s + 1) _ (by omega) (bi_or_lt hS (by omega)) ⟨fun t ht h => ?_, fun t ht h => ?_, fun t k ht htn hk h => ?_⟩)))
      · rw [bi_or_t]
        split
        · rfl
        · exact hQ.1 t ht h
      · rw [bi_or_t] at h
        by_cases e : t = s
        · subst e
          exact cf_RS_s ht hk (hQ.2.1 _ (hc.2.2.2.1 _) hb)
        · rw [if_neg e] at h
          exact hQ.2.1 t ht h
      · rw [bi_or_t]
        by_cases e : t = s
        · rw [if_pos e]
        · rw [if_neg e]; exact hQ.2.2 t k (by omega) htn hk h
    · refine br_t rfl (nm_r (nI_1 s) (ih (s + 1) S (by omega) hS ⟨hQ.1, hQ.2.1, fun t k ht htn hk h => ?_⟩))
      by_cases e : t = s
      · subst e
        exact absurd (hQ.1 _ (hc.2.2.2.1 _) h) (hno k hk)
      · exact hQ.2.2 t k (by omega) htn hk h
theorem y_reach {post : SY → Prop} (hc : cf_ok n cnt nxt shr) (hΓ : Γ < 64) {p : Nat} (hp : p < 64)
    (h : ∀ μ, μ < 64 → (∀ t, t < n → μ.testBit t = cf_M n (cf_m cnt (cf_ch cnt p)) (cf_nx nxt (cf_ch cnt p)) (fun t => Γ.testBit t) t) → post ((nI n, nI Γ, (nI μ), al, xc cnt, xc nxt, xc shr, pk, gd, tp, bt) : SY)) : wpY_reach post ((nI n, nI Γ, mv, al, xc cnt, xc nxt, xc shr, pk, gd, tp, bt) : SY) (nI p) := by
  have h6 := hc.2.1
  have hx : ∀ s k, cf_nx nxt (cf_ch cnt p) s k < n := fun s k => hc.2.2.2.1 _
  refine ⟨6 + 1, ?_⟩
  have key : ∀ (d r S : Nat), r + d = 6 → S < 64 → mk_I n (cf_m cnt (cf_ch cnt p)) (cf_nx nxt (cf_ch cnt p)) (fun t => Γ.testBit t) r (fun t => S.testBit t) → wY_reach_7 post (nI p) (nI n) (nI Γ) mv al (xc cnt) (xc nxt) (xc shr) pk gd tp bt (d + 1) (nI S) (nI r) := by
    intro d
    induction d with
    | zero =>
      intro r S hr hS hI
      rw [wY_reach_7]
      refine pk_le 6 r (fun _ => nm_r (bi_4 S hS Γ hΓ) (h _ (bi_and_lt hS) (fun t ht => ?_))) (fun z => by omega)
      rw [bi_and_t (by omega)]
      have h1 : S.testBit t = true ↔ _ := mk_IE hI (by omega) t ht
      have h2 := @cf_M_t n (cf_m cnt (cf_ch cnt p)) (cf_nx nxt (cf_ch cnt p)) (fun t => Γ.testBit t) t
      cases hG : Γ.testBit t with
      | true =>
        cases hM : cf_M n (cf_m cnt (cf_ch cnt p)) (cf_nx nxt (cf_ch cnt p)) (fun t => Γ.testBit t) t with
        | true =>
          have := (h2.mp hM).2
          rw [hG] at this
          exact absurd this (by decide)
        | false => simp
      | false =>
        cases hM : cf_M n (cf_m cnt (cf_ch cnt p)) (cf_nx nxt (cf_ch cnt p)) (fun t => Γ.testBit t) t with
        | true =>
          rw [h1.mpr (h2.mp hM).1]; rfl
        | false =>
          cases hb : S.testBit t with
          | false => rfl
          | true =>
            have := h2.mpr ⟨h1.mp hb, hG⟩
            rw [hM] at this
            exact absurd this (by decide)
    | succ d ih =>
      intro r S hr hS hI
      rw [wY_reach_7]
      refine pk_le 6 r (fun z => by omega) (fun _ => ⟨n + 1, ?_⟩)
      refine y_reach16 hc hp (S0 := S) (fun S' hS' hQ => ?_) n 0 S (by omega) hS ⟨fun t _ h => h, fun t ht h => hI.2.1 t ht h, fun t k ht => by omega⟩
      exact ih (r + 1) S' (by omega) hS' (mk_I1 hx hI (fun t ht h => hQ.1 t ht h) (fun t ht h => hQ.2.1 t ht h) (fun t k ht hk h => hQ.2.2 t k ht ht hk h))
  exact key 6 0 Γ (by omega) hΓ (mk_I0 hx (fun s hs => rfl))
end
end
section
theorem fs_E_le {b : Nat → Nat} : ∀ k : Nat, (∀ s, s < k → b s ≤ 3) → fs_E b k ≤ 3 ^ k := by
  intro k
  induction k with
  | zero => intro _; exact Nat.le_refl _
  | succ k ih =>
    intro h
    have h1 := ih (fun s hs => h s (by omega))
    have h2 := h k (by omega)
    show fs_E b k * b k ≤ 3 ^ (k + 1)
    rw [Nat.pow_succ]
    exact Nat.mul_le_mul h1 h2
section
variable {n : Nat} {cnt nxt shr : Nat → Nat} {Γ : Nat} {mv : Int32} {al : Int64} {pk : Nat → Int32} {gd tp bt : Nat → Int64}
/-- the moving states under plan p -/
noncomputable abbrev yM (n : Nat) (cnt nxt : Nat → Nat) (Γ p : Nat) : Nat → Bool := cf_M n (cf_m cnt (cf_ch cnt p)) (cf_nx nxt (cf_ch cnt p)) (fun t => Γ.testBit t)
noncomputable abbrev yA (n : Nat) (cnt nxt : Nat → Nat) (Γ p : Nat) : Nat → Bool := fs_lv (yM n cnt nxt Γ p) n
/-- where x ends under choice c -/
noncomputable abbrev yE (n : Nat) (cnt nxt : Nat → Nat) (Γ p : Nat) (c : Nat → Nat) (N x : Nat) : Nat := fs_it (cf_nx nxt (cf_ch cnt p)) (yA n cnt nxt Γ p) c N x
theorem yA_t {p t : Nat} (ht : t < n) (h : yM n cnt nxt Γ p t = true) : yA n cnt nxt Γ p t = true := fs_lv_i ht h
theorem yA_f {p t : Nat} (h : yM n cnt nxt Γ p t = false) : yA n cnt nxt Γ p t = false := fs_lv_f (fun z => by rw [h] at z; exact absurd z.2 (by decide))
theorem y_led1 {post : Int32 → Prop} (hc : cf_ok n cnt nxt shr) (hΓ : Γ < 64) {p μ : Nat} (hμ : μ < 64) (hμM : ∀ t, t < n → μ.testBit t = yM n cnt nxt Γ p t) {c : Nat → Nat} (hcm : ∀ t, t < n → yM n cnt nxt Γ p t = true → c t < cf_m cnt (cf_ch cnt p) t ∧ pk t = nI (6 * t + 3 * cf_ch cnt p t + c t)) :
    ∀ (d i x : Nat), i + d = 6 → x < n → (yA n cnt nxt Γ p (yE n cnt nxt Γ p c d x) = true → post (-1)) → (yA n cnt nxt Γ p (yE n cnt nxt Γ p c d x) = false → Γ.testBit (yE n cnt nxt Γ p c d x) = true → post 1) → (yA n cnt nxt Γ p (yE n cnt nxt Γ p c d x) = false → Γ.testBit (yE n cnt nxt Γ p c d x) = false → post 0) →
    wY_led_4 post (nI n) (nI Γ) (nI μ) al (xc cnt) (xc nxt) (xc shr) pk gd tp bt (d + 1 + 1) (nI x) (nI i) := by
  have HC := hc
  obtain ⟨h2, h6, hc3, hn, hr, hpp, hz⟩ := HC
  have hstep : ∀ x, x < n → yM n cnt nxt Γ p x = true → vp_in (nI x) 6 ∧ vp_in (pk x) 36 ∧ xc nxt (pk x).toNatClampNeg = nI (cf_nx nxt (cf_ch cnt p) x (c x)) := by
    intro x hxn hM
    obtain ⟨h1, h3⟩ := hcm x hxn hM
    have hch := cf_ch_le cnt p x
    have hcc := hc3 (2 * x + cf_ch cnt p x)
    have em : cf_m cnt (cf_ch cnt p) x = cnt (2 * x + cf_ch cnt p x) := rfl
    refine ⟨pk_in x 6 (by omega), ?_, ?_⟩
    · rw [h3]; exact pk_in (6 * x + 3 * cf_ch cnt p x + c x) 36 (by omega)
    · rw [xc_at h3 (by omega)]; rfl
  intro d
  induction d with
  | zero =>
    intro i x hi hxn hA hB hC
    have e0 : yE n cnt nxt Γ p c 0 x = x := rfl
    rw [e0] at hA hB hC
    rw [wY_led_4]
    dsimp only
    rw [bi_1 Γ hΓ x (by omega), bi_1 μ hμ x (by omega), nI_clamp (n := x) (by omega), hμM x hxn]
    refine pk_le 7 i (fun z => by omega) (fun _ => ?_)
    cases hG : Γ.testBit x with
    | true =>
      rw [if_pos rfl]
      refine br_t rfl (hB (yA_f ?_) hG)
      cases hM : yM n cnt nxt Γ p x with
      | false => rfl
      | true =>
        have := (cf_M_t.mp hM).2
        rw [hG] at this
        exact absurd this (by decide)
    | false =>
      rw [if_neg (by decide)]
      refine br_f (by decide) ?_
      cases hM : yM n cnt nxt Γ p x with
      | false =>
        rw [if_neg (by decide)]
        exact br_t rfl (hC (yA_f hM) hG)
      | true =>
        rw [if_pos rfl]
        obtain ⟨g1, g2, g3⟩ := hstep x hxn hM
        refine br_f (by decide) ⟨g1, g2, nm_e (nm_r (nI_1 i) ?_)⟩
        rw [wY_led_4]
        exact pk_le 7 (i + 1) (fun _ => hA (yA_t hxn hM)) (fun z => by omega)
  | succ d ih =>
    intro i x hi hxn hA hB hC
    rw [wY_led_4]
    dsimp only
    rw [bi_1 Γ hΓ x (by omega), bi_1 μ hμ x (by omega), nI_clamp (n := x) (by omega), hμM x hxn]
    refine pk_le 7 i (fun z => by omega) (fun _ => ?_)
    cases hG : Γ.testBit x with
    | true =>
      rw [if_pos rfl]
      have hM : yM n cnt nxt Γ p x = false := by
        cases hM : yM n cnt nxt Γ p x with
        | false => rfl
        | true =>
          have := (cf_M_t.mp hM).2
          rw [hG] at this
          exact absurd this (by decide)
      have e0 : yE n cnt nxt Γ p c (d + 1) x = x := fs_it_stop (yA_f hM) _
      rw [e0] at hB
      exact br_t rfl (hB (yA_f hM) hG)
    | false =>
      rw [if_neg (by decide)]
      refine br_f (by decide) ?_
      cases hM : yM n cnt nxt Γ p x with
      | false =>
        rw [if_neg (by decide)]
        have e0 : yE n cnt nxt Γ p c (d + 1) x = x := fs_it_stop (yA_f hM) _
        rw [e0] at hC
        exact br_t rfl (hC (yA_f hM) hG)
      | true =>
        rw [if_pos rfl]
        obtain ⟨g1, g2, g3⟩ := hstep x hxn hM
        have e0 : yE n cnt nxt Γ p c (d + 1) x = yE n cnt nxt Γ p c d (cf_nx nxt (cf_ch cnt p) x (c x)) := by
          show fs_it _ _ _ (d + 1) x = _
          rw [fs_it_s, fs_st_t (yA_t hxn hM)]
        rw [e0] at hA hB hC
        exact br_f (by decide) ⟨g1, g2, nm_r g3 (nm_r (nI_1 i) (ih (i + 1) _ (by omega) (hn _) hA hB hC))⟩
/-- a choice as the reference holds it: pk, moving -/
def yH (n : Nat) (cnt nxt : Nat → Nat) (Γ p μ : Nat) (c : Nat → Nat) (pk : Nat → Int32) : Prop :=
  μ < 64 ∧ (∀ t, t < n → μ.testBit t = cf_M n (cf_m cnt (cf_ch cnt p)) (cf_nx nxt (cf_ch cnt p)) (fun t => Γ.testBit t) t) ∧ (∀ t, t < n → cf_M n (cf_m cnt (cf_ch cnt p)) (cf_nx nxt (cf_ch cnt p)) (fun t => Γ.testBit t) t = true → c t < cf_m cnt (cf_ch cnt p) t ∧ pk t = nI (6 * t + 3 * cf_ch cnt p t + c t))
theorem y_led {post : Int32 → Prop} (hc : cf_ok n cnt nxt shr) (hΓ : Γ < 64) {p μ : Nat} {c : Nat → Nat} (hH : yH n cnt nxt Γ p μ c pk) {x : Nat} (hx : x < n)
    (hA : yA n cnt nxt Γ p (yE n cnt nxt Γ p c 6 x) = true → post (-1)) (hB : yA n cnt nxt Γ p (yE n cnt nxt Γ p c 6 x) = false → Γ.testBit (yE n cnt nxt Γ p c 6 x) = true → post 1) (hC : yA n cnt nxt Γ p (yE n cnt nxt Γ p c 6 x) = false → Γ.testBit (yE n cnt nxt Γ p c 6 x) = false → post 0) : wpY_led post ((nI n, nI Γ, (nI μ), al, xc cnt, xc nxt, xc shr, pk, gd, tp, bt) : SY) (nI x) :=
  ⟨6 + 1 + 1, y_led1 hc hΓ hH.1 hH.2.1 hH.2.2 6 0 x (by omega) hx hA hB hC⟩
theorem y_173 {post : SY → Prop} (hc : cf_ok n cnt nxt shr) (hΓ : Γ < 64) {p μ : Nat} {c : Nat → Nat} (hH : yH n cnt nxt Γ p μ c pk) (hac : fs_ac n (cf_nx nxt (cf_ch cnt p)) (yA n cnt nxt Γ p) c) {W : Int} {A : Nat → Int}
    (h : ∀ gd', (∀ t, t < n → gd' t = lj (A t + W * cf_gl n (fun t => Γ.testBit t) (yE n cnt nxt Γ p c 6 t))) → post ((nI n, nI Γ, (nI μ), al, xc cnt, xc nxt, xc shr, pk, gd', tp, bt) : SY)) :
    ∀ (d s : Nat) (gd : Nat → Int64), s + d = n → (∀ t, t < s → t < n → gd t = lj (A t + W * cf_gl n (fun t => Γ.testBit t) (yE n cnt nxt Γ p c 6 t))) → (∀ t, s ≤ t → t < n → gd t = lj (A t)) →
    wY_count_173 post (lj W) (nI n) (nI Γ) (nI μ) al (d + 1) (nI s) (xc cnt) (xc nxt) (xc shr) pk gd tp bt := by
  have h6 := hc.2.1
  intro d
  induction d with
  | zero =>
    intro s gd hs hI hO
    have e : s = n := by omega
    subst e
    rw [wY_count_173]
    exact pk_le s s (fun _ => h gd (fun t ht => hI t ht ht)) (fun z => by omega)
  | succ d ih =>
    intro s gd hs hI hO
    have hsn : s < n := by omega
    have hin : vp_in (nI s) 6 := pk_in s 6 (by omega)
    have hend : yE n cnt nxt Γ p c 6 s < n := fs_it_lt (fun _ _ => hc.2.2.2.1 _) 6 s hsn
    rw [wY_count_173]
    refine pk_le n s (fun z => by omega) (fun _ => pk_le 6 s (fun z => by omega) (fun _ => y_led hc hΓ hH hsn (fun z => ?_) (fun _ hG => ?_) (fun _ hG => ?_)))
    · rw [hac s hsn] at z
      exact absurd z (by decide)
    · refine br_t rfl ⟨hin, hin, ?_⟩
      rw [nI_clamp (n := s) (by omega), hO s (Nat.le_refl _) hsn, lj_add]
      refine nm_e (nm_r (nI_1 s) (ih (s + 1) _ (by omega) (fun t ht htn => ?_) (fun t ht htn => ?_)))
      · by_cases e : t = s
        · subst e
          rw [pk_uLs]
          have : cf_gl n (fun t => Γ.testBit t) (yE n cnt nxt Γ p c 6 t) = 1 := if_pos ⟨hend, hG⟩
          rw [this, Int.mul_one]
        · rw [pk_uLn e]; exact hI t (by omega) htn
      · rw [pk_uLn (by omega)]; exact hO t (by omega) htn
    · refine br_f (by decide) (nm_r (nI_1 s) (ih (s + 1) gd (by omega) (fun t ht htn => ?_) (fun t ht htn => hO t (by omega) htn)))
      by_cases e : t = s
      · subst e
        have : cf_gl n (fun t => Γ.testBit t) (yE n cnt nxt Γ p c 6 t) = 0 := if_neg (fun z => by
          have h9 : Γ.testBit (yE n cnt nxt Γ p c 6 t) = true := z.2
          rw [hG] at h9
          exact absurd h9 (by decide))
        rw [this, Int.mul_zero, Int.add_zero]
        exact hO t (Nat.le_refl _) htn
      · exact hI t (by omega) htn
theorem y_135 {post : SY → Prop} (hc : cf_ok n cnt nxt shr) (hΓ : Γ < 64) {p μ : Nat} {c : Nat → Nat} (hH : yH n cnt nxt Γ p μ c pk) {W B : Int} {A : Nat → Int} (hal : al = lj B) (hgd : ∀ t, t < n → gd t = lj (A t))
    (hbad : ¬ fs_ac n (cf_nx nxt (cf_ch cnt p)) (yA n cnt nxt Γ p) c → post ((nI n, nI Γ, (nI μ), al, xc cnt, xc nxt, xc shr, pk, gd, tp, bt) : SY))
    (hgood : fs_ac n (cf_nx nxt (cf_ch cnt p)) (yA n cnt nxt Γ p) c → ∀ gd', (∀ t, t < n → gd' t = lj (A t + W * cf_gl n (fun t => Γ.testBit t) (yE n cnt nxt Γ p c 6 t))) → post ((nI n, nI Γ, (nI μ), (lj (B + W)), xc cnt, xc nxt, xc shr, pk, gd', tp, bt) : SY)) :
    ∀ (d s : Nat), s + d = n → (∀ t, t < s → yA n cnt nxt Γ p (yE n cnt nxt Γ p c 6 t) = false) → wY_count_135 post (lj W) (nI n) (nI Γ) (nI μ) al (xc cnt) (xc nxt) (xc shr) pk gd tp bt (d + 1) (nI s) := by
  have h6 := hc.2.1
  intro d
  induction d with
  | zero =>
    intro s hs hI
    have e : s = n := by omega
    subst e
    rw [wY_count_135]
    refine pk_le s s (fun _ => nm_r (by rw [hal, lj_add]) ⟨s + 1, y_173 hc hΓ hH hI (hgood hI) s 0 gd (by omega) (fun t ht => by omega) (fun t _ htn => hgd t htn)⟩) (fun z => by omega)
  | succ d ih =>
    intro s hs hI
    rw [wY_count_135]
    refine pk_le n s (fun z => by omega) (fun _ => y_led hc hΓ hH (by omega) (fun z => ?_) (fun z _ => ?_) (fun z _ => ?_))
    · refine br_f (by decide) (hbad (fun hac => ?_))
      rw [hac s (by omega)] at z
      exact absurd z (by decide)
    · refine br_t (by decide) (nm_r (nI_1 s) (ih (s + 1) (by omega) (fun t ht => ?_)))
      by_cases e : t = s
      · subst e; exact z
      · exact hI t (by omega)
    · refine br_t (by decide) (nm_r (nI_1 s) (ih (s + 1) (by omega) (fun t ht => ?_)))
      by_cases e : t = s
      · subst e; exact z
      · exact hI t (by omega)
end
end
section
section
variable {n : Nat} {cnt nxt shr : Nat → Nat} {Γ : Nat} {mv : Int32} {al : Int64} {pk : Nat → Int32} {gd tp bt : Nat → Int64}
/-- how many choices each state has, under plan p -/
noncomputable abbrev yb (n : Nat) (cnt nxt : Nat → Nat) (Γ p : Nat) : Nat → Nat := fs_bb (cf_m cnt (cf_ch cnt p)) (yA n cnt nxt Γ p)
theorem yb_pos (hc : cf_ok n cnt nxt shr) {p s : Nat} (hs : s < n) : 0 < yb n cnt nxt Γ p s := by
  unfold yb fs_bb
  split
  · rename_i h
    exact fs_M_m (cf_fs hc _ _) hs (fs_lv_t h).2
  · decide
theorem yb_le (hc : cf_ok n cnt nxt shr) (p s : Nat) : yb n cnt nxt Γ p s ≤ 3 := by
  unfold yb fs_bb
  split
  · exact hc.2.2.1 _
  · decide
/-- the choice of a code -/
noncomputable abbrev yc (n : Nat) (cnt nxt : Nat → Nat) (Γ p code : Nat) : Nat → Nat := fs_dec (yb n cnt nxt Γ p) n code (fun _ => 0)
theorem yc_at {p code s : Nat} (hs : s < n) : yc n cnt nxt Γ p code s = code / fs_E (yb n cnt nxt Γ p) s % yb n cnt nxt Γ p s := if_pos hs
/-- the weight of the code's choices below s -/
noncomputable abbrev yw (n : Nat) (cnt nxt shr : Nat → Nat) (Γ p code s : Nat) : Int := fs_prod (fun t => if yA n cnt nxt Γ p t = true then cf_w shr (cf_ch cnt p) t (yc n cnt nxt Γ p code t) else 1) s
theorem y_count8 {post : SY → Prop} (hc : cf_ok n cnt nxt shr) {p μ code : Nat} (hp : p < 64) (hcode : code < 2 ^ 20) (hμ : μ < 64) (hμM : ∀ t, t < n → μ.testBit t = yM n cnt nxt Γ p t)
    (h : ∀ pk', yH n cnt nxt Γ p μ (yc n cnt nxt Γ p code) pk' → ∃ q, wY_count_135 post (lj (yw n cnt nxt shr Γ p code n)) (nI n) (nI Γ) (nI μ) al (xc cnt) (xc nxt) (xc shr) pk' gd tp bt q 0) :
    ∀ (d s : Nat) (pk : Nat → Int32), s + d = n → (∀ t, t < s → t < n → yM n cnt nxt Γ p t = true → yc n cnt nxt Γ p code t < cf_m cnt (cf_ch cnt p) t ∧ pk t = nI (6 * t + 3 * cf_ch cnt p t + yc n cnt nxt Γ p code t)) →
    wY_count_8 post (nI p) (nI n) (nI Γ) (nI μ) al (d + 1) (lj (yw n cnt nxt shr Γ p code s)) (nI (code / fs_E (yb n cnt nxt Γ p) s)) (nI s) (xc cnt) (xc nxt) (xc shr) pk gd tp bt := by
  have HC := hc
  obtain ⟨h2, h6, hc3, hn, hr, hpp, hz⟩ := HC
  intro d
  induction d with
  | zero =>
    intro s pk hs hI
    have e : s = n := by omega
    subst e
    rw [wY_count_8]
    exact pk_le s s (fun _ => h pk ⟨hμ, hμM, fun t ht hM => hI t ht ht hM⟩) (fun z => by omega)
  | succ d ih =>
    intro s pk hs hI
    have hsn : s < n := by omega
    rw [wY_count_8]
    dsimp only
    rw [bi_1 μ hμ s (by omega), hμM s hsn]
    refine pk_le n s (fun z => by omega) (fun _ => pk_le 6 s (fun z => by omega) (fun _ => ?_))
    cases hM : yM n cnt nxt Γ p s with
    | false =>
      rw [if_neg (by decide)]
      refine br_f (by decide) (nm_r (nI_1 s) ?_)
      have e1 : yb n cnt nxt Γ p s = 1 := if_neg (by rw [yA_f hM]; decide)
      have e2 : code / fs_E (yb n cnt nxt Γ p) s = code / fs_E (yb n cnt nxt Γ p) (s + 1) := by
        show _ = code / (fs_E (yb n cnt nxt Γ p) s * yb n cnt nxt Γ p s)
        rw [e1, Nat.mul_one]
      have e3 : yw n cnt nxt shr Γ p code s = yw n cnt nxt shr Γ p code (s + 1) := by
        show _ = fs_prod _ s * (if yA n cnt nxt Γ p s = true then _ else 1)
        rw [yA_f hM, if_neg (by decide), Int.mul_one]
      rw [e2, e3]
      refine ih (s + 1) pk (by omega) (fun t ht htn hMt => ?_)
      by_cases e : t = s
      · subst e; rw [hM] at hMt; exact absurd hMt (by decide)
      · exact hI t (by omega) htn hMt
    | true =>
      rw [if_pos rfl]
      refine br_t rfl (y_chosen (by omega) hp hc3 ?_)
      have hch := cf_ch_le cnt p s
      have hcc := hc3 (2 * s + cf_ch cnt p s)
      have em : cf_m cnt (cf_ch cnt p) s = cnt (2 * s + cf_ch cnt p s) := rfl
      have e1 : yb n cnt nxt Γ p s = cf_m cnt (cf_ch cnt p) s := if_pos (yA_t hsn hM)
      have hmp : 0 < cf_m cnt (cf_ch cnt p) s := by rw [← e1]; exact yb_pos hc hsn
      have hrest : code / fs_E (yb n cnt nxt Γ p) s ≤ code := Nat.div_le_self _ _
      have ecs : code / fs_E (yb n cnt nxt Γ p) s % cnt (2 * s + cf_ch cnt p s) = yc n cnt nxt Γ p code s := by rw [yc_at hsn, e1, em]
      have hcs : yc n cnt nxt Γ p code s < cnt (2 * s + cf_ch cnt p s) := by rw [← ecs]; exact Nat.mod_lt _ (by omega)
      have e2 : code / fs_E (yb n cnt nxt Γ p) s / cnt (2 * s + cf_ch cnt p s) = code / fs_E (yb n cnt nxt Γ p) (s + 1) := by
        show _ = code / (fs_E (yb n cnt nxt Γ p) s * yb n cnt nxt Γ p s)
        rw [e1, Nat.div_div_eq_div_mul, em]
      have e3 : yw n cnt nxt shr Γ p code s * cf_w shr (cf_ch cnt p) s (yc n cnt nxt Γ p code s) = yw n cnt nxt shr Γ p code (s + 1) := by
        show _ = fs_prod _ s * (if yA n cnt nxt Γ p s = true then cf_w shr (cf_ch cnt p) s (yc n cnt nxt Γ p code s) else 1)
        rw [if_pos (yA_t hsn hM)]
      try dsimp only
      rw [ix_2, xc_at rfl (by omega)]
      refine ⟨pk_in (2 * s + cf_ch cnt p s) 12 (by omega), pk_le 1 (cnt (2 * s + cf_ch cnt p s)) (fun _ => ⟨pk_in (2 * s + cf_ch cnt p s) 12 (by omega), ?_⟩) (fun z => by omega)⟩
      unfold wY_count_78
      have hnz : ¬ nI (cnt (2 * s + cf_ch cnt p s)) = 0 := nI_ne0 (by omega) (by omega)
      have hin : vp_in (nI s) 6 := pk_in s 6 (by omega)
      rw [pk_rem (by omega) (by omega) (by omega), pk_div (by omega) (by omega) (by omega), ecs, e2, ix_63, nI_clamp (n := s) (by omega)]
      refine ⟨hnz, hin, nm_e ⟨hnz, nm_e ⟨hin, ?_⟩⟩⟩
      rw [pk_us, xc_at rfl (by omega)]
      have hsh := hr (6 * s + 3 * cf_ch cnt p s + yc n cnt nxt Γ p code s)
      rw [lj_sh (by omega), lj_mul]
      refine ⟨pk_in (6 * s + 3 * cf_ch cnt p s + yc n cnt nxt Γ p code s) 36 (by omega), nm_e (nm_r (nI_1 s) ?_)⟩
      have e4 : ((shr (6 * s + 3 * cf_ch cnt p s + yc n cnt nxt Γ p code s) : Nat) : Int) = cf_w shr (cf_ch cnt p) s (yc n cnt nxt Γ p code s) := rfl
      rw [e4, e3]
      refine ih (s + 1) _ (by omega) (fun t ht htn hMt => ?_)
      by_cases e : t = s
      · subst e
        exact ⟨hcs, pk_us⟩
      · rw [pk_un e]; exact hI t (by omega) htn hMt
/-- what a choice adds -/
noncomputable abbrev yφ (n : Nat) (cnt nxt shr : Nat → Nat) (Γ p : Nat) (h : Nat → Int) (x : Nat) : (Nat → Nat) → Int := fun c => fs_ind (fs_ac n (cf_nx nxt (cf_ch cnt p)) (yA n cnt nxt Γ p) c) * (fs_wt n (cf_w shr (cf_ch cnt p)) (yA n cnt nxt Γ p) c * h (yE n cnt nxt Γ p c 6 x))
theorem y_count {post : SY → Prop} (hc : cf_ok n cnt nxt shr) (hΓ : Γ < 64) {p μ code : Nat} (hp : p < 64) (hcode : code < 2 ^ 20) (hμ : μ < 64) (hμM : ∀ t, t < n → μ.testBit t = yM n cnt nxt Γ p t) {B : Int} {A : Nat → Int} (hal : al = lj B) (hgd : ∀ t, t < n → gd t = lj (A t))
    (h : ∀ pk' gd', (∀ t, t < n → gd' t = lj (A t + yφ n cnt nxt shr Γ p (cf_gl n (fun t => Γ.testBit t)) t (yc n cnt nxt Γ p code))) → post ((nI n, nI Γ, (nI μ), (lj (B + yφ n cnt nxt shr Γ p (fun _ => 1) 0 (yc n cnt nxt Γ p code))), xc cnt, xc nxt, xc shr, pk', gd', tp, bt) : SY)) : wpY_count post ((nI n, nI Γ, (nI μ), al, xc cnt, xc nxt, xc shr, pk, gd, tp, bt) : SY) (nI code) (nI p) := by
  refine ⟨n + 1, ?_⟩
  have hE0 : code / fs_E (yb n cnt nxt Γ p) 0 = code := Nat.div_one _
  have hw0 : lj (yw n cnt nxt shr Γ p code 0) = 1 := lj_1
  have := y_count8 (post := post) (al := al) (gd := gd) (tp := tp) (bt := bt) hc hp hcode hμ hμM (fun pk' hH => ⟨n + 1, ?_⟩) n 0 pk (by omega) (fun t ht => by omega)
  · rw [hE0, hw0] at this
    exact this
  · refine y_135 hc hΓ hH hal hgd (fun hac => ?_) (fun hac gd' hgd' => ?_) n 0 (by omega) (fun t ht => by omega)
    · have e1 : ∀ (h : Nat → Int) (x : Nat), yφ n cnt nxt shr Γ p h x (yc n cnt nxt Γ p code) = 0 := by
        intro h x
        show fs_ind _ * _ = 0
        rw [fs_ind_f hac, Int.zero_mul]
      have := h pk' gd (fun t ht => by rw [e1, Int.add_zero]; exact hgd t ht)
      rw [e1, Int.add_zero, ← hal] at this
      exact this
    · have e1 : ∀ (h : Nat → Int) (x : Nat), yφ n cnt nxt shr Γ p h x (yc n cnt nxt Γ p code) = yw n cnt nxt shr Γ p code n * h (yE n cnt nxt Γ p (yc n cnt nxt Γ p code) 6 x) := by
        intro h x
        show fs_ind _ * (fs_wt n _ _ _ * _) = _
        rw [fs_ind_t hac, Int.one_mul]
        rfl
      have := h pk' gd' (fun t ht => by rw [e1]; exact hgd' t ht)
      rw [e1, Int.mul_one] at this
      exact this
/-- the reference's good and all under a plan -/
theorem y_work {post : SY → Prop} (hc : cf_ok n cnt nxt shr) (hΓ : Γ < 64) {p : Nat} (hp : p < 64)
    (h : ∀ mv' pk' gd', (∀ t, t < n → gd' t = lN (gn n cnt nxt shr Γ p t)) → post ((nI n, nI Γ, mv', (lN (dn n cnt nxt shr Γ p)), xc cnt, xc nxt, xc shr, pk', gd', tp, bt) : SY)) : wpY_work post ((nI n, nI Γ, mv, al, xc cnt, xc nxt, xc shr, pk, gd, tp, bt) : SY) (nI p) := by
  have HC := hc
  obtain ⟨h2, h6, hc3, hn, hr, hpp, hz⟩ := HC
  have hEle : fs_E (yb n cnt nxt Γ p) n ≤ 729 := by
    have h1 := fs_E_le (b := yb n cnt nxt Γ p) n (fun s _ => yb_le hc p s)
    have h3 : (3 : Nat) ^ n ≤ 3 ^ 6 := Nat.pow_le_pow_right (by decide) h6
    omega
  refine y_reach hc hΓ hp (fun μ hμ hμM => ⟨6 + 1, ?_⟩)
  have k87 : ∀ (d code : Nat) (al' : Int64) (pk' : Nat → Int32) (gd' : Nat → Int64), code + d = fs_E (yb n cnt nxt Γ p) n → al' = lj (fs_sum (fun q => yφ n cnt nxt shr Γ p (fun _ => 1) 0 (yc n cnt nxt Γ p q)) code) → (∀ t, t < n → gd' t = lj (fs_sum (fun q => yφ n cnt nxt shr Γ p (cf_gl n (fun t => Γ.testBit t)) t (yc n cnt nxt Γ p q)) code)) → wY_work_87 post (nI p) (nI (fs_E (yb n cnt nxt Γ p) n)) (d + 1) (nI code) (nI n) (nI Γ) (nI μ) al' (xc cnt) (xc nxt) (xc shr) pk' gd' tp bt := by
    intro d
    induction d with
    | zero =>
      intro code al' pk' gd' hcd hal' hgd'
      have e : code = fs_E (yb n cnt nxt Γ p) n := by omega
      rw [wY_work_87]
      refine pk_le (fs_E (yb n cnt nxt Γ p) n) code (fun _ => ?_) (fun z => by omega)
      have ed : al' = lN (dn n cnt nxt shr Γ p) := by
        rw [hal', lj_N, dn_i hc, e]
        exact congrArg lj (fs_S_code (yφ n cnt nxt shr Γ p (fun _ => 1) 0) n (fun s hs => yb_pos hc hs) (fun _ => 0)).symm
      rw [ed]
      refine h _ _ _ (fun t ht => ?_)
      rw [hgd' t ht, lj_N, gn_i hc ht, e]
      exact congrArg lj (fs_S_code (yφ n cnt nxt shr Γ p (cf_gl n (fun t => Γ.testBit t)) t) n (fun s hs => yb_pos hc hs) (fun _ => 0)).symm
    | succ d ih =>
      intro code al' pk' gd' hcd hal' hgd'
      rw [wY_work_87]
      refine pk_le (fs_E (yb n cnt nxt Γ p) n) code (fun z => by omega) (fun _ => y_count hc hΓ hp (by omega) hμ hμM hal' hgd' (fun pk2 gd2 hgd2 => nm_r (nI_1 code) (ih (code + 1) _ pk2 gd2 (by omega) rfl hgd2)))
  have k35 : ∀ (gd' : Nat → Int64), (∀ t, t < n → gd' t = 0) → ∀ (d s : Nat), s + d = n → wY_work_35 post (nI p) (nI n) (nI Γ) (nI μ) 0 (xc cnt) (xc nxt) (xc shr) pk gd' tp bt (d + 1) (nI (fs_E (yb n cnt nxt Γ p) s)) (nI s) := by
    intro gd' hg0 d
    induction d with
    | zero =>
      intro s hs
      have e : s = n := by omega
      subst e
      rw [wY_work_35]
      refine pk_le s s (fun _ => ⟨fs_E (yb s cnt nxt Γ p) s + 1, k87 _ 0 0 pk gd' (by omega) lj_0.symm (fun t ht => ?_)⟩) (fun z => by omega)
      rw [hg0 t ht]; exact lj_0.symm
    | succ d ih =>
      intro s hs
      have hsn : s < n := by omega
      rw [wY_work_35]
      dsimp only
      have hμs : μ.testBit s = yM n cnt nxt Γ p s := hμM s hsn
      rw [bi_1 μ hμ s (by omega), hμs]
      refine pk_le n s (fun z => by omega) (fun _ => pk_le 6 s (fun z => by omega) (fun _ => ?_))
      cases hM : yM n cnt nxt Γ p s with
      | false =>
        rw [if_neg (by decide)]
        refine br_f (by decide) (nm_r (nI_1 s) ?_)
        have e1 : yb n cnt nxt Γ p s = 1 := if_neg (by rw [yA_f hM]; decide)
        have e2 : fs_E (yb n cnt nxt Γ p) s = fs_E (yb n cnt nxt Γ p) (s + 1) := by
          show _ = fs_E (yb n cnt nxt Γ p) s * yb n cnt nxt Γ p s
          rw [e1, Nat.mul_one]
        rw [e2]
        exact ih (s + 1) (by omega)
      | true =>
        rw [if_pos rfl]
        refine br_t rfl (y_chosen (by omega) hp hc3 ?_)
        have hch := cf_ch_le cnt p s
        try dsimp only
        rw [ix_2, xc_at rfl (by omega), pk_mul]
        have e1 : yb n cnt nxt Γ p s = cnt (2 * s + cf_ch cnt p s) := if_pos (yA_t hsn hM)
        rw [← e1]
        exact ⟨pk_in (2 * s + cf_ch cnt p s) 12 (by omega), nm_e (nm_r (nI_1 s) (ih (s + 1) (by omega)))⟩
  have k12 : ∀ (d i : Nat) (gd' : Nat → Int64), i + d = 6 → (∀ t, t < i → gd' t = 0) → wY_work_12 post (nI p) (nI n) (nI Γ) (nI μ) 0 (d + 1) (nI i) (xc cnt) (xc nxt) (xc shr) pk gd' tp bt := by
    intro d
    induction d with
    | zero =>
      intro i gd' hi hI
      rw [wY_work_12]
      exact pk_le 6 i (fun _ => ⟨n + 1, k35 gd' (fun t ht => hI t (by omega)) n 0 (by omega)⟩) (fun z => by omega)
    | succ d ih =>
      intro i gd' hi hI
      rw [wY_work_12]
      dsimp only
      rw [nI_clamp (n := i) (by omega)]
      refine pk_le 6 i (fun z => by omega) (fun _ => ⟨pk_in i 6 (by omega), nm_e (nm_r (nI_1 i) (ih (i + 1) _ (by omega) (fun t ht => ?_)))⟩)
      by_cases e : t = i
      · subst e; exact pk_uLs
      · rw [pk_uLn e]; exact hI t (by omega)
  exact k12 6 0 gd (by omega) (fun t ht => by omega)
end
end
section
theorem bi_6 : ∀ p, p < 64 → ∀ q, q < 64 → nI p &&& nI q = nI (p &&& q) := by decide +kernel
/-- the states with two actions -/
def tw (cnt : Nat → Nat) : Nat → Nat
  | 0 => 0
  | k + 1 => if 0 < cnt (2 * k + 1) then tw cnt k ||| 2 ^ k else tw cnt k
theorem tw_lt {cnt : Nat → Nat} : ∀ k, k ≤ 6 → tw cnt k < 64 := by
  intro k
  induction k with
  | zero => intro _; exact (by decide : (0 : Nat) < 64)
  | succ k ih =>
    intro h
    show (if 0 < cnt (2 * k + 1) then tw cnt k ||| 2 ^ k else tw cnt k) < 64
    split
    · exact bi_or_lt (ih (by omega)) (by omega)
    · exact ih (by omega)
theorem tw_t {cnt : Nat → Nat} (t : Nat) : ∀ k, (tw cnt k).testBit t = decide (t < k ∧ 0 < cnt (2 * t + 1)) := by
  intro k
  induction k with
  | zero =>
    show (0 : Nat).testBit t = _
    rw [Nat.zero_testBit]
    exact (decide_eq_false (by omega)).symm
  | succ k ih =>
    show (if 0 < cnt (2 * k + 1) then tw cnt k ||| 2 ^ k else tw cnt k).testBit t = _
    by_cases h : 0 < cnt (2 * k + 1)
    · rw [if_pos h, bi_or_t, ih]
      by_cases e : t = k
      · subst e
        rw [if_pos rfl]
        exact (decide_eq_true ⟨by omega, h⟩).symm
      · rw [if_neg e]
        apply decide_eq_decide.mpr
        omega
    · rw [if_neg h, ih]
      apply decide_eq_decide.mpr
      by_cases e : t = k
      · subst e; omega
      · omega
theorem tw_ch {n p : Nat} {cnt : Nat → Nat} (hp : p < 2 ^ n) : cf_ch cnt (p &&& tw cnt n) = cf_ch cnt p := by
  funext s
  unfold cf_ch
  rw [Nat.testBit_and, tw_t]
  by_cases hs : s < n
  · by_cases h2 : 0 < cnt (2 * s + 1)
    · rw [decide_eq_true (⟨hs, h2⟩ : s < n ∧ 0 < cnt (2 * s + 1)), Bool.and_true]
    · rw [if_neg (fun z => h2 z.2), if_neg (fun z => h2 z.2)]
  · have h1 : p.testBit s = false := Nat.testBit_lt_two_pow (Nat.lt_of_lt_of_le hp (Nat.pow_le_pow_right (by decide) (by omega)))
    rw [h1]
    rfl
section
variable {n : Nat} {cnt nxt shr : Nat → Nat} {Γ : Nat} {mv : Int32} {al : Int64} {pk : Nat → Int32} {gd tp bt : Nat → Int64}
theorem y_gcd1 {post : Int64 → Prop} : ∀ (d i a b k : Nat), i + d = 100 → b ≤ a → a * b < 2 ^ k → k ≤ d → a < 2 ^ 62 → 0 < a → post (lN (Nat.gcd a b)) → wY_common_9 post (nI n) (nI Γ) mv al (xc cnt) (xc nxt) (xc shr) pk gd tp bt (d + 1) (lN a) (lN b) (nI i) := by
  intro d
  induction d with
  | zero =>
    intro i a b k hi hba hk hkd ha ha0 h
    have hb : b = 0 := by
      have : k = 0 := by omega
      subst this
      by_cases hb : b = 0
      · exact hb
      · have := Nat.mul_pos ha0 (by omega : 0 < b)
        omega
    subst hb
    rw [Nat.gcd_zero_right] at h
    rw [wY_common_9]
    exact pk_le 100 i (fun _ => br_t ((pk_lLE (a := 1) (by omega) (by omega)).mpr ha0) h) (fun z => by omega)
  | succ d ih =>
    intro i a b k hi hba hk hkd ha ha0 h
    rw [wY_common_9]
    refine pk_le 100 i (fun z => by omega) (fun _ => ?_)
    by_cases hb : b = 0
    · subst hb
      refine br_t (by decide) (nm_r (nI_1 i) (ih (i + 1) a 0 0 (by omega) (by omega) (by rw [Nat.mul_zero]; decide) (by omega) ha ha0 h))
    · have hz : ¬ lN b = 0 := fun z => hb ((lN_z (by omega)).mp z)
      have hz2 : ¬ lN b ≤ 0 := fun z => by have := (pk_lLE (b := 0) (by omega) (by omega)).mp z; omega
      refine br_f hz2 ⟨hz, nm_r (pk_lRem (by omega) (by omega) (by omega)) (nm_r (nI_1 i) ?_)⟩
      cases k with
      | zero =>
        exfalso
        have := Nat.mul_pos ha0 (by omega : 0 < b)
        omega
      | succ k =>
        have h1 := eu_half (by omega : 0 < b) hba hk
        refine ih (i + 1) b (a % b) k (by omega) (by omega) h1.2 (by omega) (by omega) (by omega) ?_
        rw [eu_gcd]; exact h
theorem y_gcd {post : Int64 → Prop} {a b : Nat} (ha : a < 2 ^ 30) (hb0 : 0 < b) (hb : b < 2 ^ 30) (h : post (lN (Nat.gcd a b))) : wpY_common post ((nI n, nI Γ, mv, al, xc cnt, xc nxt, xc shr, pk, gd, tp, bt) : SY) (lN a) (lN b) := by
  refine ⟨99 + 1 + 1, ?_⟩
  rw [wY_common_9]
  have hz : ¬ lN b = 0 := fun z => by have := (lN_z (by omega)).mp z; omega
  have hz2 : ¬ lN b ≤ 0 := fun z => by have := (pk_lLE (b := 0) (by omega) (by omega)).mp z; omega
  refine br_f (by decide) (br_f hz2 ⟨hz, nm_r (pk_lRem (by omega) (by omega) (by omega)) (nm_e ?_)⟩)
  have h1 := Nat.mod_lt a hb0
  refine y_gcd1 99 1 b (a % b) 60 (by omega) (by omega) (eu_60 hb0 hb) (by omega) (by omega) hb0 ?_
  rw [eu_gcd]; exact h
theorem y_top {post : Int64 → Prop} {a b : Nat} (ha : a < 2 ^ 30) (hb0 : 0 < b) (hb : b < 2 ^ 30) (h : post (lN (a / Nat.gcd a b))) : wpY_top post ((nI n, nI Γ, mv, al, xc cnt, xc nxt, xc shr, pk, gd, tp, bt) : SY) (lN a) (lN b) := by
  unfold wpY_top
  have hg0 : 0 < Nat.gcd a b := Nat.gcd_pos_of_pos_right _ hb0
  have hgl : Nat.gcd a b ≤ b := Nat.le_of_dvd hb0 (Nat.gcd_dvd_right _ _)
  refine y_gcd ha hb0 hb (br_t ((pk_lLE (a := 1) (by omega) (by omega)).mpr hg0) ⟨fun z => by have := (lN_z (by omega)).mp z; omega, ?_⟩)
  rw [pk_lDiv (by omega) hg0 (by omega)]
  exact h
theorem y_bottom {post : Int64 → Prop} {a b : Nat} (ha : a < 2 ^ 30) (hb0 : 0 < b) (hb : b < 2 ^ 30) (h : post (lN (b / Nat.gcd a b))) : wpY_bottom post ((nI n, nI Γ, mv, al, xc cnt, xc nxt, xc shr, pk, gd, tp, bt) : SY) (lN a) (lN b) := by
  unfold wpY_bottom
  have hg0 : 0 < Nat.gcd a b := Nat.gcd_pos_of_pos_right _ hb0
  have hgl : Nat.gcd a b ≤ b := Nat.le_of_dvd hb0 (Nat.gcd_dvd_right _ _)
  refine y_gcd ha hb0 hb (br_t ((pk_lLE (a := 1) (by omega) (by omega)).mpr hg0) ⟨fun z => by have := (lN_z (by omega)).mp z; omega, ?_⟩)
  rw [pk_lDiv (by omega) hg0 (by omega)]
  exact h
theorem y_twofold {post : Int32 → Prop} (hc : cf_ok n cnt nxt shr) (h : post (nI (tw cnt n))) : wpY_twofold post ((nI n, nI Γ, mv, al, xc cnt, xc nxt, xc shr, pk, gd, tp, bt) : SY) := by
  have h6 := hc.2.1
  have hc3 := hc.2.2.1
  have key : ∀ (d s : Nat), s + d = n → wY_twofold_4 post (nI n) (nI Γ) mv al (xc cnt) (xc nxt) (xc shr) pk gd tp bt (d + 1) (nI (tw cnt s)) (nI s) := by
    intro d
    induction d with
    | zero =>
      intro s hs
      have e : s = n := by omega
      subst e
      rw [wY_twofold_4]
      exact pk_le s s (fun _ => h) (fun z => by omega)
    | succ d ih =>
      intro s hs
      have h3 := hc3 (2 * s + 1)
      have e1 : (2 * nI s) + 1 = nI (2 * s + 1) := ix_2 s 1
      have hk := ih (s + 1) (by omega)
      rw [wY_twofold_4]
      dsimp only
      rw [e1, xc_at rfl (by omega), bi_2 _ (tw_lt s (by omega)) s (by omega)]
      refine pk_le n s (fun z => by omega) (fun _ => pk_le 6 s (fun z => by omega) (fun _ => ⟨pk_in (2 * s + 1) 12 (by omega), pk_le (cnt (2 * s + 1)) 0 (fun z => nm_r (nI_1 s) ?_) (fun z => nm_e (nm_r (nI_1 s) ?_))⟩))
      · have e2 : tw cnt (s + 1) = tw cnt s := if_neg (by omega)
        rw [e2] at hk; exact hk
      · have e2 : tw cnt (s + 1) = tw cnt s ||| 2 ^ s := if_pos z
        rw [e2] at hk; exact hk
  exact ⟨n + 1, key n 0 (by omega)⟩
/-- a / b is the extreme of the plans below P with bits of states with two actions alone, for t -/
def ye (n : Nat) (cnt nxt shr : Nat → Nat) (Γ : Nat) (best : Bool) (P t : Nat) (a b : Int64) : Prop :=
  ∃ q, q < P ∧ a = lN (gn n cnt nxt shr Γ q t) ∧ b = lN (dn n cnt nxt shr Γ q) ∧ ∀ p, p < P → p &&& tw cnt n = p → pl n cnt nxt shr Γ best p q t
def yx (n : Nat) (cnt nxt shr : Nat → Nat) (Γ : Nat) (best : Bool) (t : Nat) (a b : Int64) : Prop :=
  ∃ q, q < 2 ^ n ∧ a = lN (gn n cnt nxt shr Γ q t) ∧ b = lN (dn n cnt nxt shr Γ q) ∧ ∀ p, p < 2 ^ n → pl n cnt nxt shr Γ best p q t
theorem gn_tw {p t : Nat} (hp : p < 2 ^ n) : gn n cnt nxt shr Γ (p &&& tw cnt n) t = gn n cnt nxt shr Γ p t ∧ dn n cnt nxt shr Γ (p &&& tw cnt n) = dn n cnt nxt shr Γ p := by
  unfold gn dn
  rw [tw_ch hp]
  exact ⟨rfl, rfl⟩
theorem ye_x {best : Bool} {t : Nat} {a b : Int64} (h : ye n cnt nxt shr Γ best (2 ^ n) t a b) : yx n cnt nxt shr Γ best t a b := by
  obtain ⟨q, hq, ha, hb, hm⟩ := h
  refine ⟨q, hq, ha, hb, fun p hp => ?_⟩
  have hle : p &&& tw cnt n ≤ p := Nat.and_le_left
  have h1 := hm (p &&& tw cnt n) (by omega) (by rw [Nat.and_assoc, Nat.and_self])
  have e := gn_tw (cnt := cnt) (nxt := nxt) (shr := shr) (Γ := Γ) (t := t) hp
  unfold pl at h1 ⊢
  rw [e.1, e.2] at h1
  exact h1
/-- the flag as the reference says it -/
def yf (best : Bool) : Int32 := if best = true then 1 else 0
theorem y_take {post : SY → Prop} (hc : cf_ok n cnt nxt shr) (best : Bool) {P s : Nat} (hs : s < n) (hal : al = lN (dn n cnt nxt shr Γ P)) (hgd : gd s = lN (gn n cnt nxt shr Γ P s)) (hE : ¬ P = 0 → ye n cnt nxt shr Γ best P s (tp s) (bt s))
    (h : ∀ tp' bt', ye n cnt nxt shr Γ best (P + 1) s (tp' s) (bt' s) → (∀ t, ¬ t = s → tp' t = tp t ∧ bt' t = bt t) → post ((nI n, nI Γ, mv, al, xc cnt, xc nxt, xc shr, pk, gd, tp', bt') : SY)) {fst : Int32} (hf : fst = if P = 0 then 1 else 0) : wpY_take post ((nI n, nI Γ, mv, al, xc cnt, xc nxt, xc shr, pk, gd, tp, bt) : SY) (nI s) (yf best) fst := by
  have h6 := hc.2.1
  have hin : vp_in (nI s) 6 := pk_in s 6 (by omega)
  have htake : (∀ p, p < P → p &&& tw cnt n = p → pl n cnt nxt shr Γ best p P s) → wY_take_55 post (nI s) (nI n) (nI Γ) mv al (xc cnt) (xc nxt) (xc shr) pk gd tp bt := by
    intro hm
    unfold wY_take_55
    rw [nI_clamp (n := s) (by omega), hgd]
    refine ⟨hin, hin, nm_e ⟨hin, nm_e (h _ _ ?_ (fun t ht => ⟨pk_uLn ht, pk_uLn ht⟩))⟩⟩
    rw [pk_uLs, pk_uLs, hal]
    refine ⟨P, by omega, rfl, rfl, fun p hp hpt => ?_⟩
    by_cases e : p = P
    · subst e; exact pl_refl _ _ _
    · exact hm p (by omega) hpt
  unfold wpY_take
  dsimp only
  by_cases hP : P = 0
  · rw [if_pos hP] at hf
    subst hf
    refine ⟨hin, hin, nm_e ⟨hin, nm_e (br_f (by decide) (htake (fun p hp => by omega)))⟩⟩
  · rw [if_neg hP] at hf
    subst hf
    obtain ⟨q, hq, e1, e2, hm⟩ := hE hP
    have b1 := dn_b (Γ := Γ) (p := P) hc
    have b2 := dn_b (Γ := Γ) (p := q) hc
    have b3 := gn_b (Γ := Γ) (p := P) hc hs
    have b4 := gn_b (Γ := Γ) (p := q) hc hs
    have m1 := nm_60 (a := gn n cnt nxt shr Γ P s) (d := dn n cnt nxt shr Γ q) (by omega) (by omega)
    have m2 := nm_60 (a := gn n cnt nxt shr Γ q s) (d := dn n cnt nxt shr Γ P) (by omega) (by omega)
    have hstay : pl n cnt nxt shr Γ best P q s → post ((nI n, nI Γ, mv, al, xc cnt, xc nxt, xc shr, pk, gd, tp, bt) : SY) := by
      intro hPq
      refine h tp bt ⟨q, by omega, e1, e2, fun p hp hpt => ?_⟩ (fun t _ => ⟨rfl, rfl⟩)
      by_cases e : p = P
      · subst e; exact hPq
      · exact hm p (by omega) hpt
    have hmove : pl n cnt nxt shr Γ best q P s → wY_take_55 post (nI s) (nI n) (nI Γ) mv al (xc cnt) (xc nxt) (xc shr) pk gd tp bt := fun hqP => htake (fun p hp hpt => pl_trans hc (hm p hp hpt) hqP)
    rw [nI_clamp (n := s) (by omega), e1, e2, hgd]
    have ea : lN (gn n cnt nxt shr Γ q s) * al = lN (gn n cnt nxt shr Γ q s * dn n cnt nxt shr Γ P) := by rw [hal, lN_mul]
    refine ⟨hin, hin, nm_r (lN_mul _ _) ⟨hin, nm_r ea (br_t rfl ?_)⟩⟩
    rw [pk_lLE (by omega) (by omega), pk_lLE (by omega) (by omega)]
    cases best with
    | true =>
      refine br_f (by decide) (br_c (fun z => hstay ?_) (fun z => hmove ?_))
      · unfold pl; rw [if_pos rfl]; exact z
      · unfold pl; rw [if_pos rfl]; omega
    | false =>
      refine br_t rfl (br_c (fun z => hstay ?_) (fun z => hmove ?_))
      · unfold pl; rw [if_neg (by decide)]; exact z
      · unfold pl; rw [if_neg (by decide)]; omega
theorem y_try {post : SY → Prop} (hc : cf_ok n cnt nxt shr) (hΓ : Γ < 64) (best : Bool) {P : Nat} (hP : P < 64) (hE : ¬ P = 0 → ∀ t, t < n → ye n cnt nxt shr Γ best P t (tp t) (bt t))
    (h : ∀ mv' al' pk' gd' tp' bt', (∀ t, t < n → ye n cnt nxt shr Γ best (P + 1) t (tp' t) (bt' t)) → post ((nI n, nI Γ, mv', al', xc cnt, xc nxt, xc shr, pk', gd', tp', bt') : SY)) : wpY_tryPlan post ((nI n, nI Γ, mv, al, xc cnt, xc nxt, xc shr, pk, gd, tp, bt) : SY) (nI P) (yf best) := by
  have h6 := hc.2.1
  refine y_work hc hΓ hP (fun mv1 pk1 gd1 hgd1 => ⟨n + 1, ?_⟩)
  have key : ∀ (d s : Nat) (tp' bt' : Nat → Int64), s + d = n → (∀ t, t < s → t < n → ye n cnt nxt shr Γ best (P + 1) t (tp' t) (bt' t)) → (¬ P = 0 → ∀ t, s ≤ t → t < n → ye n cnt nxt shr Γ best P t (tp' t) (bt' t)) → wY_tryPlan_7 post (nI P) (yf best) (d + 1) (nI s) (nI n) (nI Γ) mv1 (lN (dn n cnt nxt shr Γ P)) (xc cnt) (xc nxt) (xc shr) pk1 gd1 tp' bt' := by
    intro d
    induction d with
    | zero =>
      intro s tp' bt' hs hA hB
      have e : s = n := by omega
      subst e
      rw [wY_tryPlan_7]
      exact pk_le s s (fun _ => h _ _ _ _ _ _ (fun t ht => hA t ht ht)) (fun z => by omega)
    | succ d ih =>
      intro s tp' bt' hs hA hB
      have hsn : s < n := by omega
      have hnext : ∀ tp2 bt2 : Nat → Int64, ye n cnt nxt shr Γ best (P + 1) s (tp2 s) (bt2 s) → (∀ t, ¬ t = s → tp2 t = tp' t ∧ bt2 t = bt' t) → wY_tryPlan_7 post (nI P) (yf best) (d + 1) (nI (s + 1)) (nI n) (nI Γ) mv1 (lN (dn n cnt nxt shr Γ P)) (xc cnt) (xc nxt) (xc shr) pk1 gd1 tp2 bt2 := by
        intro tp2 bt2 h1 h2
        refine ih (s + 1) tp2 bt2 (by omega) (fun t ht htn => ?_) (fun hP0 t ht htn => ?_)
        · by_cases e : t = s
          · subst e; exact h1
          · rw [(h2 t e).1, (h2 t e).2]; exact hA t (by omega) htn
        · have e : ¬ t = s := by omega
          rw [(h2 t e).1, (h2 t e).2]; exact hB hP0 t (by omega) htn
      rw [wY_tryPlan_7]
      refine pk_le n s (fun z => by omega) (fun _ => pk_le 6 s (fun z => by omega) (fun _ => pk_eq P 0 (fun z => ?_) (fun z => ?_)))
      · unfold wY_tryPlan_33
        exact y_take hc best hsn rfl (hgd1 s hsn) (fun hz => absurd z hz) (fun tp2 bt2 h1 h2 => nm_r (nI_1 s) (hnext tp2 bt2 h1 h2)) (by rw [if_pos z])
      · unfold wY_tryPlan_33
        exact y_take hc best hsn rfl (hgd1 s hsn) (fun hz => hB hz s (Nat.le_refl _) hsn) (fun tp2 bt2 h1 h2 => nm_r (nI_1 s) (hnext tp2 bt2 h1 h2)) (by rw [if_neg z])
  exact key n 0 tp bt (by omega) (fun t ht => by omega) (fun hP0 t _ htn => hE hP0 t htn)
theorem y_gather {post : SY → Prop} (hc : cf_ok n cnt nxt shr) (hΓ : Γ < 64) (best : Bool)
    (h : ∀ mv' al' pk' gd' tp' bt', (∀ t, t < n → yx n cnt nxt shr Γ best t (tp' t) (bt' t)) → post ((nI n, nI Γ, mv', al', xc cnt, xc nxt, xc shr, pk', gd', tp', bt') : SY)) : wpY_gather post ((nI n, nI Γ, mv, al, xc cnt, xc nxt, xc shr, pk, gd, tp, bt) : SY) (yf best) := by
  have h6 := hc.2.1
  have h64 := bi_pow_le h6
  have htl := tw_lt (cnt := cnt) n h6
  refine y_twofold hc ⟨2 ^ n + 1, ?_⟩
  have key : ∀ (d P : Nat) (mv' : Int32) (al' : Int64) (pk' : Nat → Int32) (gd' tp' bt' : Nat → Int64), P + d = 2 ^ n → (¬ P = 0 → ∀ t, t < n → ye n cnt nxt shr Γ best P t (tp' t) (bt' t)) → wY_gather_7 post (yf best) (nI (tw cnt n)) (d + 1) (nI P) (nI n) (nI Γ) mv' al' (xc cnt) (xc nxt) (xc shr) pk' gd' tp' bt' := by
    intro d
    induction d with
    | zero =>
      intro P mv' al' pk' gd' tp' bt' hP hE
      have e : P = 2 ^ n := by omega
      have hpos := Nat.two_pow_pos n
      rw [wY_gather_7]
      dsimp only
      rw [bi_5 n (by omega)]
      refine pk_le (2 ^ n) P (fun _ => h _ _ _ _ _ _ (fun t ht => ye_x ?_)) (fun z => by omega)
      rw [← e]
      exact hE (by omega) t ht
    | succ d ih =>
      intro P mv' al' pk' gd' tp' bt' hP hE
      rw [wY_gather_7]
      dsimp only
      rw [bi_5 n (by omega), bi_6 P (by omega) _ htl]
      have hal : P &&& tw cnt n < 64 := bi_and_lt (by omega)
      refine pk_le (2 ^ n) P (fun z => by omega) (fun _ => pk_eq (P &&& tw cnt n) P (fun z => ?_) (fun z => nm_r (nI_1 P) (ih (P + 1) _ _ _ _ _ _ (by omega) (fun _ t ht => ?_))))
      · exact y_try hc hΓ best (by omega) hE (fun mv2 al2 pk2 gd2 tp2 bt2 hE2 => nm_r (nI_1 P) (ih (P + 1) _ _ _ _ _ _ (by omega) (fun _ => hE2)))
      · have hP0 : ¬ P = 0 := fun e => z (by rw [e, Nat.zero_and])
        obtain ⟨q, hq, e1, e2, hm⟩ := hE hP0 t ht
        refine ⟨q, by omega, e1, e2, fun p hp hpt => ?_⟩
        by_cases e : p = P
        · subst e; exact absurd hpt z
        · exact hm p (by omega) hpt
  exact key (2 ^ n) 0 _ _ _ _ _ _ (by omega) (fun z => absurd rfl z)
end
end
section
section
variable {n : Nat} {cnt nxt shr : Nat → Nat} {Γ : Nat}
/-- two extremes are the same chance -/
theorem lk_x {best : Bool} {t q r : Nat} (hq : q < 2 ^ n) (hr : r < 2 ^ n) (h1 : ∀ p, p < 2 ^ n → pl n cnt nxt shr Γ best p q t) (h2 : ∀ p, p < 2 ^ n → pl n cnt nxt shr Γ best p r t) : gn n cnt nxt shr Γ q t * dn n cnt nxt shr Γ r = gn n cnt nxt shr Γ r t * dn n cnt nxt shr Γ q := pl_anti (h2 q hq) (h1 r hr)
theorem lk_l (hc : cf_ok n cnt nxt shr) {q r t : Nat} (h : gn n cnt nxt shr Γ q t * dn n cnt nxt shr Γ r = gn n cnt nxt shr Γ r t * dn n cnt nxt shr Γ q) : ltop n cnt nxt shr Γ q t = ltop n cnt nxt shr Γ r t ∧ lbot n cnt nxt shr Γ q t = lbot n cnt nxt shr Γ r t := eu_low (dn_b hc).1 (dn_b hc).1 h
/-- the component's extreme, by the reference's plan -/
theorem lk_e (hc : cf_ok n cnt nxt shr) {best : Bool} {t : Nat} {a b c d : Int64} (hx : xe n cnt nxt shr Γ best (2 ^ n) t a b) (hy : yx n cnt nxt shr Γ best t c d) : ∃ q, q < 2 ^ n ∧ c = lN (gn n cnt nxt shr Γ q t) ∧ d = lN (dn n cnt nxt shr Γ q) ∧ a = lN (ltop n cnt nxt shr Γ q t) ∧ b = lN (lbot n cnt nxt shr Γ q t) := by
  obtain ⟨q, hq, e1, e2, hm⟩ := hx
  obtain ⟨r, hr, e3, e4, hm2⟩ := hy
  have h := lk_l hc (lk_x hq hr hm hm2)
  exact ⟨r, hr, e3, e4, by rw [e1, h.1], by rw [e2, h.2]⟩
theorem lt_cmp2 (hc : cf_ok n cnt nxt shr) (p q s t : Nat) : (ltop n cnt nxt shr Γ p s * lbot n cnt nxt shr Γ q t < ltop n cnt nxt shr Γ q t * lbot n cnt nxt shr Γ p s ↔ gn n cnt nxt shr Γ p s * dn n cnt nxt shr Γ q < gn n cnt nxt shr Γ q t * dn n cnt nxt shr Γ p) ∧ (ltop n cnt nxt shr Γ p s * lbot n cnt nxt shr Γ q t = ltop n cnt nxt shr Γ q t * lbot n cnt nxt shr Γ p s ↔ gn n cnt nxt shr Γ p s * dn n cnt nxt shr Γ q = gn n cnt nxt shr Γ q t * dn n cnt nxt shr Γ p) := by
  obtain ⟨g1, hg1, a1, b1⟩ := lt_g (Γ := Γ) hc p s
  obtain ⟨g2, hg2, a2, b2⟩ := lt_g (Γ := Γ) hc q t
  have e1 : gn n cnt nxt shr Γ p s * dn n cnt nxt shr Γ q = (g1 * g2) * (ltop n cnt nxt shr Γ p s * lbot n cnt nxt shr Γ q t) := by rw [a1, b2]; grind
  have e2 : gn n cnt nxt shr Γ q t * dn n cnt nxt shr Γ p = (g1 * g2) * (ltop n cnt nxt shr Γ q t * lbot n cnt nxt shr Γ p s) := by rw [a2, b1]; grind
  have hg := Nat.mul_pos hg1 hg2
  rw [e1, e2]
  exact ⟨⟨fun h => Nat.mul_lt_mul_of_pos_left h hg, fun h => Nat.lt_of_mul_lt_mul_left h⟩, ⟨fun h => by rw [h], fun h => Nat.eq_of_mul_eq_mul_left hg h⟩⟩
end
/-- both sides stop at a state that is not good, or at a plan that is none; else they go on -/
theorem i_vc_chanceTop {k : Nat} {u : SX} {v : SY} (I : i_Rel k u v) (hk : k + 4 ≤ 2049) (v1 : Int32) (v2 : Int32) : wpX_chanceTop (fun r u' => wpY_chanceTop (fun r' v' => r' = r ∧ i_Rel (k + 4) u' v') v v1 v2) u v1 v2 := by
  obtain ⟨n, cnt, nxt, shr, Γ, cr, eq, pt, pb, et, eb, mv, al, pk, gd, tp, bt, hc, hΓ, rfl, rfl⟩ := I
  have h6 := hc.2.1
  have h64 := bi_pow_le h6
  unfold wpX_chanceTop
  have hrel : i_Rel (k + 4) ((nI n, nI (2 ^ n), xa cnt, xc cnt, xc nxt, xc shr, xg Γ, cr, eq, pt, pb, et, eb) : SX) ((nI n, nI Γ, mv, al, xc cnt, xc nxt, xc shr, pk, gd, tp, bt) : SY) := i_mk hc hΓ
  rcases pk_ix v1 (n := n) (by omega) with hb | hb | ⟨s, hs, rfl⟩
  · exact x_good_f (Or.inl hb) (br_t rfl (by unfold wpY_chanceTop; exact y_bad_t (Or.inl hb) (br_f (by decide) ⟨rfl, hrel⟩)))
  · exact x_good_f (Or.inr hb) (br_t rfl (by unfold wpY_chanceTop; exact y_bad_t (Or.inr hb) (br_f (by decide) ⟨rfl, hrel⟩)))
  refine x_good_t h6 hs (br_f (by decide) ?_)
  rcases pk_ix v2 (n := 2 ^ n) (by omega) with hb | hb | ⟨p, hp, rfl⟩
  · exact x_plan_f (Or.inl hb) (br_t rfl (by unfold wpY_chanceTop; exact y_bad_f h6 hs (br_t rfl (y_plan_t h6 (Or.inl hb) (br_f (by decide) ⟨rfl, hrel⟩)))))
  · exact x_plan_f (Or.inr hb) (br_t rfl (by unfold wpY_chanceTop; exact y_bad_f h6 hs (br_t rfl (y_plan_t h6 (Or.inr hb) (br_f (by decide) ⟨rfl, hrel⟩)))))
  refine x_plan_t h6 hp (br_f (by decide) (x_chances hc (by omega) (fun cr' eq' pt' pb' hpt => ⟨pk_in s 6 (by omega), ?_⟩)))
  unfold wpY_chanceTop
  refine y_bad_f h6 hs (br_t rfl (y_plan_f h6 hp (br_t rfl (y_work hc hΓ (by omega) (fun mv' pk' gd' hgd => ⟨pk_in s 6 (by omega), ?_⟩)))))
  rw [nI_clamp (n := s) (by omega), hgd s hs]
  have b1 := dn_b (Γ := Γ) (p := p) hc
  have b2 := gn_b (Γ := Γ) (p := p) hc hs
  refine y_top (by omega) b1.1 (by omega) ⟨?_, i_mk hc hΓ⟩
  rw [(hpt s hs).1]
  rfl
theorem i_vc_chanceBottom {k : Nat} {u : SX} {v : SY} (I : i_Rel k u v) (hk : k + 4 ≤ 2049) (v1 : Int32) (v2 : Int32) : wpX_chanceBottom (fun r u' => wpY_chanceBottom (fun r' v' => r' = r ∧ i_Rel (k + 4) u' v') v v1 v2) u v1 v2 := by
  obtain ⟨n, cnt, nxt, shr, Γ, cr, eq, pt, pb, et, eb, mv, al, pk, gd, tp, bt, hc, hΓ, rfl, rfl⟩ := I
  have h6 := hc.2.1
  have h64 := bi_pow_le h6
  unfold wpX_chanceBottom
  have hrel : i_Rel (k + 4) ((nI n, nI (2 ^ n), xa cnt, xc cnt, xc nxt, xc shr, xg Γ, cr, eq, pt, pb, et, eb) : SX) ((nI n, nI Γ, mv, al, xc cnt, xc nxt, xc shr, pk, gd, tp, bt) : SY) := i_mk hc hΓ
  rcases pk_ix v1 (n := n) (by omega) with hb | hb | ⟨s, hs, rfl⟩
  · exact x_good_f (Or.inl hb) (br_t rfl (by unfold wpY_chanceBottom; exact y_bad_t (Or.inl hb) (br_f (by decide) ⟨rfl, hrel⟩)))
  · exact x_good_f (Or.inr hb) (br_t rfl (by unfold wpY_chanceBottom; exact y_bad_t (Or.inr hb) (br_f (by decide) ⟨rfl, hrel⟩)))
  refine x_good_t h6 hs (br_f (by decide) ?_)
  rcases pk_ix v2 (n := 2 ^ n) (by omega) with hb | hb | ⟨p, hp, rfl⟩
  · exact x_plan_f (Or.inl hb) (br_t rfl (by unfold wpY_chanceBottom; exact y_bad_f h6 hs (br_t rfl (y_plan_t h6 (Or.inl hb) (br_f (by decide) ⟨rfl, hrel⟩)))))
  · exact x_plan_f (Or.inr hb) (br_t rfl (by unfold wpY_chanceBottom; exact y_bad_f h6 hs (br_t rfl (y_plan_t h6 (Or.inr hb) (br_f (by decide) ⟨rfl, hrel⟩)))))
  refine x_plan_t h6 hp (br_f (by decide) (x_chances hc (by omega) (fun cr' eq' pt' pb' hpt => ⟨pk_in s 6 (by omega), ?_⟩)))
  unfold wpY_chanceBottom
  refine y_bad_f h6 hs (br_t rfl (y_plan_f h6 hp (br_t rfl (y_work hc hΓ (by omega) (fun mv' pk' gd' hgd => ⟨pk_in s 6 (by omega), ?_⟩)))))
  rw [nI_clamp (n := s) (by omega), hgd s hs]
  have b1 := dn_b (Γ := Γ) (p := p) hc
  have b2 := gn_b (Γ := Γ) (p := p) hc hs
  refine y_bottom (by omega) b1.1 (by omega) ⟨?_, i_mk hc hΓ⟩
  rw [(hpt s hs).2]
  rfl
theorem i_vc_bestTop {k : Nat} {u : SX} {v : SY} (I : i_Rel k u v) (hk : k + 4 ≤ 2049) (v1 : Int32) : wpX_bestTop (fun r u' => wpY_bestTop (fun r' v' => r' = r ∧ i_Rel (k + 4) u' v') v v1) u v1 := by
  obtain ⟨n, cnt, nxt, shr, Γ, cr, eq, pt, pb, et, eb, mv, al, pk, gd, tp, bt, hc, hΓ, rfl, rfl⟩ := I
  have h6 := hc.2.1
  unfold wpX_bestTop
  have hrel : i_Rel (k + 4) ((nI n, nI (2 ^ n), xa cnt, xc cnt, xc nxt, xc shr, xg Γ, cr, eq, pt, pb, et, eb) : SX) ((nI n, nI Γ, mv, al, xc cnt, xc nxt, xc shr, pk, gd, tp, bt) : SY) := i_mk hc hΓ
  rcases pk_ix v1 (n := n) (by omega) with hb | hb | ⟨s, hs, rfl⟩
  · exact x_good_f (Or.inl hb) (br_t rfl (by unfold wpY_bestTop; exact y_bad_t (Or.inl hb) (br_f (by decide) ⟨rfl, hrel⟩)))
  · exact x_good_f (Or.inr hb) (br_t rfl (by unfold wpY_bestTop; exact y_bad_t (Or.inr hb) (br_f (by decide) ⟨rfl, hrel⟩)))
  refine x_good_t h6 hs (br_f (by decide) (x_ext hc true (fun cr' eq' pt' pb' et' eb' hE => ⟨pk_in s 6 (by omega), ?_⟩)))
  unfold wpY_bestTop
  refine y_bad_f h6 hs (br_t rfl (y_gather hc hΓ true (fun mv' al' pk' gd' tp' bt' hY => ⟨pk_in s 6 (by omega), pk_in s 6 (by omega), ?_⟩)))
  obtain ⟨q, hq, e1, e2, e3, e4⟩ := lk_e hc (hE s hs) (hY s hs)
  rw [nI_clamp (n := s) (by omega), e1, e2]
  have b1 := dn_b (Γ := Γ) (p := q) hc
  have b2 := gn_b (Γ := Γ) (p := q) hc hs
  refine y_top (by omega) b1.1 (by omega) ⟨?_, i_mk hc hΓ⟩
  rw [e3]
  rfl
theorem i_vc_bestBottom {k : Nat} {u : SX} {v : SY} (I : i_Rel k u v) (hk : k + 4 ≤ 2049) (v1 : Int32) : wpX_bestBottom (fun r u' => wpY_bestBottom (fun r' v' => r' = r ∧ i_Rel (k + 4) u' v') v v1) u v1 := by
  obtain ⟨n, cnt, nxt, shr, Γ, cr, eq, pt, pb, et, eb, mv, al, pk, gd, tp, bt, hc, hΓ, rfl, rfl⟩ := I
  have h6 := hc.2.1
  unfold wpX_bestBottom
  have hrel : i_Rel (k + 4) ((nI n, nI (2 ^ n), xa cnt, xc cnt, xc nxt, xc shr, xg Γ, cr, eq, pt, pb, et, eb) : SX) ((nI n, nI Γ, mv, al, xc cnt, xc nxt, xc shr, pk, gd, tp, bt) : SY) := i_mk hc hΓ
  rcases pk_ix v1 (n := n) (by omega) with hb | hb | ⟨s, hs, rfl⟩
  · exact x_good_f (Or.inl hb) (br_t rfl (by unfold wpY_bestBottom; exact y_bad_t (Or.inl hb) (br_f (by decide) ⟨rfl, hrel⟩)))
  · exact x_good_f (Or.inr hb) (br_t rfl (by unfold wpY_bestBottom; exact y_bad_t (Or.inr hb) (br_f (by decide) ⟨rfl, hrel⟩)))
  refine x_good_t h6 hs (br_f (by decide) (x_ext hc true (fun cr' eq' pt' pb' et' eb' hE => ⟨pk_in s 6 (by omega), ?_⟩)))
  unfold wpY_bestBottom
  refine y_bad_f h6 hs (br_t rfl (y_gather hc hΓ true (fun mv' al' pk' gd' tp' bt' hY => ⟨pk_in s 6 (by omega), pk_in s 6 (by omega), ?_⟩)))
  obtain ⟨q, hq, e1, e2, e3, e4⟩ := lk_e hc (hE s hs) (hY s hs)
  rw [nI_clamp (n := s) (by omega), e1, e2]
  have b1 := dn_b (Γ := Γ) (p := q) hc
  have b2 := gn_b (Γ := Γ) (p := q) hc hs
  refine y_bottom (by omega) b1.1 (by omega) ⟨?_, i_mk hc hΓ⟩
  rw [e4]
  rfl
theorem i_vc_worstTop {k : Nat} {u : SX} {v : SY} (I : i_Rel k u v) (hk : k + 4 ≤ 2049) (v1 : Int32) : wpX_worstTop (fun r u' => wpY_worstTop (fun r' v' => r' = r ∧ i_Rel (k + 4) u' v') v v1) u v1 := by
  obtain ⟨n, cnt, nxt, shr, Γ, cr, eq, pt, pb, et, eb, mv, al, pk, gd, tp, bt, hc, hΓ, rfl, rfl⟩ := I
  have h6 := hc.2.1
  unfold wpX_worstTop
  have hrel : i_Rel (k + 4) ((nI n, nI (2 ^ n), xa cnt, xc cnt, xc nxt, xc shr, xg Γ, cr, eq, pt, pb, et, eb) : SX) ((nI n, nI Γ, mv, al, xc cnt, xc nxt, xc shr, pk, gd, tp, bt) : SY) := i_mk hc hΓ
  rcases pk_ix v1 (n := n) (by omega) with hb | hb | ⟨s, hs, rfl⟩
  · exact x_good_f (Or.inl hb) (br_t rfl (by unfold wpY_worstTop; exact y_bad_t (Or.inl hb) (br_f (by decide) ⟨rfl, hrel⟩)))
  · exact x_good_f (Or.inr hb) (br_t rfl (by unfold wpY_worstTop; exact y_bad_t (Or.inr hb) (br_f (by decide) ⟨rfl, hrel⟩)))
  refine x_good_t h6 hs (br_f (by decide) (x_ext hc false (fun cr' eq' pt' pb' et' eb' hE => ⟨pk_in s 6 (by omega), ?_⟩)))
  unfold wpY_worstTop
  refine y_bad_f h6 hs (br_t rfl (y_gather hc hΓ false (fun mv' al' pk' gd' tp' bt' hY => ⟨pk_in s 6 (by omega), pk_in s 6 (by omega), ?_⟩)))
  obtain ⟨q, hq, e1, e2, e3, e4⟩ := lk_e hc (hE s hs) (hY s hs)
  rw [nI_clamp (n := s) (by omega), e1, e2]
  have b1 := dn_b (Γ := Γ) (p := q) hc
  have b2 := gn_b (Γ := Γ) (p := q) hc hs
  refine y_top (by omega) b1.1 (by omega) ⟨?_, i_mk hc hΓ⟩
  rw [e3]
  rfl
theorem i_vc_worstBottom {k : Nat} {u : SX} {v : SY} (I : i_Rel k u v) (hk : k + 4 ≤ 2049) (v1 : Int32) : wpX_worstBottom (fun r u' => wpY_worstBottom (fun r' v' => r' = r ∧ i_Rel (k + 4) u' v') v v1) u v1 := by
  obtain ⟨n, cnt, nxt, shr, Γ, cr, eq, pt, pb, et, eb, mv, al, pk, gd, tp, bt, hc, hΓ, rfl, rfl⟩ := I
  have h6 := hc.2.1
  unfold wpX_worstBottom
  have hrel : i_Rel (k + 4) ((nI n, nI (2 ^ n), xa cnt, xc cnt, xc nxt, xc shr, xg Γ, cr, eq, pt, pb, et, eb) : SX) ((nI n, nI Γ, mv, al, xc cnt, xc nxt, xc shr, pk, gd, tp, bt) : SY) := i_mk hc hΓ
  rcases pk_ix v1 (n := n) (by omega) with hb | hb | ⟨s, hs, rfl⟩
  · exact x_good_f (Or.inl hb) (br_t rfl (by unfold wpY_worstBottom; exact y_bad_t (Or.inl hb) (br_f (by decide) ⟨rfl, hrel⟩)))
  · exact x_good_f (Or.inr hb) (br_t rfl (by unfold wpY_worstBottom; exact y_bad_t (Or.inr hb) (br_f (by decide) ⟨rfl, hrel⟩)))
  refine x_good_t h6 hs (br_f (by decide) (x_ext hc false (fun cr' eq' pt' pb' et' eb' hE => ⟨pk_in s 6 (by omega), ?_⟩)))
  unfold wpY_worstBottom
  refine y_bad_f h6 hs (br_t rfl (y_gather hc hΓ false (fun mv' al' pk' gd' tp' bt' hY => ⟨pk_in s 6 (by omega), pk_in s 6 (by omega), ?_⟩)))
  obtain ⟨q, hq, e1, e2, e3, e4⟩ := lk_e hc (hE s hs) (hY s hs)
  rw [nI_clamp (n := s) (by omega), e1, e2]
  have b1 := dn_b (Γ := Γ) (p := q) hc
  have b2 := gn_b (Γ := Γ) (p := q) hc hs
  refine y_bottom (by omega) b1.1 (by omega) ⟨?_, i_mk hc hΓ⟩
  rw [e4]
  rfl
end
section
/-- the set of the states below k for which cond holds -/
def sf (cond : Nat → Bool) : Nat → Nat
  | 0 => 0
  | k + 1 => if cond k = true then sf cond k ||| 2 ^ k else sf cond k
theorem sf_lt {cond : Nat → Bool} : ∀ k, k ≤ 6 → sf cond k < 64 := by
  intro k
  induction k with
  | zero => intro _; exact (by decide : (0 : Nat) < 64)
  | succ k ih =>
    intro h
    show (if cond k = true then sf cond k ||| 2 ^ k else sf cond k) < 64
    split
    · exact bi_or_lt (ih (by omega)) (by omega)
    · exact ih (by omega)
theorem sf_t {cond : Nat → Bool} {k : Nat} (h : cond k = true) : sf cond (k + 1) = sf cond k ||| 2 ^ k := if_pos h
theorem sf_f {cond : Nat → Bool} {k : Nat} (h : ¬ cond k = true) : sf cond (k + 1) = sf cond k := if_neg h
theorem x_sure9 {n : Nat} {cnt nxt shr : Nat → Nat} {Γ : Nat} {cr : Nat → Int32} {eq pt pb et eb : Nat → Int64} {post : Int32 → SX → Prop} (h6 : n ≤ 6) {cond : Nat → Bool} (hcond : ∀ t, t < n → (et t = eb t ↔ cond t = true)) (h : post (nI (sf cond n)) ((nI n, nI (2 ^ n), xa cnt, xc cnt, xc nxt, xc shr, xg Γ, cr, eq, pt, pb, et, eb) : SX)) : ∀ (d s : Nat), s + d = n → wX_sure_9 post (nI n) (nI (2 ^ n)) (xa cnt) (xc cnt) (xc nxt) (xc shr) (xg Γ) cr eq pt pb et eb (d + 1) (nI (sf cond s)) (nI s) := by
  intro d
  induction d with
  | zero =>
    intro s hs
    have e : s = n := by omega
    subst e
    rw [wX_sure_9]
    exact pk_le s s (fun _ => h) (fun z => by omega)
  | succ d ih =>
    intro s hs
    have hk := ih (s + 1) (by omega)
    have hin : vp_in (nI s) 6 := pk_in s 6 (by omega)
    have hcs := hcond s (by omega)
    rw [wX_sure_9]
    dsimp only
    rw [nI_clamp (n := s) (by omega), bi_2 _ (sf_lt s (by omega)) s (by omega)]
    refine pk_le n s (fun z => by omega) (fun _ => ⟨hin, hin, br_c (fun z => nm_e (nm_r (nI_1 s) (by rw [sf_t (hcs.mp z)] at hk; exact hk))) (fun z => nm_r (nI_1 s) (by rw [sf_f (fun y => z (hcs.mpr y))] at hk; exact hk))⟩)
theorem y_sure9 {n : Nat} {cnt nxt shr : Nat → Nat} {Γ : Nat} {mv : Int32} {al : Int64} {pk : Nat → Int32} {gd tp bt : Nat → Int64} {post : Int32 → SY → Prop} (h6 : n ≤ 6) {cond : Nat → Bool} (hcond : ∀ t, t < n → (tp t = bt t ↔ cond t = true)) (h : post (nI (sf cond n)) ((nI n, nI Γ, mv, al, xc cnt, xc nxt, xc shr, pk, gd, tp, bt) : SY)) : ∀ (d s : Nat), s + d = n → wY_sure_9 post (nI n) (nI Γ) mv al (xc cnt) (xc nxt) (xc shr) pk gd tp bt (d + 1) (nI (sf cond s)) (nI s) := by
  intro d
  induction d with
  | zero =>
    intro s hs
    have e : s = n := by omega
    subst e
    rw [wY_sure_9]
    exact pk_le s s (fun _ => h) (fun z => by omega)
  | succ d ih =>
    intro s hs
    have hk := ih (s + 1) (by omega)
    have hin : vp_in (nI s) 6 := pk_in s 6 (by omega)
    have hcs := hcond s (by omega)
    rw [wY_sure_9]
    dsimp only
    rw [nI_clamp (n := s) (by omega), bi_2 _ (sf_lt s (by omega)) s (by omega)]
    refine pk_le n s (fun z => by omega) (fun _ => pk_le 6 s (fun z => by omega) (fun _ => ⟨hin, hin, br_c (fun z => nm_e (nm_r (nI_1 s) (by rw [sf_t (hcs.mp z)] at hk; exact hk))) (fun z => nm_r (nI_1 s) (by rw [sf_f (fun y => z (hcs.mpr y))] at hk; exact hk))⟩))
theorem i_vc_sure {k : Nat} {u : SX} {v : SY} (I : i_Rel k u v) (hk : k + 4 ≤ 2049) : wpX_sure (fun r u' => wpY_sure (fun r' v' => r' = r ∧ i_Rel (k + 4) u' v') v) u := by
  obtain ⟨n, cnt, nxt, shr, Γ, cr, eq, pt, pb, et, eb, mv, al, pk, gd, tp, bt, hc, hΓ, rfl, rfl⟩ := I
  have h6 := hc.2.1
  unfold wpX_sure
  refine x_ext hc true (fun cr' eq' pt' pb' et' eb' hE => ⟨n + 1, ?_⟩)
  refine x_sure9 (cond := fun t => decide (et' t = eb' t)) h6 (fun t ht => decide_eq_true_iff.symm) ?_ n 0 (by omega)
  unfold wpY_sure
  refine y_gather hc hΓ true (fun mv' al' pk' gd' tp' bt' hY => ⟨n + 1, ?_⟩)
  refine y_sure9 h6 (fun t ht => ?_) ⟨rfl, i_mk hc hΓ⟩ n 0 (by omega)
  rw [decide_eq_true_iff]
  obtain ⟨q, hq, e1, e2, e3, e4⟩ := lk_e hc (hE t ht) (hY t ht)
  obtain ⟨g, hg, a1, b1⟩ := lt_g (Γ := Γ) hc q t
  have c1 := dn_b (Γ := Γ) (p := q) hc
  have c2 := gn_b (Γ := Γ) (p := q) hc ht
  have c3 := lt_b (Γ := Γ) hc q ht
  rw [e1, e3]
  rw [e2, e4, pk_lEQ (by omega) (by omega), pk_lEQ (by omega) (by omega), a1, b1]
  exact ⟨fun h => Nat.eq_of_mul_eq_mul_left hg h, fun h => by rw [h]⟩
theorem x_hopeless9 {n : Nat} {cnt nxt shr : Nat → Nat} {Γ : Nat} {cr : Nat → Int32} {eq pt pb et eb : Nat → Int64} {post : Int32 → SX → Prop} (h6 : n ≤ 6) {cond : Nat → Bool} (hcond : ∀ t, t < n → (et t = 0 ↔ cond t = true)) (h : post (nI (sf cond n)) ((nI n, nI (2 ^ n), xa cnt, xc cnt, xc nxt, xc shr, xg Γ, cr, eq, pt, pb, et, eb) : SX)) : ∀ (d s : Nat), s + d = n → wX_hopeless_9 post (nI n) (nI (2 ^ n)) (xa cnt) (xc cnt) (xc nxt) (xc shr) (xg Γ) cr eq pt pb et eb (d + 1) (nI (sf cond s)) (nI s) := by
  intro d
  induction d with
  | zero =>
    intro s hs
    have e : s = n := by omega
    subst e
    rw [wX_hopeless_9]
    exact pk_le s s (fun _ => h) (fun z => by omega)
  | succ d ih =>
    intro s hs
    have hk := ih (s + 1) (by omega)
    have hin : vp_in (nI s) 6 := pk_in s 6 (by omega)
    have hcs := hcond s (by omega)
    rw [wX_hopeless_9]
    dsimp only
    rw [nI_clamp (n := s) (by omega), bi_2 _ (sf_lt s (by omega)) s (by omega)]
    refine pk_le n s (fun z => by omega) (fun _ => ⟨hin, br_c (fun z => nm_e (nm_r (nI_1 s) (by rw [sf_t (hcs.mp z)] at hk; exact hk))) (fun z => nm_r (nI_1 s) (by rw [sf_f (fun y => z (hcs.mpr y))] at hk; exact hk))⟩)
theorem y_hopeless9 {n : Nat} {cnt nxt shr : Nat → Nat} {Γ : Nat} {mv : Int32} {al : Int64} {pk : Nat → Int32} {gd tp bt : Nat → Int64} {post : Int32 → SY → Prop} (h6 : n ≤ 6) {cond : Nat → Bool} (hcond : ∀ t, t < n → (tp t = 0 ↔ cond t = true)) (h : post (nI (sf cond n)) ((nI n, nI Γ, mv, al, xc cnt, xc nxt, xc shr, pk, gd, tp, bt) : SY)) : ∀ (d s : Nat), s + d = n → wY_hopeless_9 post (nI n) (nI Γ) mv al (xc cnt) (xc nxt) (xc shr) pk gd tp bt (d + 1) (nI (sf cond s)) (nI s) := by
  intro d
  induction d with
  | zero =>
    intro s hs
    have e : s = n := by omega
    subst e
    rw [wY_hopeless_9]
    exact pk_le s s (fun _ => h) (fun z => by omega)
  | succ d ih =>
    intro s hs
    have hk := ih (s + 1) (by omega)
    have hin : vp_in (nI s) 6 := pk_in s 6 (by omega)
    have hcs := hcond s (by omega)
    rw [wY_hopeless_9]
    dsimp only
    rw [nI_clamp (n := s) (by omega), bi_2 _ (sf_lt s (by omega)) s (by omega)]
    refine pk_le n s (fun z => by omega) (fun _ => pk_le 6 s (fun z => by omega) (fun _ => ⟨hin, br_c (fun z => nm_e (nm_r (nI_1 s) (by rw [sf_t (hcs.mp z)] at hk; exact hk))) (fun z => nm_r (nI_1 s) (by rw [sf_f (fun y => z (hcs.mpr y))] at hk; exact hk))⟩))
theorem i_vc_hopeless {k : Nat} {u : SX} {v : SY} (I : i_Rel k u v) (hk : k + 4 ≤ 2049) : wpX_hopeless (fun r u' => wpY_hopeless (fun r' v' => r' = r ∧ i_Rel (k + 4) u' v') v) u := by
  obtain ⟨n, cnt, nxt, shr, Γ, cr, eq, pt, pb, et, eb, mv, al, pk, gd, tp, bt, hc, hΓ, rfl, rfl⟩ := I
  have h6 := hc.2.1
  unfold wpX_hopeless
  refine x_ext hc true (fun cr' eq' pt' pb' et' eb' hE => ⟨n + 1, ?_⟩)
  refine x_hopeless9 (cond := fun t => decide (et' t = 0)) h6 (fun t ht => decide_eq_true_iff.symm) ?_ n 0 (by omega)
  unfold wpY_hopeless
  refine y_gather hc hΓ true (fun mv' al' pk' gd' tp' bt' hY => ⟨n + 1, ?_⟩)
  refine y_hopeless9 h6 (fun t ht => ?_) ⟨rfl, i_mk hc hΓ⟩ n 0 (by omega)
  rw [decide_eq_true_iff]
  obtain ⟨q, hq, e1, e2, e3, e4⟩ := lk_e hc (hE t ht) (hY t ht)
  obtain ⟨g, hg, a1, b1⟩ := lt_g (Γ := Γ) hc q t
  have c1 := dn_b (Γ := Γ) (p := q) hc
  have c2 := gn_b (Γ := Γ) (p := q) hc ht
  have c3 := lt_b (Γ := Γ) hc q ht
  rw [e1, e3]
  rw [lN_z (by omega), lN_z (by omega), a1]
  exact ⟨fun h => Nat.eq_of_mul_eq_mul_left hg (by rw [h, Nat.mul_zero]), fun h => by rw [h, Nat.mul_zero]⟩
theorem x_forced9 {n : Nat} {cnt nxt shr : Nat → Nat} {Γ : Nat} {cr : Nat → Int32} {eq pt pb et eb : Nat → Int64} {post : Int32 → SX → Prop} (h6 : n ≤ 6) {cond : Nat → Bool} (hcond : ∀ t, t < n → (¬ et t ≤ 0 ↔ cond t = true)) (h : post (nI (sf cond n)) ((nI n, nI (2 ^ n), xa cnt, xc cnt, xc nxt, xc shr, xg Γ, cr, eq, pt, pb, et, eb) : SX)) : ∀ (d s : Nat), s + d = n → wX_forced_9 post (nI n) (nI (2 ^ n)) (xa cnt) (xc cnt) (xc nxt) (xc shr) (xg Γ) cr eq pt pb et eb (d + 1) (nI (sf cond s)) (nI s) := by
  intro d
  induction d with
  | zero =>
    intro s hs
    have e : s = n := by omega
    subst e
    rw [wX_forced_9]
    exact pk_le s s (fun _ => h) (fun z => by omega)
  | succ d ih =>
    intro s hs
    have hk := ih (s + 1) (by omega)
    have hin : vp_in (nI s) 6 := pk_in s 6 (by omega)
    have hcs := hcond s (by omega)
    rw [wX_forced_9]
    dsimp only
    rw [nI_clamp (n := s) (by omega), bi_2 _ (sf_lt s (by omega)) s (by omega)]
    refine pk_le n s (fun z => by omega) (fun _ => ⟨hin, br_c (fun z => nm_r (nI_1 s) (by rw [sf_f (fun y => (hcs.mpr y) z)] at hk; exact hk)) (fun z => nm_e (nm_r (nI_1 s) (by rw [sf_t (hcs.mp z)] at hk; exact hk)))⟩)
theorem y_forced9 {n : Nat} {cnt nxt shr : Nat → Nat} {Γ : Nat} {mv : Int32} {al : Int64} {pk : Nat → Int32} {gd tp bt : Nat → Int64} {post : Int32 → SY → Prop} (h6 : n ≤ 6) {cond : Nat → Bool} (hcond : ∀ t, t < n → (¬ tp t ≤ 0 ↔ cond t = true)) (h : post (nI (sf cond n)) ((nI n, nI Γ, mv, al, xc cnt, xc nxt, xc shr, pk, gd, tp, bt) : SY)) : ∀ (d s : Nat), s + d = n → wY_forced_9 post (nI n) (nI Γ) mv al (xc cnt) (xc nxt) (xc shr) pk gd tp bt (d + 1) (nI (sf cond s)) (nI s) := by
  intro d
  induction d with
  | zero =>
    intro s hs
    have e : s = n := by omega
    subst e
    rw [wY_forced_9]
    exact pk_le s s (fun _ => h) (fun z => by omega)
  | succ d ih =>
    intro s hs
    have hk := ih (s + 1) (by omega)
    have hin : vp_in (nI s) 6 := pk_in s 6 (by omega)
    have hcs := hcond s (by omega)
    rw [wY_forced_9]
    dsimp only
    rw [nI_clamp (n := s) (by omega), bi_2 _ (sf_lt s (by omega)) s (by omega)]
    refine pk_le n s (fun z => by omega) (fun _ => pk_le 6 s (fun z => by omega) (fun _ => ⟨hin, br_c (fun z => nm_r (nI_1 s) (by rw [sf_f (fun y => (hcs.mpr y) z)] at hk; exact hk)) (fun z => nm_e (nm_r (nI_1 s) (by rw [sf_t (hcs.mp z)] at hk; exact hk)))⟩))
theorem i_vc_forced {k : Nat} {u : SX} {v : SY} (I : i_Rel k u v) (hk : k + 4 ≤ 2049) : wpX_forced (fun r u' => wpY_forced (fun r' v' => r' = r ∧ i_Rel (k + 4) u' v') v) u := by
  obtain ⟨n, cnt, nxt, shr, Γ, cr, eq, pt, pb, et, eb, mv, al, pk, gd, tp, bt, hc, hΓ, rfl, rfl⟩ := I
  have h6 := hc.2.1
  unfold wpX_forced
  refine x_ext hc false (fun cr' eq' pt' pb' et' eb' hE => ⟨n + 1, ?_⟩)
  refine x_forced9 (cond := fun t => decide (¬ et' t ≤ 0)) h6 (fun t ht => decide_eq_true_iff.symm) ?_ n 0 (by omega)
  unfold wpY_forced
  refine y_gather hc hΓ false (fun mv' al' pk' gd' tp' bt' hY => ⟨n + 1, ?_⟩)
  refine y_forced9 h6 (fun t ht => ?_) ⟨rfl, i_mk hc hΓ⟩ n 0 (by omega)
  rw [decide_eq_true_iff]
  obtain ⟨q, hq, e1, e2, e3, e4⟩ := lk_e hc (hE t ht) (hY t ht)
  obtain ⟨g, hg, a1, b1⟩ := lt_g (Γ := Γ) hc q t
  have c1 := dn_b (Γ := Γ) (p := q) hc
  have c2 := gn_b (Γ := Γ) (p := q) hc ht
  have c3 := lt_b (Γ := Γ) hc q ht
  rw [e1, e3]
  have z1 : ∀ x : Nat, x < 2 ^ 63 → (lN x ≤ 0 ↔ x = 0) := by
    intro x hx
    have h1 := pk_lLE (a := x) (b := 0) hx (by omega)
    exact ⟨fun h => by have := h1.mp h; omega, fun h => h1.mpr (by omega)⟩
  rw [z1 _ (by omega), z1 _ (by omega), a1]
  exact ⟨fun h z => h (by rw [z, Nat.mul_zero]), fun h z => h (Nat.eq_of_mul_eq_mul_left hg (by rw [z, Nat.mul_zero]))⟩
theorem i_vc_compare {k : Nat} {u : SX} {v : SY} (I : i_Rel k u v) (hk : k + 4 ≤ 2049) (v1 : Int32) (v2 : Int32) : wpX_compare (fun r u' => wpY_compare (fun r' v' => r' = r ∧ i_Rel (k + 4) u' v') v v1 v2) u v1 v2 := by
  obtain ⟨n, cnt, nxt, shr, Γ, cr, eq, pt, pb, et, eb, mv, al, pk, gd, tp, bt, hc, hΓ, rfl, rfl⟩ := I
  have h6 := hc.2.1
  unfold wpX_compare
  have hrel : i_Rel (k + 4) ((nI n, nI (2 ^ n), xa cnt, xc cnt, xc nxt, xc shr, xg Γ, cr, eq, pt, pb, et, eb) : SX) ((nI n, nI Γ, mv, al, xc cnt, xc nxt, xc shr, pk, gd, tp, bt) : SY) := i_mk hc hΓ
  rcases pk_ix v1 (n := n) (by omega) with hb | hb | ⟨s, hs, rfl⟩
  · exact x_good_f (Or.inl hb) (br_t rfl (by unfold wpY_compare; exact y_bad_t (Or.inl hb) (br_f (by decide) ⟨rfl, hrel⟩)))
  · exact x_good_f (Or.inr hb) (br_t rfl (by unfold wpY_compare; exact y_bad_t (Or.inr hb) (br_f (by decide) ⟨rfl, hrel⟩)))
  refine x_good_t h6 hs (br_f (by decide) ?_)
  rcases pk_ix v2 (n := n) (by omega) with hb | hb | ⟨t, ht, rfl⟩
  · exact x_good_f (Or.inl hb) (br_t rfl (by unfold wpY_compare; exact y_bad_f h6 hs (br_t rfl (y_bad_t (Or.inl hb) (br_f (by decide) ⟨rfl, hrel⟩)))))
  · exact x_good_f (Or.inr hb) (br_t rfl (by unfold wpY_compare; exact y_bad_f h6 hs (br_t rfl (y_bad_t (Or.inr hb) (br_f (by decide) ⟨rfl, hrel⟩)))))
  have his : vp_in (nI s) 6 := pk_in s 6 (by omega)
  have hit : vp_in (nI t) 6 := pk_in t 6 (by omega)
  refine x_good_t h6 ht (br_f (by decide) (x_ext hc true (fun cr' eq' pt' pb' et' eb' hE => ⟨his, his, hit, hit, ?_⟩)))
  -- the reference, from its answer
  have hY : ∀ r : Int32, (∀ q p, q < 2 ^ n → p < 2 ^ n → et' s = lN (ltop n cnt nxt shr Γ q s) → eb' s = lN (lbot n cnt nxt shr Γ q s) → et' t = lN (ltop n cnt nxt shr Γ p t) → eb' t = lN (lbot n cnt nxt shr Γ p t) →
      ((gn n cnt nxt shr Γ q s * dn n cnt nxt shr Γ p = gn n cnt nxt shr Γ p t * dn n cnt nxt shr Γ q → r = 0) ∧ (gn n cnt nxt shr Γ q s * dn n cnt nxt shr Γ p < gn n cnt nxt shr Γ p t * dn n cnt nxt shr Γ q → r = 2) ∧ (gn n cnt nxt shr Γ p t * dn n cnt nxt shr Γ q < gn n cnt nxt shr Γ q s * dn n cnt nxt shr Γ p → r = 1))) →
      wpY_compare (fun r' v' => r' = r ∧ i_Rel (k + 4) ((nI n, nI (2 ^ n), xa cnt, xc cnt, xc nxt, xc shr, xg Γ, cr', eq', pt', pb', et', eb') : SX) v') ((nI n, nI Γ, mv, al, xc cnt, xc nxt, xc shr, pk, gd, tp, bt) : SY) (nI s) (nI t) := by
    intro r hr
    unfold wpY_compare
    refine y_bad_f h6 hs (br_t rfl (y_bad_f h6 ht (br_t rfl (y_gather hc hΓ true (fun mv' al' pk' gd' tp' bt' hYx => ⟨his, hit, ?_⟩)))))
    obtain ⟨q, hq, e1, e2, e3, e4⟩ := lk_e hc (hE s hs) (hYx s hs)
    obtain ⟨p, hp, f1, f2, f3, f4⟩ := lk_e hc (hE t ht) (hYx t ht)
    have hr' := hr q p hq hp e3 e4 f3 f4
    have b1 := dn_b (Γ := Γ) (p := q) hc
    have b2 := gn_b (Γ := Γ) (p := q) hc hs
    have b3 := dn_b (Γ := Γ) (p := p) hc
    have b4 := gn_b (Γ := Γ) (p := p) hc ht
    have m1 := nm_60 (a := gn n cnt nxt shr Γ q s) (d := dn n cnt nxt shr Γ p) (by omega) (by omega)
    have m2 := nm_60 (a := gn n cnt nxt shr Γ p t) (d := dn n cnt nxt shr Γ q) (by omega) (by omega)
    rw [nI_clamp (n := s) (by omega), nI_clamp (n := t) (by omega), e1, e2, f1, f2]
    refine nm_r (lN_mul _ _) ⟨hit, his, nm_r (lN_mul _ _) ?_⟩
    rw [pk_lLE (by omega) (by omega), pk_lLE (by omega) (by omega)]
    refine br_c (fun z => br_c (fun z2 => ⟨(hr'.1 (by omega)).symm, i_mk hc hΓ⟩) (fun z2 => ⟨(hr'.2.1 (by omega)).symm, i_mk hc hΓ⟩)) (fun z => ⟨(hr'.2.2 (by omega)).symm, i_mk hc hΓ⟩)
  obtain ⟨q, hq, e1, e2, _⟩ := hE s hs
  obtain ⟨p, hp, f1, f2, _⟩ := hE t ht
  have b1 := lt_b (Γ := Γ) hc q hs
  have b2 := lt_b (Γ := Γ) hc p ht
  rw [nI_clamp (n := s) (by omega), nI_clamp (n := t) (by omega), e1, e2, f1, f2]
  -- the component's parts are those of the reference's plans
  have hsame : ∀ q2 p2, et' s = lN (ltop n cnt nxt shr Γ q2 s) → eb' s = lN (lbot n cnt nxt shr Γ q2 s) → et' t = lN (ltop n cnt nxt shr Γ p2 t) → eb' t = lN (lbot n cnt nxt shr Γ p2 t) → ltop n cnt nxt shr Γ q s = ltop n cnt nxt shr Γ q2 s ∧ lbot n cnt nxt shr Γ q s = lbot n cnt nxt shr Γ q2 s ∧ ltop n cnt nxt shr Γ p t = ltop n cnt nxt shr Γ p2 t ∧ lbot n cnt nxt shr Γ p t = lbot n cnt nxt shr Γ p2 t := by
    intro q2 p2 h1 h2 h3 h4
    have d1 := lt_b (Γ := Γ) hc q2 hs
    have d2 := lt_b (Γ := Γ) hc p2 ht
    rw [e1, pk_lEQ (by omega) (by omega)] at h1
    rw [e2, pk_lEQ (by omega) (by omega)] at h2
    rw [f1, pk_lEQ (by omega) (by omega)] at h3
    rw [f2, pk_lEQ (by omega) (by omega)] at h4
    exact ⟨h1, h2, h3, h4⟩
  refine x_ord b1.1 b1.2.1 b2.1 b2.2.1 (fun z => br_t (by decide) (hY 0 ?_)) (fun z => br_f (by decide) (hY 2 ?_)) (fun z => br_t (by decide) (hY 1 ?_))
  all_goals
    intro q2 p2 _ _ h1 h2 h3 h4
    obtain ⟨g1, g2, g3, g4⟩ := hsame q2 p2 h1 h2 h3 h4
    rw [g1, g2, g3, g4] at z
    have hcmp := lt_cmp2 (Γ := Γ) hc q2 p2 s t
    have c1 := hcmp.1
    have c2 := hcmp.2
    refine ⟨fun w => ?_, fun w => ?_, fun w => ?_⟩ <;> first | rfl | omega
end
section
theorem bp_least {P : Nat → Prop} : ∀ k : Nat, P k → ∃ m, P m ∧ ∀ j, j < m → ¬ P j := by
  intro k
  induction k using Nat.strongRecOn with
  | ind k ih =>
    intro h
    by_cases hj : ∃ j, j < k ∧ P j
    · obtain ⟨j, h1, h2⟩ := hj
      exact ih j h1 h2
    · exact ⟨k, h, fun j h1 h2 => hj ⟨j, h1, h2⟩⟩
/-- plan p is best for all states at once -/
def bp_o (n : Nat) (cnt nxt shr : Nat → Nat) (Γ p : Nat) : Prop := ∀ t, t < n → ∀ q, q < 2 ^ n → pl n cnt nxt shr Γ true q p t
section
variable {n : Nat} {cnt nxt shr : Nat → Nat} {Γ : Nat}
theorem bp_ex (hc : cf_ok n cnt nxt shr) : ∃ p, p < 2 ^ n ∧ bp_o n cnt nxt shr Γ p := by
  obtain ⟨p, hp, hm⟩ := cf_best hc (fun t => Γ.testBit t)
  refine ⟨p, hp, fun t ht q hq => ?_⟩
  have h1 := hm q t ht
  rw [← gn_i hc ht, ← gn_i hc ht, ← dn_i hc, ← dn_i hc] at h1
  unfold pl
  rw [if_pos rfl]
  have h2 : ((gn n cnt nxt shr Γ q t * dn n cnt nxt shr Γ p : Nat) : Int) ≤ ((gn n cnt nxt shr Γ p t * dn n cnt nxt shr Γ q : Nat) : Int) := by
    rw [Int.natCast_mul, Int.natCast_mul]; exact h1
  exact Int.ofNat_le.mp h2
theorem bp_ch (hc : cf_ok n cnt nxt shr) : ∃ p, p < 2 ^ n ∧ p &&& tw cnt n = p ∧ bp_o n cnt nxt shr Γ p ∧ ∀ q, q < p → ¬ bp_o n cnt nxt shr Γ q := by
  obtain ⟨p, hp, ho⟩ := bp_ex (Γ := Γ) hc
  obtain ⟨m, ⟨hm, hmo⟩, hl⟩ := bp_least (P := fun p => p < 2 ^ n ∧ bp_o n cnt nxt shr Γ p) p ⟨hp, ho⟩
  refine ⟨m, hm, ?_, hmo, fun q hq hqo => hl q hq ⟨by omega, hqo⟩⟩
  have hle : m &&& tw cnt n ≤ m := Nat.and_le_left
  by_cases e : m &&& tw cnt n = m
  · exact e
  · exfalso
    refine hl (m &&& tw cnt n) (by omega) ⟨by omega, fun t ht q hq => ?_⟩
    have e2 := gn_tw (cnt := cnt) (nxt := nxt) (shr := shr) (Γ := Γ) (t := t) hm
    have h1 := hmo t ht q hq
    unfold pl at h1 ⊢
    rw [e2.1, e2.2]
    exact h1
/-- the plan's chances are the extremes just when it is best -/
theorem bp_x (hc : cf_ok n cnt nxt shr) {p : Nat} (hp : p < 2 ^ n) {et eb : Nat → Int64} (hE : ∀ t, t < n → xe n cnt nxt shr Γ true (2 ^ n) t (et t) (eb t)) : (∀ t, t < n → lN (ltop n cnt nxt shr Γ p t) = et t ∧ lN (lbot n cnt nxt shr Γ p t) = eb t) ↔ bp_o n cnt nxt shr Γ p := by
  refine ⟨fun h t ht q hq => ?_, fun h t ht => ?_⟩
  · obtain ⟨h1, h2⟩ := h t ht
    obtain ⟨r, hr, e1, e2, hm⟩ := hE t ht
    have b1 := lt_b (Γ := Γ) hc p ht
    have b2 := lt_b (Γ := Γ) hc r ht
    rw [e1, pk_lEQ (by omega) (by omega)] at h1
    rw [e2, pk_lEQ (by omega) (by omega)] at h2
    have h3 := (lt_cmp (Γ := Γ) hc r p t).2.mp (by rw [h1, h2])
    exact pl_trans hc (hm q hq) (pl_of h3)
  · obtain ⟨r, hr, e1, e2, hm⟩ := hE t ht
    have h3 := lk_l hc (lk_x hp hr (h t ht) hm)
    rw [e1, e2, h3.1, h3.2]
    exact ⟨rfl, rfl⟩
theorem bp_y (hc : cf_ok n cnt nxt shr) {p : Nat} (hp : p < 2 ^ n) {tp bt : Nat → Int64} (hY : ∀ t, t < n → yx n cnt nxt shr Γ true t (tp t) (bt t)) : (∀ t, t < n → lN (gn n cnt nxt shr Γ p t) * bt t = tp t * lN (dn n cnt nxt shr Γ p)) ↔ bp_o n cnt nxt shr Γ p := by
  have key : ∀ t, t < n → ∀ r, tp t = lN (gn n cnt nxt shr Γ r t) → bt t = lN (dn n cnt nxt shr Γ r) → (lN (gn n cnt nxt shr Γ p t) * bt t = tp t * lN (dn n cnt nxt shr Γ p) ↔ gn n cnt nxt shr Γ p t * dn n cnt nxt shr Γ r = gn n cnt nxt shr Γ r t * dn n cnt nxt shr Γ p) := by
    intro t ht r e1 e2
    have b1 := dn_b (Γ := Γ) (p := p) hc
    have b2 := gn_b (Γ := Γ) (p := p) hc ht
    have b3 := dn_b (Γ := Γ) (p := r) hc
    have b4 := gn_b (Γ := Γ) (p := r) hc ht
    have m1 := nm_60 (a := gn n cnt nxt shr Γ p t) (d := dn n cnt nxt shr Γ r) (by omega) (by omega)
    have m2 := nm_60 (a := gn n cnt nxt shr Γ r t) (d := dn n cnt nxt shr Γ p) (by omega) (by omega)
    rw [e1, e2, lN_mul, lN_mul, pk_lEQ (by omega) (by omega)]
  refine ⟨fun h t ht q hq => ?_, fun h t ht => ?_⟩
  · obtain ⟨r, hr, e1, e2, hm⟩ := hY t ht
    exact pl_trans hc (hm q hq) (pl_of ((key t ht r e1 e2).mp (h t ht)).symm)
  · obtain ⟨r, hr, e1, e2, hm⟩ := hY t ht
    exact (key t ht r e1 e2).mpr (lk_x hp hr (h t ht) hm)
theorem x_pie {cr : Nat → Int32} {eq pt pb et eb : Nat → Int64} {post : Int32 → Prop} (h6 : n ≤ 6) (h1 : (∀ t, t < n → pt t = et t ∧ pb t = eb t) → post 1) (h0 : ¬ (∀ t, t < n → pt t = et t ∧ pb t = eb t) → post 0) : wpX_planIsExtreme post ((nI n, nI (2 ^ n), xa cnt, xc cnt, xc nxt, xc shr, xg Γ, cr, eq, pt, pb, et, eb) : SX) := by
  have key : ∀ (d s : Nat), s + d = n → (∀ t, t < s → pt t = et t ∧ pb t = eb t) → wX_planIsExtreme_2 post (nI n) (nI (2 ^ n)) (xa cnt) (xc cnt) (xc nxt) (xc shr) (xg Γ) cr eq pt pb et eb (d + 1) (nI s) := by
    intro d
    induction d with
    | zero =>
      intro s hs hI
      have e : s = n := by omega
      subst e
      rw [wX_planIsExtreme_2]
      exact pk_le s s (fun _ => h1 hI) (fun z => by omega)
    | succ d ih =>
      intro s hs hI
      have hin : vp_in (nI s) 6 := pk_in s 6 (by omega)
      rw [wX_planIsExtreme_2]
      dsimp only
      rw [nI_clamp (n := s) (by omega)]
      refine pk_le n s (fun z => by omega) (fun _ => ⟨hin, hin, br_c (fun z => ⟨hin, hin, br_c (fun z2 => nm_r (nI_1 s) (ih (s + 1) (by omega) (fun t ht => ?_))) (fun z2 => h0 (fun y => z2 (y s (by omega)).2))⟩) (fun z => h0 (fun y => z (y s (by omega)).1))⟩)
      by_cases e : t = s
      · subst e; exact ⟨z, z2⟩
      · exact hI t (by omega)
  exact ⟨n + 1, key n 0 (by omega) (fun t ht => by omega)⟩
theorem y_all {mv : Int32} {al : Int64} {pk : Nat → Int32} {gd tp bt : Nat → Int64} {post : Int32 → Prop} (h6 : n ≤ 6) (h1 : (∀ t, t < n → gd t * bt t = tp t * al) → post 1) (h0 : ¬ (∀ t, t < n → gd t * bt t = tp t * al) → post 0) : wpY_allBest post ((nI n, nI Γ, mv, al, xc cnt, xc nxt, xc shr, pk, gd, tp, bt) : SY) := by
  have key : ∀ (d s : Nat), s + d = n → (∀ t, t < s → gd t * bt t = tp t * al) → wY_allBest_2 post (nI n) (nI Γ) mv al (xc cnt) (xc nxt) (xc shr) pk gd tp bt (d + 1) (nI s) := by
    intro d
    induction d with
    | zero =>
      intro s hs hI
      have e : s = n := by omega
      subst e
      rw [wY_allBest_2]
      exact pk_le s s (fun _ => h1 hI) (fun z => by omega)
    | succ d ih =>
      intro s hs hI
      have hin : vp_in (nI s) 6 := pk_in s 6 (by omega)
      rw [wY_allBest_2]
      dsimp only
      rw [nI_clamp (n := s) (by omega)]
      refine pk_le n s (fun z => by omega) (fun _ => pk_le 6 s (fun z => by omega) (fun _ => ⟨hin, hin, hin, br_c (fun z => nm_r (nI_1 s) (ih (s + 1) (by omega) (fun t ht => ?_))) (fun z => h0 (fun y => z (y s (by omega))))⟩))
      by_cases e : t = s
      · subst e; exact z
      · exact hI t (by omega)
  exact ⟨n + 1, key n 0 (by omega) (fun t ht => by omega)⟩
end
theorem i_vc_bestPlan {k : Nat} {u : SX} {v : SY} (I : i_Rel k u v) (hk : k + 4 ≤ 2049) : wpX_bestPlan (fun r u' => wpY_bestPlan (fun r' v' => r' = r ∧ i_Rel (k + 4) u' v') v) u := by
  obtain ⟨n, cnt, nxt, shr, Γ, cr, eq, pt, pb, et, eb, mv, al, pk, gd, tp, bt, hc, hΓ, rfl, rfl⟩ := I
  have h6 := hc.2.1
  have h64 := bi_pow_le h6
  have htl := tw_lt (cnt := cnt) n h6
  obtain ⟨p0, hp0, hpt0, ho, hl⟩ := bp_ch (Γ := Γ) hc
  unfold wpX_bestPlan
  refine x_ext hc true (fun cr1 eq1 pt1 pb1 et1 eb1 hE => ⟨p0 + 1, ?_⟩)
  -- the reference answers p0
  have hY : ∀ u' : SX, (∃ cr' eq' pt' pb', u' = ((nI n, nI (2 ^ n), xa cnt, xc cnt, xc nxt, xc shr, xg Γ, cr', eq', pt', pb', et1, eb1) : SX)) → wpY_bestPlan (fun r' v' => r' = nI p0 ∧ i_Rel (k + 4) u' v') ((nI n, nI Γ, mv, al, xc cnt, xc nxt, xc shr, pk, gd, tp, bt) : SY) := by
    intro u' ⟨cr', eq', pt', pb', hu⟩
    subst hu
    unfold wpY_bestPlan
    refine y_gather hc hΓ true (fun mv1 al1 pk1 gd1 tp1 bt1 hYx => y_twofold hc ⟨p0 + 1, ?_⟩)
    have key : ∀ (d P : Nat) (mv' : Int32) (al' : Int64) (pk' : Nat → Int32) (gd' : Nat → Int64), P + d = p0 → wY_bestPlan_12 (fun r' v' => r' = nI p0 ∧ i_Rel (k + 4) ((nI n, nI (2 ^ n), xa cnt, xc cnt, xc nxt, xc shr, xg Γ, cr', eq', pt', pb', et1, eb1) : SX) v') (nI (tw cnt n)) (d + 1) (nI P) (nI n) (nI Γ) mv' al' (xc cnt) (xc nxt) (xc shr) pk' gd' tp1 bt1 := by
      intro d
      induction d with
      | zero =>
        intro P mv' al' pk' gd' hP
        have e : P = p0 := by omega
        subst e
        rw [wY_bestPlan_12]
        dsimp only
        rw [bi_5 n (by omega), bi_6 P (by omega) _ htl, hpt0]
        refine pk_le (2 ^ n) P (fun z => by omega) (fun _ => br_t rfl ?_)
        unfold wY_bestPlan_34
        refine br_f (by decide) (y_work hc hΓ (by omega) (fun mv2 pk2 gd2 hgd2 => ?_))
        dsimp only
        unfold wY_bestPlan_44
        refine br_f (by decide) (y_all h6 (fun _ => br_f (by decide) ⟨rfl, i_mk hc hΓ⟩) (fun hno => ?_))
        exfalso
        refine hno (fun t ht => ?_)
        rw [hgd2 t ht]
        exact (bp_y hc hp0 hYx).mpr ho t ht
      | succ d ih =>
        intro P mv' al' pk' gd' hP
        rw [wY_bestPlan_12]
        dsimp only
        rw [bi_5 n (by omega), bi_6 P (by omega) _ htl]
        have hal : P &&& tw cnt n < 64 := bi_and_lt (by omega)
        refine pk_le (2 ^ n) P (fun z => by omega) (fun _ => pk_eq (P &&& tw cnt n) P (fun z => ?_) (fun z => ?_))
        · unfold wY_bestPlan_34
          refine br_f (by decide) (y_work hc hΓ (by omega) (fun mv2 pk2 gd2 hgd2 => ?_))
          dsimp only
          unfold wY_bestPlan_44
          refine br_f (by decide) (y_all h6 (fun hall => ?_) (fun hno => br_t rfl (nm_r (nI_1 P) (ih (P + 1) _ _ _ _ (by omega)))))
          exfalso
          refine hl P (by omega) ((bp_y hc (by omega) hYx).mp (fun t ht => ?_))
          rw [← hgd2 t ht]
          exact hall t ht
        · unfold wY_bestPlan_34
          refine br_t rfl ?_
          unfold wY_bestPlan_44
          exact br_t rfl (nm_r (nI_1 P) (ih (P + 1) _ _ _ _ (by omega)))
    exact key p0 0 _ _ _ _ (by omega)
  have key : ∀ (d P : Nat) (cr' : Nat → Int32) (eq' pt' pb' : Nat → Int64), P + d = p0 → wX_bestPlan_7 (fun r u' => wpY_bestPlan (fun r' v' => r' = r ∧ i_Rel (k + 4) u' v') ((nI n, nI Γ, mv, al, xc cnt, xc nxt, xc shr, pk, gd, tp, bt) : SY)) (d + 1) (nI P) (nI n) (nI (2 ^ n)) (xa cnt) (xc cnt) (xc nxt) (xc shr) (xg Γ) cr' eq' pt' pb' et1 eb1 := by
    intro d
    induction d with
    | zero =>
      intro P cr' eq' pt' pb' hP
      have e : P = p0 := by omega
      rw [wX_bestPlan_7]
      refine pk_le (2 ^ n) P (fun z => by omega) (fun _ => x_chances hc (by omega) (fun cr2 eq2 pt2 pb2 hpt2 => x_pie h6 (fun _ => br_f (by decide) ?_) (fun hno => ?_)))
      · rw [e]
        exact hY _ ⟨_, _, _, _, rfl⟩
      · exfalso
        refine hno (fun t ht => ?_)
        have h1 := (bp_x hc hp0 hE).mpr ho t ht
        rw [(hpt2 t ht).1, (hpt2 t ht).2, e]
        exact h1
    | succ d ih =>
      intro P cr' eq' pt' pb' hP
      rw [wX_bestPlan_7]
      refine pk_le (2 ^ n) P (fun z => by omega) (fun _ => x_chances hc (by omega) (fun cr2 eq2 pt2 pb2 hpt2 => x_pie h6 (fun hall => ?_) (fun hno => br_t rfl (nm_r (nI_1 P) (ih (P + 1) _ _ _ _ (by omega))))))
      exfalso
      refine hl P (by omega) ((bp_x hc (by omega) hE).mp (fun t ht => ?_))
      rw [← (hpt2 t ht).1, ← (hpt2 t ht).2]
      exact hall t ht
  exact key p0 0 _ _ _ _ (by omega)
end
