section
variable {n : Nat} {m : Nat → Nat} {nx : Nat → Nat → Nat} {w : Nat → Nat → Int} {G M : Nat → Bool}
/-- a graph under a plan: G its goals, M the states that move on and can reach a goal -/
def fs_ok (n : Nat) (m : Nat → Nat) (nx : Nat → Nat → Nat) (w : Nat → Nat → Int) (G M : Nat → Bool) : Prop :=
  n ≤ 6 ∧ (∀ s k, nx s k < n) ∧ (∀ s k, 0 ≤ w s k ∧ w s k ≤ 9) ∧ (∀ s k, s < n → k < m s → 0 < w s k) ∧ (∀ s, m s ≤ 3) ∧ (∀ s, M s = true → G s = false) ∧
  (∀ P : Nat → Prop, (∀ s, s < n → G s = true → P s) → (∀ s k, s < n → k < m s → P (nx s k) → P s) → ∀ s, s < n → M s = true → P s)
theorem fs_avg {w u : Nat → Int} {k : Nat} {B x : Int} (hp : ∀ l, l < k → 0 < w l) (hu : ∀ l, l < k → u l ≤ B + 1) {j : Nat} (hj : j < k) (huj : u j ≤ B) (hs : fs_sum w k * x ≤ fs_sum (fun l => w l * u l) k) : x ≤ B := by
  have h1 : fs_sum (fun l => w l * u l) k < fs_sum (fun l => (B + 1) * w l) k := by
    refine fs_sum_lt k (fun l hl => ?_) j hj ?_
    · show w l * u l ≤ (B + 1) * w l
      rw [Int.mul_comm (w l)]
      exact Int.mul_le_mul_of_nonneg_right (hu l hl) (Int.le_of_lt (hp l hl))
    · show w j * u j < (B + 1) * w j
      rw [Int.mul_comm (w j)]
      exact Int.mul_lt_mul_of_pos_right (by omega) (hp j hj)
  rw [fs_sum_mul, Int.mul_comm] at h1
  have h2 : fs_sum w k * x < fs_sum w k * (B + 1) := by omega
  have h3 := Int.lt_of_mul_lt_mul_left h2 (fs_sum_nonneg k (fun l hl => Int.le_of_lt (hp l hl)))
  omega
theorem fs_bound (u : Nat → Int) : ∀ n : Nat, ∃ B : Nat, ∀ s, s < n → u s ≤ (B : Int) := by
  intro n
  induction n with
  | zero => exact ⟨0, fun s h => by omega⟩
  | succ n ih =>
    obtain ⟨B, hB⟩ := ih
    refine ⟨B + (u n).toNat, fun s hs => ?_⟩
    by_cases e : s = n
    · subst e; omega
    · have := hB s (by omega); omega
/-- the greatest value stands at the edge -/
theorem fs_max (H : fs_ok n m nx w G M) {act : Nat → Bool} (ha : ∀ s, act s = true → M s = true) (u : Nat → Int) (hb : ∀ s, s < n → act s = false → u s ≤ 0) (hs : ∀ s, s < n → act s = true → fs_sum (fun l => w s l) (m s) * u s ≤ fs_sum (fun l => w s l * u (nx s l)) (m s)) : ∀ s, s < n → u s ≤ 0 := by
  obtain ⟨hn, hx, hw, hp, hm, hg, hl⟩ := H
  have key : ∀ B : Nat, (∀ s, s < n → u s ≤ (B : Int)) → ∀ s, s < n → u s ≤ 0 := by
    intro B
    induction B with
    | zero => intro h s hs'; exact h s hs'
    | succ B ih =>
      intro h
      refine ih ?_
      have hP := hl (fun s => u s ≤ (B : Int)) (fun s hsn hG => ?_) (fun s k hsn hk hP => ?_)
      · intro s hsn
        cases hM : M s with
        | true => exact hP s hsn hM
        | false =>
          have : act s = false := by
            cases e : act s with
            | false => rfl
            | true => rw [ha s e] at hM; exact absurd hM (by decide)
          have := hb s hsn this
          omega
      · have : act s = false := by
          cases e : act s with
          | false => rfl
          | true => rw [hg s (ha s e)] at hG; exact absurd hG (by decide)
        have := hb s hsn this
        show u s ≤ (B : Int)
        omega
      · show u s ≤ (B : Int)
        cases e : act s with
        | false => have := hb s hsn e; omega
        | true =>
          exact fs_avg (w := fun l => w s l) (u := fun l => u (nx s l)) (fun l hl' => hp s l hsn hl') (fun l _ => by have := h (nx s l) (hx s l); show u (nx s l) ≤ _; omega) hk hP (hs s hsn e)
  obtain ⟨B, hB⟩ := fs_bound u n
  exact key B hB
/-- u fulfils the equations of the active states -/
def fs_hm (n : Nat) (m : Nat → Nat) (nx : Nat → Nat → Nat) (w : Nat → Nat → Int) (act : Nat → Bool) (u : Nat → Int) : Prop :=
  ∀ s, s < n → act s = true → fs_sum (fun l => w s l * u (nx s l)) (m s) = fs_sum (fun l => w s l) (m s) * u s
theorem fs_hm_V (H : fs_ok n m nx w G M) {act act' : Nat → Bool} (ha : ∀ s, act' s = true → act s = true) (h : Nat → Int) : fs_hm n m nx w act' (fs_V n m nx w act h) :=
  fun _ hs e => fs_V_harm m w h H.1 H.2.1 hs (ha _ e)
theorem fs_hm_mul {act : Nat → Bool} {u : Nat → Int} (a : Int) (h : fs_hm n m nx w act u) : fs_hm n m nx w act (fun s => a * u s) := by
  intro s hs e
  have h1 := h s hs e
  have h2 : fs_sum (fun l => w s l * (a * u (nx s l))) (m s) = a * fs_sum (fun l => w s l * u (nx s l)) (m s) := by
    rw [← fs_sum_mul]
    exact fs_sum_congr _ (fun l _ => by (try dsimp only); grind)
  show fs_sum (fun l => w s l * (a * u (nx s l))) (m s) = fs_sum (fun l => w s l) (m s) * (a * u s)
  rw [h2, h1]; grind
theorem fs_hm_add {act : Nat → Bool} {u v : Nat → Int} (h : fs_hm n m nx w act u) (g : fs_hm n m nx w act v) : fs_hm n m nx w act (fun s => u s + v s) := by
  intro s hs e
  have h1 := h s hs e
  have h2 := g s hs e
  have h3 : fs_sum (fun l => w s l * (u (nx s l) + v (nx s l))) (m s) = fs_sum (fun l => w s l * u (nx s l)) (m s) + fs_sum (fun l => w s l * v (nx s l)) (m s) := by
    rw [← fs_sum_add]
    exact fs_sum_congr _ (fun l _ => by (try dsimp only); grind)
  show fs_sum (fun l => w s l * (u (nx s l) + v (nx s l))) (m s) = fs_sum (fun l => w s l) (m s) * (u s + v s)
  rw [h3, h1, h2]; grind
theorem fs_uniq1 (H : fs_ok n m nx w G M) {act : Nat → Bool} (ha : ∀ s, act s = true → M s = true) {u v : Nat → Int} (hu : fs_hm n m nx w act u) (hv : fs_hm n m nx w act v) (hb : ∀ s, s < n → act s = false → u s = v s) : ∀ s, s < n → u s ≤ v s := by
  have hd := fs_hm_add hu (fs_hm_mul (-1) hv)
  have := fs_max H ha (fun s => u s + -1 * v s) (fun s hs e => by have := hb s hs e; show u s + -1 * v s ≤ 0; omega) (fun s hs e => Int.le_of_eq (hd s hs e).symm)
  intro s hs
  have h1 : u s + -1 * v s ≤ 0 := this s hs
  omega
theorem fs_uniq (H : fs_ok n m nx w G M) {act : Nat → Bool} (ha : ∀ s, act s = true → M s = true) {u v : Nat → Int} (hu : fs_hm n m nx w act u) (hv : fs_hm n m nx w act v) (hb : ∀ s, s < n → act s = false → u s = v s) : ∀ s, s < n → u s = v s :=
  fun s hs => Int.le_antisymm (fs_uniq1 H ha hu hv hb s hs) (fs_uniq1 H ha hv hu (fun s hs e => (hb s hs e).symm) s hs)
/-- the moving states below k -/
def fs_lv (M : Nat → Bool) (k : Nat) : Nat → Bool := fun t => decide (t < k) && M t
theorem fs_lv_t {k t : Nat} (h : fs_lv M k t = true) : t < k ∧ M t = true := by
  unfold fs_lv at h
  rw [Bool.and_eq_true, decide_eq_true_eq] at h
  exact h
theorem fs_lv_i {k t : Nat} (h : t < k) (hM : M t = true) : fs_lv M k t = true := by
  unfold fs_lv
  rw [Bool.and_eq_true, decide_eq_true_eq]
  exact ⟨h, hM⟩
theorem fs_lv_f {k t : Nat} (h : ¬ (t < k ∧ M t = true)) : fs_lv M k t = false := by
  cases e : fs_lv M k t with
  | false => rfl
  | true => exact absurd (fs_lv_t e) h
theorem fs_lv_ext {k q : Nat} {N : Nat → Bool} (h : ∀ t, (t < k ∧ M t = true) ↔ (t < q ∧ N t = true)) : fs_lv M k = fs_lv N q := by
  funext t
  by_cases e : t < k ∧ M t = true
  · rw [fs_lv_i e.1 e.2, fs_lv_i ((h t).mp e).1 ((h t).mp e).2]
  · rw [fs_lv_f e, fs_lv_f (fun z => e ((h t).mpr z))]
theorem fs_lv_off {k : Nat} : fs_off (fs_lv M (k + 1)) k = fs_lv M k := by
  funext t
  by_cases e : t = k
  · subst e
    rw [fs_off_i, fs_lv_f (by omega)]
  · rw [fs_off_ne e]
    by_cases h : t < k ∧ M t = true
    · rw [fs_lv_i h.1 h.2, fs_lv_i (by omega) h.2]
    · rw [fs_lv_f h, fs_lv_f (fun z => h ⟨by omega, z.2⟩)]
theorem fs_lv_no {k : Nat} (hM : M k = false) : fs_lv M (k + 1) = fs_lv M k := by
  refine fs_lv_ext (fun t => ⟨fun h => ⟨?_, h.2⟩, fun h => ⟨by omega, h.2⟩⟩)
  have h1 := h.1
  by_cases e : t = k
  · subst e; rw [hM] at h; exact absurd h.2 (by decide)
  · omega
theorem fs_S_1 {b : Nat → Nat} (φ : (Nat → Nat) → Int) : ∀ k : Nat, (∀ s, s < k → b s = 1) → fs_S b k φ (fun _ => 0) = φ (fun _ => 0) := by
  intro k
  induction k with
  | zero => intro _; rfl
  | succ k ih =>
    intro h
    show fs_sum (fun r => fs_S b k φ (fs_set (fun _ => 0) k r)) (b k) = φ (fun _ => 0)
    rw [h k (by omega)]
    show 0 + fs_S b k φ (fs_set (fun _ => 0) k 0) = φ (fun _ => 0)
    have e : fs_set (fun _ => 0) k 0 = fun _ => 0 := by
      funext j
      unfold fs_set
      split <;> rfl
    rw [e, Int.zero_add]
    exact ih (fun s hs => h s (by omega))
theorem fs_prod_1 {f : Nat → Int} : ∀ k : Nat, (∀ i, i < k → f i = 1) → fs_prod f k = 1 := by
  intro k
  induction k with
  | zero => intro _; rfl
  | succ k ih =>
    intro h
    show fs_prod f k * f k = 1
    rw [ih (fun i hi => h i (by omega)), h k (by omega)]; rfl
theorem fs_D_0 : fs_D n m nx w (fs_lv M 0) = 1 := by
  have h0 : ∀ t, fs_lv M 0 t = false := fun t => fs_lv_f (by omega)
  unfold fs_D fs_V
  rw [fs_S_1 _ n (fun s _ => by unfold fs_bb; rw [h0 s, if_neg (by decide)])]
  have h1 : fs_ac n nx (fs_lv M 0) (fun _ => 0) := fun t _ => h0 _
  have h2 : fs_wt n w (fs_lv M 0) (fun _ => 0) = 1 := fs_prod_1 n (fun s _ => by (try dsimp only); rw [h0 s, if_neg (by decide)])
  rw [fs_ind_t h1, h2]; rfl
theorem fs_D_s (H : fs_ok n m nx w G M) {k : Nat} (hk : k < n) (hM : M k = true) : fs_D n m nx w (fs_lv M (k + 1)) = fs_sum (fun r => w k r * fs_V n m nx w (fs_lv M k) (fun t => if t = k then 0 else 1) (nx k r)) (m k) := by
  rw [← fs_V_one n m nx w (fs_lv M (k + 1)) k, fs_V_top m w (fun _ => 1) H.1 H.2.1 hk (fs_lv_i (by omega) hM), fs_lv_off]
theorem fs_D_pos (H : fs_ok n m nx w G M) : ∀ k : Nat, k ≤ n → 0 < fs_D n m nx w (fs_lv M k) := by
  intro k
  induction k with
  | zero => intro _; rw [fs_D_0]; decide
  | succ k ih =>
    intro hk
    have ih' := ih (by omega)
    cases hM : M k with
    | false => rw [fs_lv_no hM]; exact ih'
    | true =>
      have HH := H
      obtain ⟨hn, hx, hw, hp, hm, hg, hl⟩ := HH
      rw [fs_D_s H (by omega) hM]
      have hu0 : ∀ x, 0 ≤ fs_V n m nx w (fs_lv M k) (fun t => if t = k then 0 else 1) x := fun x => fs_V_nn (fun s k => (hw s k).1) _ (fun t => by split <;> decide) x
      have hbd : ∀ s, ¬ s = k → fs_lv M k s = false → 0 < fs_V n m nx w (fs_lv M k) (fun t => if t = k then 0 else 1) s := by
        intro s h1 h2
        rw [fs_V_bd _ _ _ _ _ h2, if_neg h1, Int.mul_one]; exact ih'
      by_cases hz : ∃ r, r < m k ∧ 0 < fs_V n m nx w (fs_lv M k) (fun t => if t = k then 0 else 1) (nx k r)
      · obtain ⟨r, hr, h1⟩ := hz
        exact fs_sum_pos _ (fun i hi => Int.mul_nonneg (hw k i).1 (hu0 _)) r hr (Int.mul_pos (hp k r (by omega) hr) h1)
      · exfalso
        have hP := hl (fun s => 0 < fs_V n m nx w (fs_lv M k) (fun t => if t = k then 0 else 1) s) (fun s hs hG => ?_) (fun s l hs hl' hP => ?_) k (by omega) hM
        · have hP' : 0 < fs_V n m nx w (fs_lv M k) (fun t => if t = k then 0 else 1) k := hP
          rw [fs_V_bd _ _ _ _ _ (fs_lv_f (by omega)), if_pos rfl] at hP'
          omega
        · refine hbd s ?_ ?_
          · intro e; subst e; rw [hg s hM] at hG; exact absurd hG (by decide)
          · refine fs_lv_f (fun z => ?_)
            rw [hg s z.2] at hG; exact absurd hG (by decide)
        · by_cases e : s = k
          · subst e; exact absurd ⟨l, hl', hP⟩ hz
          · cases ea : fs_lv M k s with
            | false => exact hbd s e ea
            | true =>
              have hh := fs_V_harm m w (fun t => if t = k then 0 else 1) hn hx hs ea
              have h1 : 0 < fs_sum (fun l => w s l * fs_V n m nx w (fs_lv M k) (fun t => if t = k then 0 else 1) (nx s l)) (m s) :=
                fs_sum_pos _ (fun i hi => Int.mul_nonneg (hw s i).1 (hu0 _)) l hl' (Int.mul_pos (hp s l hs hl') hP)
              rw [hh] at h1
              have h2 := hu0 s
              by_cases h3 : fs_V n m nx w (fs_lv M k) (fun t => if t = k then 0 else 1) s = 0
              · rw [h3, Int.mul_zero] at h1; omega
              · show 0 < fs_V n m nx w (fs_lv M k) (fun t => if t = k then 0 else 1) s
                omega
theorem fs_wsum (H : fs_ok n m nx w G M) (s : Nat) : 0 ≤ fs_sum (fun l => w s l) (m s) ∧ fs_sum (fun l => w s l) (m s) ≤ 27 := by
  obtain ⟨hn, hx, hw, hp, hm, hg, hl⟩ := H
  refine ⟨fs_sum_nonneg _ (fun i _ => (hw s i).1), ?_⟩
  have h3 := hm s
  have a0 := hw s 0
  have a1 := hw s 1
  have a2 := hw s 2
  have h4 : m s = 0 ∨ m s = 1 ∨ m s = 2 ∨ m s = 3 := by omega
  rcases h4 with e | e | e | e <;> rw [e]
  · show (0 : Int) ≤ 27; decide
  · show 0 + w s 0 ≤ 27; omega
  · show 0 + w s 0 + w s 1 ≤ 27; omega
  · show 0 + w s 0 + w s 1 + w s 2 ≤ 27; omega
/-- a weighted sum of values between 0 and D -/
theorem fs_wsum_le (H : fs_ok n m nx w G M) (s : Nat) {u : Nat → Int} {D : Int} (hD : 0 ≤ D) (h : ∀ l, 0 ≤ u l ∧ u l ≤ D) : 0 ≤ fs_sum (fun l => w s l * u l) (m s) ∧ fs_sum (fun l => w s l * u l) (m s) ≤ 27 * D := by
  have hw := H.2.2.1
  refine ⟨fs_sum_nonneg _ (fun i _ => Int.mul_nonneg (hw s i).1 (h i).1), ?_⟩
  have h1 : fs_sum (fun l => w s l * u l) (m s) ≤ fs_sum (fun l => D * w s l) (m s) := fs_sum_le _ (fun i _ => by
    show w s i * u i ≤ D * w s i
    rw [Int.mul_comm]
    exact Int.mul_le_mul_of_nonneg_right (h i).2 (hw s i).1)
  rw [fs_sum_mul] at h1
  have h2 := fs_wsum H s
  have h3 := Int.mul_le_mul_of_nonneg_left h2.2 hD
  have h4 : fs_sum (fun l => w s l * u l) (m s) ≤ D * fs_sum (fun l => w s l) (m s) := h1
  omega
theorem fs_D_le (H : fs_ok n m nx w G M) : ∀ k : Nat, k ≤ n → fs_D n m nx w (fs_lv M k) ≤ 27 ^ k := by
  intro k
  induction k with
  | zero => intro _; rw [fs_D_0]; decide
  | succ k ih =>
    intro hk
    have ih' := ih (by omega)
    have h0 := fs_D_pos H k (by omega)
    cases hM : M k with
    | false => rw [fs_lv_no hM, Int.pow_succ]; omega
    | true =>
      rw [fs_D_s H (by omega) hM, Int.pow_succ]
      have := (fs_wsum_le H k (u := fun r => fs_V n m nx w (fs_lv M k) (fun t => if t = k then 0 else 1) (nx k r)) (Int.le_of_lt h0) (fun l => ⟨fs_V_nn (fun s k => (H.2.2.1 s k).1) _ (fun t => by split <;> decide) _, fs_V_leD (fun s k => (H.2.2.1 s k).1) _ (fun t => by split <;> decide) _⟩)).2
      omega
end
