section
variable {n : Nat} {G : Nat → Bool}
/-- g / d are the chances under a plan whose ways are m, nx, w -/
def po_ok (n : Nat) (G : Nat → Bool) (m : Nat → Nat) (nx : Nat → Nat → Nat) (w : Nat → Nat → Int) (g : Nat → Int) (d : Int) : Prop :=
  0 < d ∧ (∀ s, s < n → 0 ≤ g s ∧ g s ≤ d) ∧ (∀ s, s < n → G s = true → g s = d) ∧
  (∀ s, s < n → G s = false → fs_sum (fun l => w s l * g (nx s l)) (m s) = fs_sum (fun l => w s l) (m s) * g s) ∧
  (∀ P : Nat → Prop, (∀ s, s < n → G s = true → P s) → (∀ s k, s < n → k < m s → P (nx s k) → P s) → ∀ s, s < n → 0 < g s → P s)
theorem po_lin (w g g' : Nat → Int) (d d' : Int) (k : Nat) : fs_sum (fun l => w l * (g l * d' - g' l * d)) k = d' * fs_sum (fun l => w l * g l) k - d * fs_sum (fun l => w l * g' l) k := by
  induction k with
  | zero => show (0 : Int) = d' * 0 - d * 0; omega
  | succ k ih =>
    show fs_sum (fun l => w l * (g l * d' - g' l * d)) k + w k * (g k * d' - g' k * d) = d' * (fs_sum (fun l => w l * g l) k + w k * g k) - d * (fs_sum (fun l => w l * g' l) k + w k * g' k)
    rw [ih]; grind
theorem po_desc {u : Nat → Int} (h : ∀ B : Nat, (∀ s, s < n → u s ≤ (B : Int) + 1) → ∀ s, s < n → u s ≤ (B : Int)) : ∀ s, s < n → u s ≤ 0 := by
  have key : ∀ B : Nat, (∀ s, s < n → u s ≤ (B : Int)) → ∀ s, s < n → u s ≤ 0 := by
    intro B
    induction B with
    | zero => intro h0 s hs; exact h0 s hs
    | succ B ih =>
      intro h0
      exact ih (h B (fun s hs => by have := h0 s hs; omega))
  obtain ⟨B, hB⟩ := fs_bound u n
  exact key B hB
theorem po_avg {w u : Nat → Int} {k : Nat} {B x : Int} (hp : ∀ l, l < k → 0 < w l) (hu : ∀ l, l < k → u l ≤ B + 1) (hs : fs_sum w k * x < fs_sum (fun l => w l * u l) k) : x ≤ B := by
  have h1 : fs_sum (fun l => w l * u l) k ≤ fs_sum (fun l => (B + 1) * w l) k := by
    refine fs_sum_le k (fun l hl => ?_)
    show w l * u l ≤ (B + 1) * w l
    rw [Int.mul_comm (w l)]
    exact Int.mul_le_mul_of_nonneg_right (hu l hl) (Int.le_of_lt (hp l hl))
  rw [fs_sum_mul, Int.mul_comm] at h1
  have h2 : fs_sum w k * x < fs_sum w k * (B + 1) := by omega
  have h3 := Int.lt_of_mul_lt_mul_left h2 (fs_sum_nonneg k (fun l hl => Int.le_of_lt (hp l hl)))
  omega
/-- a plan with a strictly better action at one state is nowhere worse -/
theorem po_up1 {mm : Nat → Nat → Nat} {nn : Nat → Nat → Nat → Nat} {ww : Nat → Nat → Nat → Int} (hx : ∀ s a k, nn s a k < n) (hp : ∀ s a k, s < n → k < mm s a → 0 < ww s a k)
    {π π' : Nat → Nat} {s0 : Nat} (hs0 : s0 < n) (hG0 : G s0 = false) (he : ∀ s, ¬ s = s0 → π' s = π s) {g g' : Nat → Int} {d d' : Int}
    (H : po_ok n G (fun s => mm s (π s)) (fun s => nn s (π s)) (fun s => ww s (π s)) g d)
    (H' : po_ok n G (fun s => mm s (π' s)) (fun s => nn s (π' s)) (fun s => ww s (π' s)) g' d')
    (hst : fs_sum (fun l => ww s0 (π' s0) l) (mm s0 (π' s0)) * g s0 < fs_sum (fun l => ww s0 (π' s0) l * g (nn s0 (π' s0) l)) (mm s0 (π' s0))) :
    ∀ s, s < n → g s * d' - g' s * d ≤ 0 := by
  obtain ⟨hd, hr, hgo, hh, hl⟩ := H
  obtain ⟨hd', hr', hgo', hh', hl'⟩ := H'
  refine po_desc (fun B hB => ?_)
  have hz : ∀ s, s < n → ¬ 0 < g s → g s * d' - g' s * d ≤ (B : Int) := by
    intro s hs h0
    have h1 : g s = 0 := by have := (hr s hs).1; omega
    have h2 := Int.mul_nonneg (hr' s hs).1 (Int.le_of_lt hd)
    rw [h1, Int.zero_mul]; omega
  have hgoal : ∀ s, s < n → G s = true → g s * d' - g' s * d ≤ (B : Int) := by
    intro s hs hG
    rw [hgo s hs hG, hgo' s hs hG, Int.mul_comm]; omega
  have hat : g s0 * d' - g' s0 * d ≤ (B : Int) := by
    refine po_avg (w := fun l => ww s0 (π' s0) l) (u := fun l => g (nn s0 (π' s0) l) * d' - g' (nn s0 (π' s0) l) * d) (k := mm s0 (π' s0)) (fun l hl => hp s0 _ l hs0 hl) (fun l _ => hB _ (hx _ _ _)) ?_
    have e1 := po_lin (fun l => ww s0 (π' s0) l) (fun l => g (nn s0 (π' s0) l)) (fun l => g' (nn s0 (π' s0) l)) d d' (mm s0 (π' s0))
    try dsimp only at e1
    rw [e1]
    have e2 := hh' s0 hs0 hG0
    try dsimp only at e2
    rw [e2]
    have h3 := Int.mul_lt_mul_of_pos_left hst hd'
    grind
  have hP := hl (fun s => g s * d' - g' s * d ≤ (B : Int)) hgoal (fun s k hs hk hP => ?_)
  · intro s hs
    by_cases h0 : 0 < g s
    · exact hP s hs h0
    · exact hz s hs h0
  · show g s * d' - g' s * d ≤ (B : Int)
    cases hG : G s with
    | true => exact hgoal s hs hG
    | false =>
      by_cases e : s = s0
      · rw [e]; exact hat
      · have e0 := he s e
        refine fs_avg (w := fun l => ww s (π s) l) (u := fun l => g (nn s (π s) l) * d' - g' (nn s (π s) l) * d) (k := mm s (π s)) (fun l hl => hp s _ l hs hl) (fun l _ => hB _ (hx _ _ _)) hk hP ?_
        have e1 := po_lin (fun l => ww s (π s) l) (fun l => g (nn s (π s) l)) (fun l => g' (nn s (π s) l)) d d' (mm s (π s))
        try dsimp only at e1
        rw [e1]
        have e2 := hh s hs hG
        have e3 := hh' s hs hG
        try dsimp only at e2 e3
        rw [e0] at e3
        rw [e2, e3]
        refine Int.le_of_eq ?_
        grind
theorem po_up2 {mm : Nat → Nat → Nat} {nn : Nat → Nat → Nat → Nat} {ww : Nat → Nat → Nat → Int} (hx : ∀ s a k, nn s a k < n) (hp : ∀ s a k, s < n → k < mm s a → 0 < ww s a k)
    {π' : Nat → Nat} {s0 : Nat} (hs0 : s0 < n) (hG0 : G s0 = false) {g g' : Nat → Int} {d d' : Int}
    (H' : po_ok n G (fun s => mm s (π' s)) (fun s => nn s (π' s)) (fun s => ww s (π' s)) g' d') (hd' : 0 < d')
    (hst : fs_sum (fun l => ww s0 (π' s0) l) (mm s0 (π' s0)) * g s0 < fs_sum (fun l => ww s0 (π' s0) l * g (nn s0 (π' s0) l)) (mm s0 (π' s0)))
    (hu : ∀ s, s < n → g s * d' - g' s * d ≤ 0) : g s0 * d' < g' s0 * d := by
  have e2 := H'.2.2.2.1 s0 hs0 hG0
  try dsimp only at e2
  have e1 := po_lin (fun l => ww s0 (π' s0) l) (fun l => g (nn s0 (π' s0) l)) (fun l => g' (nn s0 (π' s0) l)) d d' (mm s0 (π' s0))
  try dsimp only at e1
  have h1 : fs_sum (fun l => ww s0 (π' s0) l * (g (nn s0 (π' s0) l) * d' - g' (nn s0 (π' s0) l) * d)) (mm s0 (π' s0)) ≤ fs_sum (fun _ => 0) (mm s0 (π' s0)) := fs_sum_le _ (fun l hl => by
    have h2 := hu (nn s0 (π' s0) l) (hx _ _ _)
    have h3 := hp s0 (π' s0) l hs0 hl
    have h4 := Int.mul_le_mul_of_nonneg_left h2 (Int.le_of_lt h3)
    rw [Int.mul_zero] at h4
    exact h4)
  rw [fs_sum_zero, e1, e2] at h1
  have h3 := Int.mul_lt_mul_of_pos_left hst hd'
  have h5 : fs_sum (fun l => ww s0 (π' s0) l) (mm s0 (π' s0)) * (g s0 * d') < fs_sum (fun l => ww s0 (π' s0) l) (mm s0 (π' s0)) * (g' s0 * d) := by grind
  exact Int.lt_of_mul_lt_mul_left h5 (fs_sum_nonneg _ (fun l hl => Int.le_of_lt (hp s0 _ l hs0 hl)))
/-- a plan that no action betters is best -/
theorem po_opt {mm : Nat → Nat → Nat} {nn : Nat → Nat → Nat → Nat} {ww : Nat → Nat → Nat → Int} (hx : ∀ s a k, nn s a k < n) (hp : ∀ s a k, s < n → k < mm s a → 0 < ww s a k)
    {π' : Nat → Nat} {g g' : Nat → Int} {d d' : Int} (hd : 0 < d) (hg0 : ∀ s, s < n → 0 ≤ g s) (hgo : ∀ s, s < n → G s = true → g s = d)
    (H' : po_ok n G (fun s => mm s (π' s)) (fun s => nn s (π' s)) (fun s => ww s (π' s)) g' d')
    (hno : ∀ s, s < n → G s = false → fs_sum (fun l => ww s (π' s) l * g (nn s (π' s) l)) (mm s (π' s)) ≤ fs_sum (fun l => ww s (π' s) l) (mm s (π' s)) * g s) :
    ∀ s, s < n → g' s * d - g s * d' ≤ 0 := by
  obtain ⟨hd', hr', hgo', hh', hl'⟩ := H'
  refine po_desc (fun B hB => ?_)
  have hz : ∀ s, s < n → ¬ 0 < g' s → g' s * d - g s * d' ≤ (B : Int) := by
    intro s hs h0
    have h1 : g' s = 0 := by have := (hr' s hs).1; omega
    have h2 := Int.mul_nonneg (hg0 s hs) (Int.le_of_lt hd')
    rw [h1, Int.zero_mul]; omega
  have hgoal : ∀ s, s < n → G s = true → g' s * d - g s * d' ≤ (B : Int) := by
    intro s hs hG
    rw [hgo s hs hG, hgo' s hs hG, Int.mul_comm]; omega
  have hP := hl' (fun s => g' s * d - g s * d' ≤ (B : Int)) hgoal (fun s k hs hk hP => ?_)
  · intro s hs
    by_cases h0 : 0 < g' s
    · exact hP s hs h0
    · exact hz s hs h0
  · show g' s * d - g s * d' ≤ (B : Int)
    cases hG : G s with
    | true => exact hgoal s hs hG
    | false =>
      refine fs_avg (w := fun l => ww s (π' s) l) (u := fun l => g' (nn s (π' s) l) * d - g (nn s (π' s) l) * d') (k := mm s (π' s)) (fun l hl => hp s _ l hs hl) (fun l _ => hB _ (hx _ _ _)) hk hP ?_
      have e1 := po_lin (fun l => ww s (π' s) l) (fun l => g' (nn s (π' s) l)) (fun l => g (nn s (π' s) l)) d' d (mm s (π' s))
      try dsimp only at e1
      rw [e1]
      have e2 := hh' s hs hG
      try dsimp only at e2
      rw [e2]
      have h3 := Int.mul_le_mul_of_nonneg_left (hno s hs hG) (Int.le_of_lt hd')
      grind
theorem po_trans {a b c d e f : Int} (hb : 0 < b) (hd : 0 < d) (hf : 0 < f) (h1 : a * d ≤ c * b) (h2 : c * f ≤ e * d) : a * f ≤ e * b := by
  have h3 := Int.mul_le_mul_of_nonneg_right h1 (Int.le_of_lt hf)
  have h4 := Int.mul_le_mul_of_nonneg_right h2 (Int.le_of_lt hb)
  have h5 : d * (a * f) ≤ d * (e * b) := by grind
  exact Int.le_of_mul_le_mul_left h5 hd
theorem po_argmax {T d : Nat → Int} (hd : ∀ p, 0 < d p) : ∀ K : Nat, 0 < K → ∃ p, p < K ∧ ∀ q, q < K → T q * d p ≤ T p * d q := by
  intro K
  induction K with
  | zero => intro h; omega
  | succ K ih =>
    intro _
    by_cases hK : K = 0
    · subst hK
      exact ⟨0, by omega, fun q hq => by have : q = 0 := by omega
                                         subst this; exact Int.le_refl _⟩
    · obtain ⟨p, hp, hm⟩ := ih (by omega)
      by_cases hc : T K * d p ≤ T p * d K
      · refine ⟨p, by omega, fun q hq => ?_⟩
        by_cases e : q = K
        · subst e; exact hc
        · exact hm q (by omega)
      · refine ⟨K, by omega, fun q hq => ?_⟩
        by_cases e : q = K
        · subst e; exact Int.le_refl _
        · exact po_trans (hd q) (hd p) (hd K) (hm q (by omega)) (by omega)
/-- there is a plan that is best for all states at once -/
theorem po_best {mm : Nat → Nat → Nat} {nn : Nat → Nat → Nat → Nat} {ww : Nat → Nat → Nat → Int} (hx : ∀ s a k, nn s a k < n) (hp : ∀ s a k, s < n → k < mm s a → 0 < ww s a k)
    {ch : Nat → Nat → Nat} {K : Nat} (hK : 0 < K) {g : Nat → Nat → Int} {d : Nat → Int}
    (H : ∀ p, po_ok n G (fun s => mm s (ch p s)) (fun s => nn s (ch p s)) (fun s => ww s (ch p s)) (g p) (d p))
    (hsw : ∀ p, p < K → ∀ s0, s0 < n → ∀ q', 0 < mm s0 (ch q' s0) → ∃ q, q < K ∧ ch q s0 = ch q' s0 ∧ ∀ s, ¬ s = s0 → ch q s = ch p s) :
    ∃ p, p < K ∧ ∀ q s, s < n → g q s * d p ≤ g p s * d q := by
  obtain ⟨p, hpK, hm⟩ := po_argmax (T := fun p => fs_sum (g p) n) (d := d) (fun p => (H p).1) K hK
  refine ⟨p, hpK, fun q s hs => ?_⟩
  have := po_opt hx hp (π' := ch q) (g := g p) (g' := g q) (d := d p) (d' := d q) (H p).1 (fun s hs => ((H p).2.1 s hs).1) (H p).2.2.1 (H q) ?_ s hs
  · omega
  · intro s0 hs0 hG0
    apply Int.not_lt.mp
    intro hlt
    have hmm : 0 < mm s0 (ch q s0) := by
      apply Nat.pos_of_ne_zero
      intro e
      rw [e] at hlt
      have : (0 : Int) * g p s0 < 0 := hlt
      omega
    obtain ⟨q2, hq2, e1, e2⟩ := hsw p hpK s0 hs0 q hmm
    rw [← e1] at hlt
    have hu := po_up1 hx hp hs0 hG0 e2 (H p) (H q2) hlt
    have hs2 := po_up2 hx hp hs0 hG0 (H q2) (H q2).1 hlt hu
    have h1 := hm q2 hq2
    have h2 : fs_sum (fun s => d q2 * g p s) n < fs_sum (fun s => d p * g q2 s) n := by
      refine fs_sum_lt n (fun s hs => ?_) s0 hs0 ?_
      · have := hu s hs
        show d q2 * g p s ≤ d p * g q2 s
        rw [Int.mul_comm, Int.mul_comm (d p)]; omega
      · show d q2 * g p s0 < d p * g q2 s0
        rw [Int.mul_comm, Int.mul_comm (d p)]; exact hs2
    rw [fs_sum_mul, fs_sum_mul, Int.mul_comm, Int.mul_comm (d p)] at h2
    try dsimp only at h1
    have h3 : fs_sum (g q2) n * d p ≤ fs_sum (g p) n * d q2 := h1
    have h4 : fs_sum (g p) n * d q2 < fs_sum (g q2) n * d p := h2
    omega
end
