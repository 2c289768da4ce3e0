section
variable {n : Nat} {m : Nat → Nat} {nx : Nat → Nat → Nat} {w : Nat → Nat → Int} {G M : Nat → Bool}
/-- 1 at k, else 0 -/
def fs_dl (k : Nat) : Nat → Int := fun t => if t = k then 1 else 0
theorem fs_dl_eq (k : Nat) : fs_dl k k = 1 := if_pos rfl
theorem fs_dl_ne {k t : Nat} (h : ¬ t = k) : fs_dl k t = 0 := if_neg h
theorem fs_star (H : fs_ok n m nx w G M) {k : Nat} (hk : k < n) (hM : M k = true) (h : Nat → Int) : ∀ x, x < n →
    fs_D n m nx w (fs_lv M k) * fs_V n m nx w (fs_lv M (k + 1)) h x = fs_D n m nx w (fs_lv M (k + 1)) * fs_V n m nx w (fs_lv M k) h x + (fs_V n m nx w (fs_lv M (k + 1)) h k - fs_D n m nx w (fs_lv M (k + 1)) * h k) * fs_V n m nx w (fs_lv M k) (fs_dl k) x := by
  refine fs_uniq H (act := fs_lv M k) (fun s e => (fs_lv_t e).2) (fs_hm_mul _ (fs_hm_V H (fun s e => fs_lv_i (by have := (fs_lv_t e).1; omega) (fs_lv_t e).2) h)) (fs_hm_add (fs_hm_mul _ (fs_hm_V H (fun s e => e) h)) (fs_hm_mul _ (fs_hm_V H (fun s e => e) (fs_dl k)))) (fun s hs e => ?_)
  try dsimp only
  rw [fs_V_bd _ _ _ _ h e, fs_V_bd _ _ _ _ (fs_dl k) e]
  by_cases es : s = k
  · subst es
    rw [fs_dl_eq]; grind
  · have e2 : fs_lv M (k + 1) s = false := fs_lv_f (fun z => by
      have h1 : fs_lv M k s = true := fs_lv_i (by omega) z.2
      rw [e] at h1; exact absurd h1 (by decide))
    rw [fs_V_bd _ _ _ _ h e2, fs_dl_ne es]; grind
/-- what column j asks of a state at its end, k columns being cleared -/
def fs_th (n : Nat) (G : Nat → Bool) (k j : Nat) : Nat → Int := fun t => if j = n then (if t < k ∧ G t = true then 1 else 0) else (if k ≤ j ∧ t = j then -1 else 0)
/-- the numbers of the equations, k columns being cleared: off the diagonal -/
noncomputable def fs_U (n : Nat) (m : Nat → Nat) (nx : Nat → Nat → Nat) (w : Nat → Nat → Int) (G M : Nat → Bool) (k i j : Nat) : Int :=
  if i < k then fs_V n m nx w (fs_lv M k) (fs_th n G k j) i
  else if M i = true then fs_sum (fun l => w i l * fs_V n m nx w (fs_lv M k) (fs_th n G k j) (nx i l)) (m i)
  else fs_D n m nx w (fs_lv M k) * (if j = n ∧ G i = true then 1 else 0)
/-- the factor on the diagonal -/
def fs_cf (m : Nat → Nat) (w : Nat → Nat → Int) (M : Nat → Bool) (k i : Nat) : Int := if k ≤ i ∧ M i = true then fs_sum (fun l => w i l) (m i) else 1
/-- the numbers of the equations, k columns being cleared -/
noncomputable def fs_R (n : Nat) (m : Nat → Nat) (nx : Nat → Nat → Nat) (w : Nat → Nat → Int) (G M : Nat → Bool) (k i j : Nat) : Int :=
  (if i = j then fs_D n m nx w (fs_lv M k) * fs_cf m w M k i else 0) + fs_U n m nx w G M k i j
theorem fs_th_k {k : Nat} (hk : k < n) (t : Nat) : fs_th n G k k t = -1 * fs_dl k t := by
  unfold fs_th fs_dl
  rw [if_neg (by omega : ¬ k = n)]
  by_cases e : t = k
  · rw [if_pos ⟨Nat.le_refl _, e⟩, if_pos e]; rfl
  · rw [if_neg (fun z => e z.2), if_neg e]; rfl
theorem fs_th_k1 {k : Nat} (hk : k < n) (t : Nat) : fs_th n G (k + 1) k t = 0 := by
  unfold fs_th
  rw [if_neg (by omega : ¬ k = n), if_neg (by omega)]
theorem fs_th_ne {k j : Nat} (hj : ¬ j = k) (hG : j = n → G k = false) (t : Nat) : fs_th n G (k + 1) j t = fs_th n G k j t := by
  unfold fs_th
  by_cases e : j = n
  · rw [if_pos e, if_pos e]
    have hG' := hG e
    by_cases h1 : t < k ∧ G t = true
    · rw [if_pos h1, if_pos ⟨by omega, h1.2⟩]
    · rw [if_neg h1, if_neg (fun z => h1 ⟨by
        have h2 := z.1
        by_cases et : t = k
        · subst et; rw [hG'] at z; exact absurd z.2 (by decide)
        · omega, z.2⟩)]
  · rw [if_neg e, if_neg e]
    by_cases h1 : k ≤ j ∧ t = j
    · rw [if_pos h1, if_pos ⟨by omega, h1.2⟩]
    · rw [if_neg h1, if_neg (fun z => h1 ⟨by omega, z.2⟩)]
theorem fs_th_n {k : Nat} (hG : G k = true) (t : Nat) : fs_th n G (k + 1) n t = fs_th n G k n t + fs_dl k t := by
  unfold fs_th fs_dl
  rw [if_pos rfl, if_pos rfl]
  by_cases e : t = k
  · subst e
    rw [if_pos ⟨by omega, hG⟩, if_neg (by omega), if_pos rfl]; rfl
  · rw [if_neg e]
    by_cases h1 : t < k ∧ G t = true
    · rw [if_pos h1, if_pos ⟨by omega, h1.2⟩]; rfl
    · rw [if_neg h1, if_neg (fun z => h1 ⟨by omega, z.2⟩)]; rfl
theorem fs_th_at {k j : Nat} (hG : G k = false) : fs_th n G (k + 1) j k = 0 := by
  unfold fs_th
  by_cases e : j = n
  · rw [if_pos e, if_neg (fun z => by rw [hG] at z; exact absurd z.2 (by decide))]
  · rw [if_neg e, if_neg (by omega)]
/-- the pivot is the next weight -/
theorem fs_R_kk (H : fs_ok n m nx w G M) {k : Nat} (hk : k < n) : fs_R n m nx w G M k k k = fs_D n m nx w (fs_lv M (k + 1)) := by
  unfold fs_R fs_U fs_cf
  rw [if_pos rfl, if_neg (by omega : ¬ k < k)]
  cases hM : M k with
  | false =>
    rw [if_neg (fun z => absurd z.2 (by decide)), if_neg (by decide), if_neg (by omega : ¬ (k = n ∧ _)), fs_lv_no hM]
    omega
  | true =>
    rw [if_pos ⟨Nat.le_refl _, rfl⟩, if_pos rfl, fs_D_s H hk hM, ← fs_sum_mul, ← fs_sum_add]
    refine fs_sum_congr _ (fun l _ => ?_)
    have e1 : fs_V n m nx w (fs_lv M k) (fun t => if t = k then 0 else 1) (nx k l) = fs_D n m nx w (fs_lv M k) + fs_V n m nx w (fs_lv M k) (fs_th n G k k) (nx k l) := by
      rw [← fs_V_one n m nx w (fs_lv M k) (nx k l), ← fs_V_add]
      refine fs_V_congr (fun t => ?_) _
      rw [fs_th_k hk]
      unfold fs_dl
      by_cases e : t = k
      · rw [if_pos e, if_pos e]; rfl
      · rw [if_neg e, if_neg e]; rfl
    try dsimp only
    rw [e1]; grind
/-- column k, off the diagonal -/
theorem fs_R_ik {k : Nat} (hk : k < n) {i : Nat} (hi : ¬ i = k) : fs_R n m nx w G M k i k = - (if i < k then fs_V n m nx w (fs_lv M k) (fs_dl k) i else if M i = true then fs_sum (fun l => w i l * fs_V n m nx w (fs_lv M k) (fs_dl k) (nx i l)) (m i) else 0) := by
  have e1 : ∀ x, fs_V n m nx w (fs_lv M k) (fs_th n G k k) x = -1 * fs_V n m nx w (fs_lv M k) (fs_dl k) x := by
    intro x
    rw [← fs_V_mul]
    exact fs_V_congr (fs_th_k hk) x
  unfold fs_R fs_U
  rw [if_neg hi]
  by_cases h1 : i < k
  · rw [if_pos h1, if_pos h1, e1]; omega
  · rw [if_neg h1, if_neg h1]
    by_cases h2 : M i = true
    · rw [if_pos h2, if_pos h2, fs_sum_congr (g := fun l => -1 * (w i l * fs_V n m nx w (fs_lv M k) (fs_dl k) (nx i l))) (m i) (fun l _ => by (try dsimp only); rw [e1]; grind), fs_sum_mul]
      omega
    · rw [if_neg h2, if_neg h2, if_neg (by omega : ¬ (k = n ∧ _))]; omega
/-- row k stays -/
theorem fs_R_row (H : fs_ok n m nx w G M) {k : Nat} (hk : k < n) {j : Nat} : fs_R n m nx w G M (k + 1) k j = fs_R n m nx w G M k k j := by
  by_cases ej : j = k
  · subst ej
    rw [fs_R_kk H hk]
    unfold fs_R fs_U fs_cf
    rw [if_pos rfl, if_pos (by omega : j < j + 1), if_neg (by omega : ¬ (j + 1 ≤ j ∧ _)), fs_V_congr (g := fun _ => 0) (fs_th_k1 hk), fs_V_zero]
    omega
  · unfold fs_R fs_U
    rw [if_neg (fun z : k = j => ej z.symm), if_neg (fun z : k = j => ej z.symm), if_pos (by omega : k < k + 1), if_neg (by omega : ¬ k < k)]
    cases hM : M k with
    | false =>
      rw [if_neg (by decide), fs_lv_no hM, fs_V_bd _ _ _ _ _ (fs_lv_f (by omega))]
      have e1 : fs_th n G (k + 1) j k = if j = n ∧ G k = true then 1 else 0 := by
        unfold fs_th
        by_cases e : j = n
        · rw [if_pos e]
          by_cases hG : G k = true
          · rw [if_pos ⟨by omega, hG⟩, if_pos ⟨e, hG⟩]
          · rw [if_neg (fun z => hG z.2), if_neg (fun z => hG z.2)]
        · rw [if_neg e, if_neg (by omega), if_neg (fun z => e z.1)]
      rw [e1]
    | true =>
      have hG : G k = false := H.2.2.2.2.2.1 k hM
      rw [if_pos rfl, fs_V_top m w _ H.1 H.2.1 hk (fs_lv_i (by omega) hM), fs_lv_off]
      have e1 : fs_sum (fun r => w k r * fs_V n m nx w (fs_lv M k) (fun t => if t = k then 0 else fs_th n G (k + 1) j t) (nx k r)) (m k) = fs_sum (fun l => w k l * fs_V n m nx w (fs_lv M k) (fs_th n G k j) (nx k l)) (m k) := by
        refine fs_sum_congr _ (fun l _ => ?_)
        try dsimp only
        rw [fs_V_congr (g := fs_th n G k j) (fun t => ?_)]
        rw [← fs_th_ne ej (fun _ => hG)]
        by_cases e : t = k
        · subst e; rw [if_pos rfl, fs_th_at hG]
        · rw [if_neg e]
      rw [e1]
/-- the step of the elimination -/
theorem fs_bar (H : fs_ok n m nx w G M) {k : Nat} (hk : k < n) {i j : Nat} (hin : i < n) (hi : ¬ i = k) : fs_D n m nx w (fs_lv M k) * fs_R n m nx w G M (k + 1) i j = fs_R n m nx w G M k k k * fs_R n m nx w G M k i j - fs_R n m nx w G M k i k * fs_R n m nx w G M k k j := by
  by_cases ej : j = k
  · subst ej
    have e0 : fs_R n m nx w G M (j + 1) i j = 0 := by
      unfold fs_R fs_U
      rw [if_neg hi]
      by_cases h1 : i < j + 1
      · rw [if_pos h1, fs_V_congr (g := fun _ => 0) (fs_th_k1 hk), fs_V_zero]; rfl
      · rw [if_neg h1]
        by_cases h2 : M i = true
        · rw [if_pos h2, fs_sum_congr (g := fun _ => 0) (m i) (fun l _ => by (try dsimp only); rw [fs_V_congr (g := fun _ => 0) (fs_th_k1 hk), fs_V_zero, Int.mul_zero]), fs_sum_zero]; rfl
        · rw [if_neg h2, if_neg (by omega : ¬ (j = n ∧ _))]; omega
    rw [e0]; grind
  · have hrow : fs_R n m nx w G M k k j = fs_V n m nx w (fs_lv M (k + 1)) (fs_th n G (k + 1) j) k := by
      rw [← fs_R_row H hk]
      unfold fs_R fs_U
      rw [if_neg (fun z : k = j => ej z.symm), if_pos (by omega : k < k + 1), Int.zero_add]
    have hcf : fs_cf m w M (k + 1) i = fs_cf m w M k i := by
      unfold fs_cf
      by_cases h : k ≤ i ∧ M i = true
      · rw [if_pos h, if_pos ⟨by omega, h.2⟩]
      · rw [if_neg h, if_neg (fun z => h ⟨by omega, z.2⟩)]
    -- the step at a state x
    have hst : ∀ x, x < n → fs_D n m nx w (fs_lv M k) * fs_V n m nx w (fs_lv M (k + 1)) (fs_th n G (k + 1) j) x = fs_D n m nx w (fs_lv M (k + 1)) * fs_V n m nx w (fs_lv M k) (fs_th n G k j) x + fs_R n m nx w G M k k j * fs_V n m nx w (fs_lv M k) (fs_dl k) x := by
      intro x hx
      cases hM : M k with
      | true =>
        have hG : G k = false := H.2.2.2.2.2.1 k hM
        have := fs_star H hk hM (fs_th n G (k + 1) j) x hx
        rw [this, hrow, fs_th_at hG, fs_V_congr (act := fs_lv M k) (g := fs_th n G k j) (fun t => fs_th_ne ej (fun _ => hG) t)]
        grind
      | false =>
        rw [hrow, fs_lv_no hM, fs_V_bd (x := k) _ _ _ _ _ (fs_lv_f (by omega))]
        by_cases hc : j = n ∧ G k = true
        · obtain ⟨e, hG⟩ := hc
          subst e
          rw [fs_V_congr (fs_th_n hG) x, fs_V_add, fs_th_n hG]
          have e2 : fs_th j G k j k = 0 := by
            unfold fs_th
            rw [if_pos rfl, if_neg (by omega)]
          rw [e2, fs_dl_eq]; grind
        · have hG : j = n → G k = false := by
            intro e
            cases hG : G k with
            | false => rfl
            | true => exact absurd ⟨e, hG⟩ hc
          have e2 : fs_th n G (k + 1) j k = 0 := by
            unfold fs_th
            by_cases e : j = n
            · rw [if_pos e, if_neg (fun z => by rw [hG e] at z; exact absurd z.2 (by decide))]
            · rw [if_neg e, if_neg (by omega)]
          rw [e2, fs_V_congr (g := fs_th n G k j) (fun t => fs_th_ne ej hG t)]
          grind
    rw [fs_R_kk H hk, fs_R_ik hk hi]
    by_cases h1 : i < k
    · rw [if_pos h1]
      have h2 := hst i hin
      unfold fs_R fs_U
      rw [if_pos (by omega : i < k + 1), if_pos h1, hcf]
      unfold fs_R fs_U at h2
      by_cases e : i = j
      · rw [if_pos e, if_pos e]; grind
      · rw [if_neg e, if_neg e]; grind
    · rw [if_neg h1]
      by_cases h2 : M i = true
      · rw [if_pos h2]
        have h3 : fs_D n m nx w (fs_lv M k) * fs_sum (fun l => w i l * fs_V n m nx w (fs_lv M (k + 1)) (fs_th n G (k + 1) j) (nx i l)) (m i) = fs_D n m nx w (fs_lv M (k + 1)) * fs_sum (fun l => w i l * fs_V n m nx w (fs_lv M k) (fs_th n G k j) (nx i l)) (m i) + fs_R n m nx w G M k k j * fs_sum (fun l => w i l * fs_V n m nx w (fs_lv M k) (fs_dl k) (nx i l)) (m i) := by
          rw [← fs_sum_mul, ← fs_sum_mul, ← fs_sum_mul, ← fs_sum_add]
          refine fs_sum_congr _ (fun l _ => ?_)
          have := hst (nx i l) (H.2.1 i l)
          try dsimp only
          grind
        have e4 : fs_R n m nx w G M (k + 1) i j = (if i = j then fs_D n m nx w (fs_lv M (k + 1)) * fs_cf m w M k i else 0) + fs_sum (fun l => w i l * fs_V n m nx w (fs_lv M (k + 1)) (fs_th n G (k + 1) j) (nx i l)) (m i) := by
          unfold fs_R fs_U
          rw [if_neg (by omega : ¬ i < k + 1), if_pos h2, hcf]
        have e5 : fs_R n m nx w G M k i j = (if i = j then fs_D n m nx w (fs_lv M k) * fs_cf m w M k i else 0) + fs_sum (fun l => w i l * fs_V n m nx w (fs_lv M k) (fs_th n G k j) (nx i l)) (m i) := by
          unfold fs_R fs_U
          rw [if_neg h1, if_pos h2]
        rw [e4, e5]
        by_cases e : i = j
        · rw [if_pos e, if_pos e]; grind
        · rw [if_neg e, if_neg e]; grind
      · rw [if_neg h2]
        have e4 : fs_R n m nx w G M (k + 1) i j = (if i = j then fs_D n m nx w (fs_lv M (k + 1)) * fs_cf m w M k i else 0) + fs_D n m nx w (fs_lv M (k + 1)) * (if j = n ∧ G i = true then 1 else 0) := by
          unfold fs_R fs_U
          rw [if_neg (by omega : ¬ i < k + 1), if_neg h2, hcf]
        have e5 : fs_R n m nx w G M k i j = (if i = j then fs_D n m nx w (fs_lv M k) * fs_cf m w M k i else 0) + fs_D n m nx w (fs_lv M k) * (if j = n ∧ G i = true then 1 else 0) := by
          unfold fs_R fs_U
          rw [if_neg h1, if_neg h2]
        rw [e4, e5]
        by_cases e : i = j
        · rw [if_pos e, if_pos e]; grind
        · rw [if_neg e, if_neg e]; grind
/-- every number on the way is small -/
theorem fs_R_le (H : fs_ok n m nx w G M) {k i j : Nat} (hk : k ≤ n) (hi : i < n) : - (27 ^ 6) ≤ fs_R n m nx w G M k i j ∧ fs_R n m nx w G M k i j ≤ 27 ^ 6 := by
  have hw : ∀ s k, 0 ≤ w s k := fun s k => (H.2.2.1 s k).1
  have hD := fs_D_pos H k hk
  have hDl := fs_D_le H k hk
  have hn := H.1
  have hD6 : fs_D n m nx w (fs_lv M k) ≤ 27 ^ 6 := by
    have h4 : k = 0 ∨ k = 1 ∨ k = 2 ∨ k = 3 ∨ k = 4 ∨ k = 5 ∨ k = 6 := by omega
    rcases h4 with e | e | e | e | e | e | e <;> rw [e] at hDl ⊢ <;> omega
  have hV : ∀ x, (j = n → 0 ≤ fs_V n m nx w (fs_lv M k) (fs_th n G k j) x ∧ fs_V n m nx w (fs_lv M k) (fs_th n G k j) x ≤ fs_D n m nx w (fs_lv M k)) ∧ (¬ j = n → fs_V n m nx w (fs_lv M k) (fs_th n G k j) x ≤ 0 ∧ - fs_D n m nx w (fs_lv M k) ≤ fs_V n m nx w (fs_lv M k) (fs_th n G k j) x) := by
    intro x
    refine ⟨fun e => ⟨fs_V_nn hw _ (fun t => ?_) x, fs_V_leD hw _ (fun t => ?_) x⟩, fun e => ⟨?_, ?_⟩⟩
    · unfold fs_th; rw [if_pos e]; split <;> decide
    · unfold fs_th; rw [if_pos e]; split <;> decide
    · have h1 := fs_V_le (n := n) (m := m) (nx := nx) hw (fs_lv M k) (h := fs_th n G k j) (g := fun _ => 0) (fun t => by unfold fs_th; rw [if_neg e]; split <;> decide) x
      rw [fs_V_zero] at h1
      exact h1
    · have h1 := fs_V_le (n := n) (m := m) (nx := nx) hw (fs_lv M k) (h := fun t => -1 * (fun _ => 1) t) (g := fs_th n G k j) (fun t => by unfold fs_th; rw [if_neg e]; show (-1 : Int) ≤ _; split <;> decide) x
      rw [fs_V_mul, fs_V_one] at h1
      omega
  unfold fs_R fs_U
  by_cases h1 : i < k
  · rw [if_pos h1]
    have hc : fs_cf m w M k i = 1 := if_neg (by omega)
    rw [hc]
    by_cases ej : j = n
    · have h2 := (hV i).1 ej
      rw [if_neg (by omega : ¬ i = j)]; omega
    · have h2 := (hV i).2 ej
      by_cases e : i = j
      · rw [if_pos e]; omega
      · rw [if_neg e]; omega
  · rw [if_neg h1]
    have hD5 : 27 * fs_D n m nx w (fs_lv M k) ≤ 27 ^ 6 := by
      have h4 : k = 0 ∨ k = 1 ∨ k = 2 ∨ k = 3 ∨ k = 4 ∨ k = 5 := by omega
      rcases h4 with e | e | e | e | e | e <;> rw [e] at hDl ⊢ <;> omega
    by_cases h2 : M i = true
    · rw [if_pos h2]
      have hc : fs_cf m w M k i = fs_sum (fun l => w i l) (m i) := if_pos ⟨by omega, h2⟩
      rw [hc]
      by_cases ej : j = n
      · rw [if_neg (by omega : ¬ i = j)]
        have h3 := fs_wsum_le H i (u := fun l => fs_V n m nx w (fs_lv M k) (fs_th n G k j) (nx i l)) (Int.le_of_lt hD) (fun l => (hV (nx i l)).1 ej)
        try dsimp only at h3
        omega
      · have e1 : fs_sum (fun l => w i l * fs_V n m nx w (fs_lv M k) (fs_th n G k j) (nx i l)) (m i) = -1 * fs_sum (fun l => w i l * (-1 * fs_V n m nx w (fs_lv M k) (fs_th n G k j) (nx i l))) (m i) := by
          rw [← fs_sum_mul]
          exact fs_sum_congr _ (fun l _ => by (try dsimp only); grind)
        have h3 := fs_wsum_le H i (u := fun l => -1 * fs_V n m nx w (fs_lv M k) (fs_th n G k j) (nx i l)) (Int.le_of_lt hD) (fun l => by have := (hV (nx i l)).2 ej; (try dsimp only); omega)
        try dsimp only at h3
        rw [e1]
        have h5 := fs_wsum H i
        have h6 := Int.mul_le_mul_of_nonneg_left h5.2 (Int.le_of_lt hD)
        have h7 := Int.mul_nonneg (Int.le_of_lt hD) h5.1
        by_cases e : i = j
        · rw [if_pos e]
          omega
        · rw [if_neg e]; omega
    · rw [if_neg h2]
      have hc : fs_cf m w M k i = 1 := if_neg (fun z => h2 z.2)
      rw [hc]
      by_cases e : i = j
      · rw [if_pos e, if_neg (by omega : ¬ (j = n ∧ _))]; omega
      · rw [if_neg e]
        split <;> omega
/-- the equations as written -/
theorem fs_R_0 (i j : Nat) (hij : i = j → ¬ j = n) : fs_R n m nx w G M 0 i j = if M i = true then fs_sum (fun l => w i l * ((if i = j then 1 else 0) - (if ¬ j = n ∧ nx i l = j then 1 else 0))) (m i) else (if i = j then 1 else 0) + (if j = n ∧ G i = true then 1 else 0) := by
  unfold fs_R fs_U
  rw [if_neg (by omega : ¬ i < 0), fs_D_0]
  by_cases h : M i = true
  · have hcf : fs_cf m w M 0 i = fs_sum (fun l => w i l) (m i) := if_pos ⟨by omega, h⟩
    rw [if_pos h, if_pos h, hcf, Int.one_mul]
    have e1 : fs_sum (fun l => w i l * fs_V n m nx w (fs_lv M 0) (fs_th n G 0 j) (nx i l)) (m i) = fs_sum (fun l => w i l * - (if ¬ j = n ∧ nx i l = j then 1 else 0)) (m i) := by
      refine fs_sum_congr _ (fun l _ => ?_)
      try dsimp only
      rw [fs_V_bd _ _ _ _ _ (fs_lv_f (by omega)), fs_D_0]
      unfold fs_th
      by_cases e : j = n
      · rw [if_pos e, if_neg (by omega), if_neg (fun z => z.1 e)]; rfl
      · rw [if_neg e]
        by_cases e2 : nx i l = j
        · rw [if_pos ⟨by omega, e2⟩, if_pos ⟨e, e2⟩]; rfl
        · rw [if_neg (fun z => e2 z.2), if_neg (fun z => e2 z.2)]; rfl
    rw [e1]
    by_cases e : i = j
    · rw [if_pos e, ← fs_sum_add]
      exact fs_sum_congr _ (fun l _ => by (try dsimp only); rw [if_pos e]; grind)
    · rw [if_neg e, Int.zero_add]
      exact fs_sum_congr _ (fun l _ => by (try dsimp only); rw [if_neg e]; grind)
  · have hcf : fs_cf m w M 0 i = 1 := if_neg (fun z => h z.2)
    rw [if_neg h, if_neg h, hcf]
    omega
/-- the numbers at the end -/
theorem fs_R_n {i j : Nat} (hi : i < n) : (j < n → fs_R n m nx w G M n i j = if i = j then fs_D n m nx w (fs_lv M n) else 0) ∧ (j = n → fs_R n m nx w G M n i j = fs_V n m nx w (fs_lv M n) (fun t => if t < n ∧ G t = true then 1 else 0) i) := by
  have hc : fs_cf m w M n i = 1 := if_neg (by omega)
  unfold fs_R fs_U
  rw [hc, if_pos hi, Int.mul_one]
  refine ⟨fun h => ?_, fun h => ?_⟩
  · rw [fs_V_congr (h := fs_th n G n j) (g := fun _ => 0) (fun t => by unfold fs_th; rw [if_neg (by omega : ¬ j = n), if_neg (by omega)]), fs_V_zero]
    omega
  · rw [if_neg (by omega : ¬ i = j), Int.zero_add]
    exact fs_V_congr (fun t => by unfold fs_th; rw [if_pos h]) i
end
