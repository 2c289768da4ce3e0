/-- the graph's data are sound: n states, cnt the ways of each action, nxt and shr the ways' cells -/
def cf_ok (n : Nat) (cnt nxt shr : Nat → Nat) : Prop :=
  2 ≤ n ∧ n ≤ 6 ∧ (∀ c, cnt c ≤ 3) ∧ (∀ c, nxt c < n) ∧ (∀ c, shr c ≤ 9) ∧ (∀ c k, k < cnt c → 0 < shr (3 * c + k)) ∧ (∀ s, cnt (2 * s) = 0 → cnt (2 * s + 1) = 0)
/-- the ways of the chosen actions -/
def cf_m (cnt : Nat → Nat) (π : Nat → Nat) (s : Nat) : Nat := cnt (2 * s + π s)
def cf_nx (nxt : Nat → Nat) (π : Nat → Nat) (s k : Nat) : Nat := nxt (6 * s + 3 * π s + k)
def cf_w (shr : Nat → Nat) (π : Nat → Nat) (s k : Nat) : Int := (shr (6 * s + 3 * π s + k) : Int)
/-- the action that plan p chooses -/
def cf_ch (cnt : Nat → Nat) (p s : Nat) : Nat := if p.testBit s = true ∧ 0 < cnt (2 * s + 1) then 1 else 0
theorem cf_ch_le (cnt : Nat → Nat) (p s : Nat) : cf_ch cnt p s ≤ 1 := by
  unfold cf_ch
  split <;> omega
/-- s is in the least set that holds the goals and all that lead into it -/
def cf_RS (n : Nat) (m : Nat → Nat) (nx : Nat → Nat → Nat) (G : Nat → Bool) (s : Nat) : Prop :=
  ∀ P : Nat → Prop, (∀ s, s < n → G s = true → P s) → (∀ s k, s < n → k < m s → P (nx s k) → P s) → P s
noncomputable def cf_M (n : Nat) (m : Nat → Nat) (nx : Nat → Nat → Nat) (G : Nat → Bool) (s : Nat) : Bool := @decide (cf_RS n m nx G s ∧ G s = false) (Classical.propDecidable _)
theorem cf_M_t {n : Nat} {m : Nat → Nat} {nx : Nat → Nat → Nat} {G : Nat → Bool} {s : Nat} : cf_M n m nx G s = true ↔ cf_RS n m nx G s ∧ G s = false := by
  unfold cf_M
  exact @decide_eq_true_iff _ (Classical.propDecidable _)
theorem cf_RS_g {n : Nat} {m : Nat → Nat} {nx : Nat → Nat → Nat} {G : Nat → Bool} {s : Nat} (hs : s < n) (h : G s = true) : cf_RS n m nx G s := fun _ h1 _ => h1 s hs h
theorem cf_RS_s {n : Nat} {m : Nat → Nat} {nx : Nat → Nat → Nat} {G : Nat → Bool} {s k : Nat} (hs : s < n) (hk : k < m s) (h : cf_RS n m nx G (nx s k)) : cf_RS n m nx G s := fun P h1 h2 => h2 s k hs hk (h P h1 h2)
theorem cf_fs {n : Nat} {cnt nxt shr : Nat → Nat} (h : cf_ok n cnt nxt shr) (G : Nat → Bool) (π : Nat → Nat) : fs_ok n (cf_m cnt π) (cf_nx nxt π) (cf_w shr π) G (cf_M n (cf_m cnt π) (cf_nx nxt π) G) := by
  obtain ⟨h2, h6, hc, hx, hr, hp, h0⟩ := h
  refine ⟨h6, fun s k => hx _, fun s k => ?_, fun s k hs hk => ?_, fun s => hc _, fun s hM => (cf_M_t.mp hM).2, fun P h1 h2 s hs hM => (cf_M_t.mp hM).1 P h1 h2⟩
  · have := hr (6 * s + 3 * π s + k)
    unfold cf_w
    omega
  · have := hp (2 * s + π s) k hk
    unfold cf_w
    have e : 3 * (2 * s + π s) + k = 6 * s + 3 * π s + k := by omega
    rw [e] at this
    omega
/-- the goals as values -/
def cf_gl (n : Nat) (G : Nat → Bool) : Nat → Int := fun t => if t < n ∧ G t = true then 1 else 0
noncomputable def cf_g (n : Nat) (cnt nxt shr : Nat → Nat) (G : Nat → Bool) (π : Nat → Nat) (s : Nat) : Int := fs_V n (cf_m cnt π) (cf_nx nxt π) (cf_w shr π) (fs_lv (cf_M n (cf_m cnt π) (cf_nx nxt π) G) n) (cf_gl n G) s
noncomputable def cf_d (n : Nat) (cnt nxt shr : Nat → Nat) (G : Nat → Bool) (π : Nat → Nat) : Int := fs_D n (cf_m cnt π) (cf_nx nxt π) (cf_w shr π) (fs_lv (cf_M n (cf_m cnt π) (cf_nx nxt π) G) n)
theorem cf_gl_01 (n : Nat) (G : Nat → Bool) (t : Nat) : 0 ≤ cf_gl n G t ∧ cf_gl n G t ≤ 1 := by
  unfold cf_gl
  split <;> omega
theorem cf_po {n : Nat} {cnt nxt shr : Nat → Nat} (h : cf_ok n cnt nxt shr) (G : Nat → Bool) (π : Nat → Nat) : po_ok n G (cf_m cnt π) (cf_nx nxt π) (cf_w shr π) (cf_g n cnt nxt shr G π) (cf_d n cnt nxt shr G π) := by
  have H := cf_fs h G π
  have hw : ∀ s k, 0 ≤ cf_w shr π s k := fun s k => (H.2.2.1 s k).1
  have hd : 0 < cf_d n cnt nxt shr G π := fs_D_pos H n (Nat.le_refl _)
  have hdead : ∀ s, ¬ G s = true → ¬ cf_RS n (cf_m cnt π) (cf_nx nxt π) G s → cf_g n cnt nxt shr G π s = 0 := by
    intro s h1 h2
    unfold cf_g
    rw [fs_V_bd _ _ _ _ _ (fs_lv_f (fun z => h2 (cf_M_t.mp z.2).1))]
    unfold cf_gl
    rw [if_neg (fun z => h1 z.2), Int.mul_zero]
  refine ⟨hd, fun s _ => ⟨fs_V_nn hw _ (fun t => (cf_gl_01 n G t).1) s, fs_V_leD hw _ (fun t => (cf_gl_01 n G t).2) s⟩, fun s hs hG => ?_, fun s hs hG => ?_, fun P h1 h2 s hs hg => ?_⟩
  · unfold cf_g cf_d
    rw [fs_V_bd _ _ _ _ _ (fs_lv_f (fun z => by have := (cf_M_t.mp z.2).2; rw [hG] at this; exact absurd this (by decide)))]
    unfold cf_gl
    rw [if_pos ⟨hs, hG⟩, Int.mul_one]
  · by_cases hR : cf_RS n (cf_m cnt π) (cf_nx nxt π) G s
    · exact fs_V_harm _ _ _ H.1 H.2.1 hs (fs_lv_i hs (cf_M_t.mpr ⟨hR, hG⟩))
    · rw [hdead s (by rw [hG]; decide) hR, Int.mul_zero, ← fs_sum_zero (cf_m cnt π s)]
      refine fs_sum_congr _ (fun l hl => ?_)
      have h3 : ¬ cf_RS n (cf_m cnt π) (cf_nx nxt π) G (cf_nx nxt π s l) := fun z => hR (cf_RS_s hs hl z)
      have h4 : ¬ G (cf_nx nxt π s l) = true := fun z => h3 (cf_RS_g (H.2.1 s l) z)
      rw [hdead _ h4 h3, Int.mul_zero]
  · by_cases hR : cf_RS n (cf_m cnt π) (cf_nx nxt π) G s
    · exact hR P h1 h2
    · by_cases hG : G s = true
      · exact h1 s hs hG
      · rw [hdead s hG hR] at hg; omega
theorem cf_d_le {n : Nat} {cnt nxt shr : Nat → Nat} (h : cf_ok n cnt nxt shr) (G : Nat → Bool) (π : Nat → Nat) : cf_d n cnt nxt shr G π ≤ 27 ^ 6 := by
  have H := cf_fs h G π
  have hDl := fs_D_le H n (Nat.le_refl _)
  have hn := H.1
  unfold cf_d
  have h4 : n = 0 ∨ n = 1 ∨ n = 2 ∨ n = 3 ∨ n = 4 ∨ n = 5 ∨ n = 6 := by omega
  rcases h4 with e | e | e | e | e | e | e <;> subst e <;> omega
theorem cf_sw {n : Nat} {cnt : Nat → Nat} {p : Nat} (hp : p < 2 ^ n) {s0 : Nat} (hs0 : s0 < n) (q' : Nat) : ∃ q, q < 2 ^ n ∧ cf_ch cnt q s0 = cf_ch cnt q' s0 ∧ ∀ s, ¬ s = s0 → cf_ch cnt q s = cf_ch cnt p s := by
  by_cases hb : p.testBit s0 = q'.testBit s0
  · refine ⟨p, hp, ?_, fun s _ => rfl⟩
    unfold cf_ch
    rw [hb]
  · have h2 : 2 ^ s0 < 2 ^ n := Nat.pow_lt_pow_right (by decide) hs0
    refine ⟨p ^^^ 2 ^ s0, Nat.xor_lt_two_pow hp h2, ?_, fun s hs => ?_⟩
    · unfold cf_ch
      have e : (p ^^^ 2 ^ s0).testBit s0 = q'.testBit s0 := by
        rw [Nat.testBit_xor, Nat.testBit_two_pow]
        cases h3 : p.testBit s0 <;> cases h4 : q'.testBit s0 <;> simp_all
      rw [e]
    · unfold cf_ch
      have e : (p ^^^ 2 ^ s0).testBit s = p.testBit s := by
        rw [Nat.testBit_xor, Nat.testBit_two_pow]
        have : ¬ s0 = s := fun z => hs z.symm
        simp [this]
      rw [e]
/-- a plan that is best for all states at once -/
theorem cf_best {n : Nat} {cnt nxt shr : Nat → Nat} (h : cf_ok n cnt nxt shr) (G : Nat → Bool) : ∃ p, p < 2 ^ n ∧ ∀ q s, s < n → cf_g n cnt nxt shr G (cf_ch cnt q) s * cf_d n cnt nxt shr G (cf_ch cnt p) ≤ cf_g n cnt nxt shr G (cf_ch cnt p) s * cf_d n cnt nxt shr G (cf_ch cnt q) :=
  po_best (n := n) (G := G) (mm := fun s a => cnt (2 * s + a)) (nn := fun s a k => nxt (6 * s + 3 * a + k)) (ww := fun s a k => (shr (6 * s + 3 * a + k) : Int))
    (fun s a k => h.2.2.2.1 _)
    (fun s a k _ hk => by
      have := h.2.2.2.2.2.1 (2 * s + a) k hk
      have e : 3 * (2 * s + a) + k = 6 * s + 3 * a + k := by omega
      rw [e] at this
      show 0 < ((shr (6 * s + 3 * a + k) : Nat) : Int)
      omega)
    (ch := cf_ch cnt) (K := 2 ^ n) (Nat.two_pow_pos n) (g := fun p => cf_g n cnt nxt shr G (cf_ch cnt p)) (d := fun p => cf_d n cnt nxt shr G (cf_ch cnt p))
    (fun p => cf_po h G (cf_ch cnt p)) (fun p hp s0 hs0 q' _ => cf_sw hp hs0 q')
/-- how many of 0 .. k-1 are in S -/
def mk_cn (S : Nat → Bool) : Nat → Nat
  | 0 => 0
  | k + 1 => mk_cn S k + (if S k = true then 1 else 0)
theorem mk_cn_le (S : Nat → Bool) : ∀ k, mk_cn S k ≤ k := by
  intro k
  induction k with
  | zero => exact Nat.le_refl _
  | succ k ih =>
    show mk_cn S k + (if S k = true then 1 else 0) ≤ k + 1
    split <;> omega
theorem mk_cn_all {S : Nat → Bool} : ∀ k, k ≤ mk_cn S k → ∀ s, s < k → S s = true := by
  intro k
  induction k with
  | zero => intro _ s hs; omega
  | succ k ih =>
    intro h s hs
    have h1 := mk_cn_le S k
    have h2 : k + 1 ≤ mk_cn S k + (if S k = true then 1 else 0) := h
    by_cases e : S k = true
    · rw [if_pos e] at h2
      by_cases es : s = k
      · subst es; exact e
      · exact ih (by omega) s (by omega)
    · rw [if_neg e] at h2; omega
theorem mk_cn_mono {S T : Nat → Bool} : ∀ k, (∀ s, s < k → S s = true → T s = true) → mk_cn S k ≤ mk_cn T k := by
  intro k
  induction k with
  | zero => intro _; exact Nat.le_refl _
  | succ k ih =>
    intro h
    have h1 := ih (fun s hs => h s (by omega))
    have h2 := h k (by omega)
    show mk_cn S k + (if S k = true then 1 else 0) ≤ mk_cn T k + (if T k = true then 1 else 0)
    by_cases e : S k = true
    · rw [if_pos e, if_pos (h2 e)]; omega
    · rw [if_neg e]; omega
theorem mk_cn_lt {S T : Nat → Bool} : ∀ k, (∀ s, s < k → S s = true → T s = true) → (∃ s, s < k ∧ T s = true ∧ ¬ S s = true) → mk_cn S k < mk_cn T k := by
  intro k
  induction k with
  | zero => intro _ ⟨s, hs, _⟩; omega
  | succ k ih =>
    intro h ⟨s, hs, ht, hn⟩
    have h2 := h k (by omega)
    show mk_cn S k + (if S k = true then 1 else 0) < mk_cn T k + (if T k = true then 1 else 0)
    by_cases es : s = k
    · subst es
      have h1 := mk_cn_mono s (fun t ht' => h t (by omega))
      rw [if_pos ht, if_neg hn]; omega
    · have h1 := ih (fun t ht' => h t (by omega)) ⟨s, by omega, ht, hn⟩
      by_cases e : S k = true
      · rw [if_pos e, if_pos (h2 e)]; omega
      · rw [if_neg e]; omega
theorem mk_cn_pos {S : Nat → Bool} {s k : Nat} (hs : s < k) (h : S s = true) : 1 ≤ mk_cn S k := by
  have := mk_cn_lt (S := fun _ => false) (T := S) k (fun _ _ z => absurd z (by decide)) ⟨s, hs, h, by decide⟩
  omega
/-- what holds of the marks after r rounds -/
def mk_I (n : Nat) (m : Nat → Nat) (nx : Nat → Nat → Nat) (G : Nat → Bool) (r : Nat) (S : Nat → Bool) : Prop :=
  (∀ s, s < n → G s = true → S s = true) ∧ (∀ s, s < n → S s = true → cf_RS n m nx G s) ∧ ((∀ s, s < n → cf_RS n m nx G s → S s = true) ∨ r + 1 ≤ mk_cn S n)
theorem mk_I0 {n : Nat} {m : Nat → Nat} {nx : Nat → Nat → Nat} {G : Nat → Bool} (hx : ∀ s k, nx s k < n) {S : Nat → Bool} (h : ∀ s, s < n → S s = G s) : mk_I n m nx G 0 S := by
  refine ⟨fun s hs hG => by rw [h s hs]; exact hG, fun s hs hS => cf_RS_g hs (by rw [← h s hs]; exact hS), ?_⟩
  by_cases hg : ∃ s, s < n ∧ G s = true
  · obtain ⟨s, hs, hG⟩ := hg
    exact Or.inr (mk_cn_pos hs (by rw [h s hs]; exact hG))
  · refine Or.inl (fun s hs hR => ?_)
    exact absurd (hR (fun _ => False) (fun s hs hG => hg ⟨s, hs, hG⟩) (fun _ _ _ _ z => z)) (fun z => z)
theorem mk_I1 {n : Nat} {m : Nat → Nat} {nx : Nat → Nat → Nat} {G : Nat → Bool} (hx : ∀ s k, nx s k < n) {r : Nat} {S T : Nat → Bool} (h : mk_I n m nx G r S) (h1 : ∀ s, s < n → S s = true → T s = true) (h2 : ∀ s, s < n → T s = true → cf_RS n m nx G s) (h3 : ∀ s k, s < n → k < m s → S (nx s k) = true → T s = true) : mk_I n m nx G (r + 1) T := by
  obtain ⟨a, b, c⟩ := h
  refine ⟨fun s hs hG => h1 s hs (a s hs hG), h2, ?_⟩
  cases c with
  | inl c => exact Or.inl (fun s hs hR => h1 s hs (c s hs hR))
  | inr c =>
    by_cases hd : ∃ s, s < n ∧ T s = true ∧ ¬ S s = true
    · have := mk_cn_lt n h1 hd
      exact Or.inr (by omega)
    · refine Or.inl (fun s hs hR => ?_)
      have hcl : ∀ s, s < n → T s = true → S s = true := by
        intro s hs hT
        cases e : S s with
        | true => rfl
        | false => exact absurd ⟨s, hs, hT, by rw [e]; decide⟩ hd
      have := hR (fun s => s < n → S s = true) (fun s hs hG _ => a s hs hG) (fun s k hs hk hP _ => hcl s hs (h3 s k hs hk (hP (hx s k)))) hs
      exact h1 s hs this
theorem mk_IE {n : Nat} {m : Nat → Nat} {nx : Nat → Nat → Nat} {G : Nat → Bool} {r : Nat} {S : Nat → Bool} (h : mk_I n m nx G r S) (hr : n ≤ r + 1) : ∀ s, s < n → (S s = true ↔ cf_RS n m nx G s) := by
  obtain ⟨a, b, c⟩ := h
  intro s hs
  refine ⟨b s hs, fun hR => ?_⟩
  cases c with
  | inl c => exact c s hs hR
  | inr c => exact mk_cn_all n (by omega) s hs
