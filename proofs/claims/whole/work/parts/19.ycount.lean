theorem fs_E_le {b : Nat → Nat} : ∀ k : Nat, (∀ s, s < k → b s ≤ 3) → fs_E b k ≤ 3 ^ k := by
  intro k
  induction k with
  | zero => intro _; exact Nat.le_refl _
  | succ k ih =>
    intro h
    have h1 := ih (fun s hs => h s (by omega))
    have h2 := h k (by omega)
    show fs_E b k * b k ≤ 3 ^ (k + 1)
    rw [Nat.pow_succ]
    exact Nat.mul_le_mul h1 h2
section
variable {n : Nat} {cnt nxt shr : Nat → Nat} {Γ : Nat} {mv : Int32} {al : Int64} {pk : Nat → Int32} {gd tp bt : Nat → Int64}
/-- the moving states under plan p -/
noncomputable abbrev yM (n : Nat) (cnt nxt : Nat → Nat) (Γ p : Nat) : Nat → Bool := cf_M n (cf_m cnt (cf_ch cnt p)) (cf_nx nxt (cf_ch cnt p)) (fun t => Γ.testBit t)
noncomputable abbrev yA (n : Nat) (cnt nxt : Nat → Nat) (Γ p : Nat) : Nat → Bool := fs_lv (yM n cnt nxt Γ p) n
/-- where x ends under choice c -/
noncomputable abbrev yE (n : Nat) (cnt nxt : Nat → Nat) (Γ p : Nat) (c : Nat → Nat) (N x : Nat) : Nat := fs_it (cf_nx nxt (cf_ch cnt p)) (yA n cnt nxt Γ p) c N x
theorem yA_t {p t : Nat} (ht : t < n) (h : yM n cnt nxt Γ p t = true) : yA n cnt nxt Γ p t = true := fs_lv_i ht h
theorem yA_f {p t : Nat} (h : yM n cnt nxt Γ p t = false) : yA n cnt nxt Γ p t = false := fs_lv_f (fun z => by rw [h] at z; exact absurd z.2 (by decide))
theorem y_led1 {post : Int32 → Prop} (hc : cf_ok n cnt nxt shr) (hΓ : Γ < 64) {p μ : Nat} (hμ : μ < 64) (hμM : ∀ t, t < n → μ.testBit t = yM n cnt nxt Γ p t) {c : Nat → Nat} (hcm : ∀ t, t < n → yM n cnt nxt Γ p t = true → c t < cf_m cnt (cf_ch cnt p) t ∧ pk t = nI (6 * t + 3 * cf_ch cnt p t + c t)) :
    ∀ (d i x : Nat), i + d = 6 → x < n → (yA n cnt nxt Γ p (yE n cnt nxt Γ p c d x) = true → post (-1)) → (yA n cnt nxt Γ p (yE n cnt nxt Γ p c d x) = false → Γ.testBit (yE n cnt nxt Γ p c d x) = true → post 1) → (yA n cnt nxt Γ p (yE n cnt nxt Γ p c d x) = false → Γ.testBit (yE n cnt nxt Γ p c d x) = false → post 0) →
    wY_led_4 post (nI n) (nI Γ) (nI μ) al (xc cnt) (xc nxt) (xc shr) pk gd tp bt (d + 1 + 1) (nI x) (nI i) := by
  have HC := hc
  obtain ⟨h2, h6, hc3, hn, hr, hpp, hz⟩ := HC
  have hstep : ∀ x, x < n → yM n cnt nxt Γ p x = true → vp_in (nI x) 6 ∧ vp_in (pk x) 36 ∧ xc nxt (pk x).toNatClampNeg = nI (cf_nx nxt (cf_ch cnt p) x (c x)) := by
    intro x hxn hM
    obtain ⟨h1, h3⟩ := hcm x hxn hM
    have hch := cf_ch_le cnt p x
    have hcc := hc3 (2 * x + cf_ch cnt p x)
    have em : cf_m cnt (cf_ch cnt p) x = cnt (2 * x + cf_ch cnt p x) := rfl
    refine ⟨pk_in x 6 (by omega), ?_, ?_⟩
    · rw [h3]; exact pk_in (6 * x + 3 * cf_ch cnt p x + c x) 36 (by omega)
    · rw [xc_at h3 (by omega)]; rfl
  intro d
  induction d with
  | zero =>
    intro i x hi hxn hA hB hC
    have e0 : yE n cnt nxt Γ p c 0 x = x := rfl
    rw [e0] at hA hB hC
    rw [wY_led_4]
    dsimp only
    rw [bi_1 Γ hΓ x (by omega), bi_1 μ hμ x (by omega), nI_clamp (n := x) (by omega), hμM x hxn]
    refine pk_le 7 i (fun z => by omega) (fun _ => ?_)
    cases hG : Γ.testBit x with
    | true =>
      rw [if_pos rfl]
      refine br_t rfl (hB (yA_f ?_) hG)
      cases hM : yM n cnt nxt Γ p x with
      | false => rfl
      | true =>
        have := (cf_M_t.mp hM).2
        rw [hG] at this
        exact absurd this (by decide)
    | false =>
      rw [if_neg (by decide)]
      refine br_f (by decide) ?_
      cases hM : yM n cnt nxt Γ p x with
      | false =>
        rw [if_neg (by decide)]
        exact br_t rfl (hC (yA_f hM) hG)
      | true =>
        rw [if_pos rfl]
        obtain ⟨g1, g2, g3⟩ := hstep x hxn hM
        refine br_f (by decide) ⟨g1, g2, nm_e (nm_r (nI_1 i) ?_)⟩
        rw [wY_led_4]
        exact pk_le 7 (i + 1) (fun _ => hA (yA_t hxn hM)) (fun z => by omega)
  | succ d ih =>
    intro i x hi hxn hA hB hC
    rw [wY_led_4]
    dsimp only
    rw [bi_1 Γ hΓ x (by omega), bi_1 μ hμ x (by omega), nI_clamp (n := x) (by omega), hμM x hxn]
    refine pk_le 7 i (fun z => by omega) (fun _ => ?_)
    cases hG : Γ.testBit x with
    | true =>
      rw [if_pos rfl]
      have hM : yM n cnt nxt Γ p x = false := by
        cases hM : yM n cnt nxt Γ p x with
        | false => rfl
        | true =>
          have := (cf_M_t.mp hM).2
          rw [hG] at this
          exact absurd this (by decide)
      have e0 : yE n cnt nxt Γ p c (d + 1) x = x := fs_it_stop (yA_f hM) _
      rw [e0] at hB
      exact br_t rfl (hB (yA_f hM) hG)
    | false =>
      rw [if_neg (by decide)]
      refine br_f (by decide) ?_
      cases hM : yM n cnt nxt Γ p x with
      | false =>
        rw [if_neg (by decide)]
        have e0 : yE n cnt nxt Γ p c (d + 1) x = x := fs_it_stop (yA_f hM) _
        rw [e0] at hC
        exact br_t rfl (hC (yA_f hM) hG)
      | true =>
        rw [if_pos rfl]
        obtain ⟨g1, g2, g3⟩ := hstep x hxn hM
        have e0 : yE n cnt nxt Γ p c (d + 1) x = yE n cnt nxt Γ p c d (cf_nx nxt (cf_ch cnt p) x (c x)) := by
          show fs_it _ _ _ (d + 1) x = _
          rw [fs_it_s, fs_st_t (yA_t hxn hM)]
        rw [e0] at hA hB hC
        exact br_f (by decide) ⟨g1, g2, nm_r g3 (nm_r (nI_1 i) (ih (i + 1) _ (by omega) (hn _) hA hB hC))⟩
/-- a choice as the reference holds it: pk, moving -/
def yH (n : Nat) (cnt nxt : Nat → Nat) (Γ p μ : Nat) (c : Nat → Nat) (pk : Nat → Int32) : Prop :=
  μ < 64 ∧ (∀ t, t < n → μ.testBit t = cf_M n (cf_m cnt (cf_ch cnt p)) (cf_nx nxt (cf_ch cnt p)) (fun t => Γ.testBit t) t) ∧ (∀ t, t < n → cf_M n (cf_m cnt (cf_ch cnt p)) (cf_nx nxt (cf_ch cnt p)) (fun t => Γ.testBit t) t = true → c t < cf_m cnt (cf_ch cnt p) t ∧ pk t = nI (6 * t + 3 * cf_ch cnt p t + c t))
theorem y_led {post : Int32 → Prop} (hc : cf_ok n cnt nxt shr) (hΓ : Γ < 64) {p μ : Nat} {c : Nat → Nat} (hH : yH n cnt nxt Γ p μ c pk) {x : Nat} (hx : x < n)
    (hA : yA n cnt nxt Γ p (yE n cnt nxt Γ p c 6 x) = true → post (-1)) (hB : yA n cnt nxt Γ p (yE n cnt nxt Γ p c 6 x) = false → Γ.testBit (yE n cnt nxt Γ p c 6 x) = true → post 1) (hC : yA n cnt nxt Γ p (yE n cnt nxt Γ p c 6 x) = false → Γ.testBit (yE n cnt nxt Γ p c 6 x) = false → post 0) : wpY_led post ((nI n, nI Γ, (nI μ), al, xc cnt, xc nxt, xc shr, pk, gd, tp, bt) : SY) (nI x) :=
  ⟨6 + 1 + 1, y_led1 hc hΓ hH.1 hH.2.1 hH.2.2 6 0 x (by omega) hx hA hB hC⟩
theorem y_173 {post : SY → Prop} (hc : cf_ok n cnt nxt shr) (hΓ : Γ < 64) {p μ : Nat} {c : Nat → Nat} (hH : yH n cnt nxt Γ p μ c pk) (hac : fs_ac n (cf_nx nxt (cf_ch cnt p)) (yA n cnt nxt Γ p) c) {W : Int} {A : Nat → Int}
    (h : ∀ gd', (∀ t, t < n → gd' t = lj (A t + W * cf_gl n (fun t => Γ.testBit t) (yE n cnt nxt Γ p c 6 t))) → post ((nI n, nI Γ, (nI μ), al, xc cnt, xc nxt, xc shr, pk, gd', tp, bt) : SY)) :
    ∀ (d s : Nat) (gd : Nat → Int64), s + d = n → (∀ t, t < s → t < n → gd t = lj (A t + W * cf_gl n (fun t => Γ.testBit t) (yE n cnt nxt Γ p c 6 t))) → (∀ t, s ≤ t → t < n → gd t = lj (A t)) →
    wY_count_173 post (lj W) (nI n) (nI Γ) (nI μ) al (d + 1) (nI s) (xc cnt) (xc nxt) (xc shr) pk gd tp bt := by
  have h6 := hc.2.1
  intro d
  induction d with
  | zero =>
    intro s gd hs hI hO
    have e : s = n := by omega
    subst e
    rw [wY_count_173]
    exact pk_le s s (fun _ => h gd (fun t ht => hI t ht ht)) (fun z => by omega)
  | succ d ih =>
    intro s gd hs hI hO
    have hsn : s < n := by omega
    have hin : vp_in (nI s) 6 := pk_in s 6 (by omega)
    have hend : yE n cnt nxt Γ p c 6 s < n := fs_it_lt (fun _ _ => hc.2.2.2.1 _) 6 s hsn
    rw [wY_count_173]
    refine pk_le n s (fun z => by omega) (fun _ => pk_le 6 s (fun z => by omega) (fun _ => y_led hc hΓ hH hsn (fun z => ?_) (fun _ hG => ?_) (fun _ hG => ?_)))
    · rw [hac s hsn] at z
      exact absurd z (by decide)
    · refine br_t rfl ⟨hin, hin, ?_⟩
      rw [nI_clamp (n := s) (by omega), hO s (Nat.le_refl _) hsn, lj_add]
      refine nm_e (nm_r (nI_1 s) (ih (s + 1) _ (by omega) (fun t ht htn => ?_) (fun t ht htn => ?_)))
      · by_cases e : t = s
        · subst e
          rw [pk_uLs]
          have : cf_gl n (fun t => Γ.testBit t) (yE n cnt nxt Γ p c 6 t) = 1 := if_pos ⟨hend, hG⟩
          rw [this, Int.mul_one]
        · rw [pk_uLn e]; exact hI t (by omega) htn
      · rw [pk_uLn (by omega)]; exact hO t (by omega) htn
    · refine br_f (by decide) (nm_r (nI_1 s) (ih (s + 1) gd (by omega) (fun t ht htn => ?_) (fun t ht htn => hO t (by omega) htn)))
      by_cases e : t = s
      · subst e
        have : cf_gl n (fun t => Γ.testBit t) (yE n cnt nxt Γ p c 6 t) = 0 := if_neg (fun z => by
          have h9 : Γ.testBit (yE n cnt nxt Γ p c 6 t) = true := z.2
          rw [hG] at h9
          exact absurd h9 (by decide))
        rw [this, Int.mul_zero, Int.add_zero]
        exact hO t (Nat.le_refl _) htn
      · exact hI t (by omega) htn
theorem y_135 {post : SY → Prop} (hc : cf_ok n cnt nxt shr) (hΓ : Γ < 64) {p μ : Nat} {c : Nat → Nat} (hH : yH n cnt nxt Γ p μ c pk) {W B : Int} {A : Nat → Int} (hal : al = lj B) (hgd : ∀ t, t < n → gd t = lj (A t))
    (hbad : ¬ fs_ac n (cf_nx nxt (cf_ch cnt p)) (yA n cnt nxt Γ p) c → post ((nI n, nI Γ, (nI μ), al, xc cnt, xc nxt, xc shr, pk, gd, tp, bt) : SY))
    (hgood : fs_ac n (cf_nx nxt (cf_ch cnt p)) (yA n cnt nxt Γ p) c → ∀ gd', (∀ t, t < n → gd' t = lj (A t + W * cf_gl n (fun t => Γ.testBit t) (yE n cnt nxt Γ p c 6 t))) → post ((nI n, nI Γ, (nI μ), (lj (B + W)), xc cnt, xc nxt, xc shr, pk, gd', tp, bt) : SY)) :
    ∀ (d s : Nat), s + d = n → (∀ t, t < s → yA n cnt nxt Γ p (yE n cnt nxt Γ p c 6 t) = false) → wY_count_135 post (lj W) (nI n) (nI Γ) (nI μ) al (xc cnt) (xc nxt) (xc shr) pk gd tp bt (d + 1) (nI s) := by
  have h6 := hc.2.1
  intro d
  induction d with
  | zero =>
    intro s hs hI
    have e : s = n := by omega
    subst e
    rw [wY_count_135]
    refine pk_le s s (fun _ => nm_r (by rw [hal, lj_add]) ⟨s + 1, y_173 hc hΓ hH hI (hgood hI) s 0 gd (by omega) (fun t ht => by omega) (fun t _ htn => hgd t htn)⟩) (fun z => by omega)
  | succ d ih =>
    intro s hs hI
    rw [wY_count_135]
    refine pk_le n s (fun z => by omega) (fun _ => y_led hc hΓ hH (by omega) (fun z => ?_) (fun z _ => ?_) (fun z _ => ?_))
    · refine br_f (by decide) (hbad (fun hac => ?_))
      rw [hac s (by omega)] at z
      exact absurd z (by decide)
    · refine br_t (by decide) (nm_r (nI_1 s) (ih (s + 1) (by omega) (fun t ht => ?_)))
      by_cases e : t = s
      · subst e; exact z
      · exact hI t (by omega)
    · refine br_t (by decide) (nm_r (nI_1 s) (ih (s + 1) (by omega) (fun t ht => ?_)))
      by_cases e : t = s
      · subst e; exact z
      · exact hI t (by omega)
end
