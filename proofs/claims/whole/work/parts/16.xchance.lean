theorem lN_z {b : Nat} (hb : b < 2 ^ 63) : lN b = 0 ↔ b = 0 := pk_lEQ (b := 0) hb (by omega)
theorem x_gcd1 {post : Int64 → Prop} : ∀ (d i a b k : Nat), i + d = 1000 → b ≤ a → a * b < 2 ^ k → k ≤ d → a < 2 ^ 62 → post (lN (Nat.gcd a b)) → wX_commonDivisor_9 post (d + 1) (lN a) (lN b) (nI i) := by
  intro d
  induction d with
  | zero =>
    intro i a b k hi hba hk hkd ha h
    have hb : b = 0 := by
      have : k = 0 := by omega
      subst this
      by_cases hb : b = 0
      · exact hb
      · have := Nat.mul_pos (by omega : 0 < a) (by omega : 0 < b)
        omega
    subst hb
    rw [Nat.gcd_zero_right] at h
    rw [wX_commonDivisor_9]
    exact pk_le 1000 i (fun _ => h) (fun z => by omega)
  | succ d ih =>
    intro i a b k hi hba hk hkd ha h
    rw [wX_commonDivisor_9]
    refine pk_le 1000 i (fun z => by omega) (fun _ => ?_)
    by_cases hb : b = 0
    · subst hb
      rw [Nat.gcd_zero_right] at h
      exact br_t rfl h
    · have hz : ¬ lN b = 0 := fun z => hb ((lN_z (by omega)).mp z)
      refine br_f hz ⟨hz, nm_r (pk_lRem (by omega) (by omega) (by omega)) (nm_r (nI_1 i) ?_)⟩
      cases k with
      | zero =>
        exfalso
        have := Nat.mul_pos (by omega : 0 < a) (by omega : 0 < b)
        omega
      | succ k =>
        have h1 := eu_half (by omega : 0 < b) hba hk
        refine ih (i + 1) b (a % b) k (by omega) (by omega) h1.2 (by omega) (by omega) ?_
        rw [eu_gcd]; exact h
theorem eu_60 {a b : Nat} (hb0 : 0 < b) (hb : b < 2 ^ 30) : b * (a % b) < 2 ^ 60 := by
  have h1 := Nat.mod_lt a hb0
  have h2 : b * (a % b) ≤ 2 ^ 30 * (a % b) := Nat.mul_le_mul_right _ (by omega)
  have h3 : 2 ^ 30 * (a % b) < 2 ^ 30 * 2 ^ 30 := Nat.mul_lt_mul_of_pos_left (by omega) (by decide)
  omega
theorem x_gcd {post : Int64 → Prop} {a b : Nat} (ha : a < 2 ^ 30) (hb0 : 0 < b) (hb : b < 2 ^ 30) (h : post (lN (Nat.gcd a b))) : wpX_commonDivisor post (lN a) (lN b) := by
  refine ⟨999 + 1 + 1, ?_⟩
  rw [wX_commonDivisor_9]
  have hz : ¬ lN b = 0 := fun z => by have := (lN_z (by omega)).mp z; omega
  refine br_f (by decide) (br_f hz ⟨hz, nm_r (pk_lRem (by omega) (by omega) (by omega)) (nm_e ?_)⟩)
  have h1 := Nat.mod_lt a hb0
  refine x_gcd1 999 1 b (a % b) 60 (by omega) (by omega) (eu_60 hb0 hb) (by omega) (by omega) ?_
  rw [eu_gcd]; exact h
/-- good and all of plan p, as naturals -/
noncomputable def gn (n : Nat) (cnt nxt shr : Nat → Nat) (Γ p s : Nat) : Nat := (cf_g n cnt nxt shr (fun t => Γ.testBit t) (cf_ch cnt p) s).toNat
noncomputable def dn (n : Nat) (cnt nxt shr : Nat → Nat) (Γ p : Nat) : Nat := (cf_d n cnt nxt shr (fun t => Γ.testBit t) (cf_ch cnt p)).toNat
section
variable {n : Nat} {cnt nxt shr : Nat → Nat} {Γ : Nat} {cr : Nat → Int32} {pt pb et eb : Nat → Int64}
theorem gn_i (hc : cf_ok n cnt nxt shr) {p s : Nat} (hs : s < n) : ((gn n cnt nxt shr Γ p s : Nat) : Int) = cf_g n cnt nxt shr (fun t => Γ.testBit t) (cf_ch cnt p) s := Int.toNat_of_nonneg ((cf_po hc (fun t => Γ.testBit t) (cf_ch cnt p)).2.1 s hs).1
theorem dn_i (hc : cf_ok n cnt nxt shr) {p : Nat} : ((dn n cnt nxt shr Γ p : Nat) : Int) = cf_d n cnt nxt shr (fun t => Γ.testBit t) (cf_ch cnt p) := Int.toNat_of_nonneg (Int.le_of_lt (cf_po hc (fun t => Γ.testBit t) (cf_ch cnt p)).1)
theorem dn_b (hc : cf_ok n cnt nxt shr) {p : Nat} : 0 < dn n cnt nxt shr Γ p ∧ dn n cnt nxt shr Γ p < 2 ^ 29 := by
  have h1 := dn_i (Γ := Γ) (p := p) hc
  have h2 := (cf_po hc (fun t => Γ.testBit t) (cf_ch cnt p)).1
  have h3 := cf_d_le hc (fun t => Γ.testBit t) (cf_ch cnt p)
  omega
theorem gn_b (hc : cf_ok n cnt nxt shr) {p s : Nat} (hs : s < n) : gn n cnt nxt shr Γ p s ≤ dn n cnt nxt shr Γ p := by
  have h1 := dn_i (Γ := Γ) (p := p) hc
  have h2 := gn_i (Γ := Γ) (p := p) hc hs
  have h3 := ((cf_po hc (fun t => Γ.testBit t) (cf_ch cnt p)).2.1 s hs).2
  omega
theorem xr_nn {p s : Nat} (hs : s < n) : xr n cnt nxt shr Γ p n s n = cf_g n cnt nxt shr (fun t => Γ.testBit t) (cf_ch cnt p) s := (fs_R_n hs).2 rfl
theorem xr_ns {p s : Nat} (hs : s < n) : xr n cnt nxt shr Γ p n s s = cf_d n cnt nxt shr (fun t => Γ.testBit t) (cf_ch cnt p) := by
  have := (fs_R_n (n := n) (m := cf_m cnt (cf_ch cnt p)) (nx := cf_nx nxt (cf_ch cnt p)) (w := cf_w shr (cf_ch cnt p)) (G := fun t => Γ.testBit t) (M := cf_M n (cf_m cnt (cf_ch cnt p)) (cf_nx nxt (cf_ch cnt p)) (fun t => Γ.testBit t)) (i := s) (j := s) hs).1 hs
  rw [if_pos rfl] at this
  exact this
/-- the lowest terms of plan p's chance of s -/
noncomputable def ltop (n : Nat) (cnt nxt shr : Nat → Nat) (Γ p s : Nat) : Nat := gn n cnt nxt shr Γ p s / Nat.gcd (gn n cnt nxt shr Γ p s) (dn n cnt nxt shr Γ p)
noncomputable def lbot (n : Nat) (cnt nxt shr : Nat → Nat) (Γ p s : Nat) : Nat := dn n cnt nxt shr Γ p / Nat.gcd (gn n cnt nxt shr Γ p s) (dn n cnt nxt shr Γ p)
theorem x_read {post : SX → Prop} (hc : cf_ok n cnt nxt shr) {p s : Nat} (hs : s < n) {eq : Nat → Int64} (hr : xrow n eq s (fun j => xr n cnt nxt shr Γ p n s j))
    (h : post ((nI n, nI (2 ^ n), xa cnt, xc cnt, xc nxt, xc shr, xg Γ, cr, eq, (vp_updL pt s (lN (ltop n cnt nxt shr Γ p s))), (vp_updL pb s (lN (lbot n cnt nxt shr Γ p s))), et, eb) : SX)) : wpX_readChance post ((nI n, nI (2 ^ n), xa cnt, xc cnt, xc nxt, xc shr, xg Γ, cr, eq, pt, pb, et, eb) : SX) (nI s) := by
  have h6 := hc.2.1
  have hd := dn_b (Γ := Γ) (p := p) hc
  have hg := gn_b (Γ := Γ) (p := p) hc hs
  have e1 : eq (7 * s + n) = lN (gn n cnt nxt shr Γ p s) := by
    have : eq (7 * s + n) = lj (xr n cnt nxt shr Γ p n s n) := hr n (Nat.le_refl _)
    rw [this, xr_nn hs, lj_N, gn_i hc hs]
  have e2 : eq (7 * s + s) = lN (dn n cnt nxt shr Γ p) := by
    have : eq (7 * s + s) = lj (xr n cnt nxt shr Γ p n s s) := hr s (by omega)
    rw [this, xr_ns hs, lj_N, dn_i hc]
  unfold wpX_readChance
  dsimp only
  rw [xi_7, xi_7, nI_clamp (n := 7 * s + n) (by omega), nI_clamp (n := 7 * s + s) (by omega), e1, e2]
  refine ⟨pk_in (7 * s + n) 42 (by omega), nm_e ⟨pk_in (7 * s + s) 42 (by omega), nm_e ?_⟩⟩
  have hg0 : 0 < Nat.gcd (gn n cnt nxt shr Γ p s) (dn n cnt nxt shr Γ p) := Nat.gcd_pos_of_pos_right _ hd.1
  have hgl : Nat.gcd (gn n cnt nxt shr Γ p s) (dn n cnt nxt shr Γ p) ≤ dn n cnt nxt shr Γ p := Nat.le_of_dvd hd.1 (Nat.gcd_dvd_right _ _)
  refine x_gcd (by omega) hd.1 (by omega) ?_
  have hend : wX_readChance_55 post (nI s) (lN (ltop n cnt nxt shr Γ p s)) (lN (lbot n cnt nxt shr Γ p s)) (nI n) (nI (2 ^ n)) (xa cnt) (xc cnt) (xc nxt) (xc shr) (xg Γ) cr eq pt pb et eb := by
    unfold wX_readChance_55
    rw [nI_clamp (n := s) (by omega)]
    exact ⟨pk_in s 6 (by omega), nm_e ⟨pk_in s 6 (by omega), nm_e h⟩⟩
  unfold ltop lbot at hend
  by_cases hq : Nat.gcd (gn n cnt nxt shr Γ p s) (dn n cnt nxt shr Γ p) ≤ 1
  · have hq1 : Nat.gcd (gn n cnt nxt shr Γ p s) (dn n cnt nxt shr Γ p) = 1 := by omega
    rw [hq1, Nat.div_one, Nat.div_one] at hend
    rw [hq1]
    exact br_t (by decide) hend
  · have hz : ¬ lN (Nat.gcd (gn n cnt nxt shr Γ p s) (dn n cnt nxt shr Γ p)) = 0 := fun z => by have := (lN_z (by omega)).mp z; omega
    have hq2 : ¬ lN (Nat.gcd (gn n cnt nxt shr Γ p s) (dn n cnt nxt shr Γ p)) ≤ 1 := fun z => hq ((pk_lLE (b := 1) (by omega) (by omega)).mp z)
    exact br_f hq2 ⟨hz, nm_r (pk_lDiv (by omega) hg0 (by omega)) ⟨hz, nm_r (pk_lDiv (by omega) hg0 (by omega)) hend⟩⟩
/-- the component's chances under a plan -/
theorem x_chances {post : SX → Prop} (hc : cf_ok n cnt nxt shr) {p : Nat} (hp64 : p < 64) {eq : Nat → Int64}
    (h : ∀ cr' eq' pt' pb', (∀ t, t < n → pt' t = lN (ltop n cnt nxt shr Γ p t) ∧ pb' t = lN (lbot n cnt nxt shr Γ p t)) → post ((nI n, nI (2 ^ n), xa cnt, xc cnt, xc nxt, xc shr, xg Γ, cr', eq', pt', pb', et, eb) : SX)) : wpX_findChances post ((nI n, nI (2 ^ n), xa cnt, xc cnt, xc nxt, xc shr, xg Γ, cr, eq, pt, pb, et, eb) : SX) (nI p) := by
  have h6 := hc.2.1
  refine x_mark hc hp64 (fun cr1 hcr => ⟨n + 1, ?_⟩)
  have k33 : ∀ (eq1 : Nat → Int64), (∀ t, t < n → xrow n eq1 t (fun j => xr n cnt nxt shr Γ p n t j)) → ∀ (d s : Nat) (pt' pb' : Nat → Int64), s + d = n → (∀ t, t < s → pt' t = lN (ltop n cnt nxt shr Γ p t) ∧ pb' t = lN (lbot n cnt nxt shr Γ p t)) → wX_findChances_33 post (d + 1) (nI s) (nI n) (nI (2 ^ n)) (xa cnt) (xc cnt) (xc nxt) (xc shr) (xg Γ) cr1 eq1 pt' pb' et eb := by
    intro eq1 hr1 d
    induction d with
    | zero =>
      intro s pt' pb' hs hI
      have e : s = n := by omega
      subst e
      rw [wX_findChances_33]
      exact pk_le s s (fun _ => h cr1 eq1 pt' pb' hI) (fun z => by omega)
    | succ d ih =>
      intro s pt' pb' hs hI
      rw [wX_findChances_33]
      refine pk_le n s (fun z => by omega) (fun _ => x_read hc (by omega) (hr1 s (by omega)) (nm_r (nI_1 s) (ih (s + 1) _ _ (by omega) (fun t ht => ?_))))
      by_cases e : t = s
      · subst e; exact ⟨pk_uLs, pk_uLs⟩
      · rw [pk_uLn e, pk_uLn e]; exact hI t (by omega)
  have k7 : ∀ (d s : Nat) (eq1 : Nat → Int64), s + d = n → (∀ t, t < s → t < n → xrow n eq1 t (fun j => xr n cnt nxt shr Γ p 0 t j)) → wX_findChances_7 post (nI p) (d + 1) (nI s) (nI n) (nI (2 ^ n)) (xa cnt) (xc cnt) (xc nxt) (xc shr) (xg Γ) cr1 eq1 pt pb et eb := by
    intro d
    induction d with
    | zero =>
      intro s eq1 hs hI
      have e : s = n := by omega
      subst e
      rw [wX_findChances_7]
      refine pk_le s s (fun _ => x_solve hc (fun t ht => hI t ht ht) (fun eq2 hr2 => ⟨s + 1, k33 eq2 hr2 s 0 pt pb (by omega) (fun t ht => by omega)⟩)) (fun z => by omega)
    | succ d ih =>
      intro s eq1 hs hI
      rw [wX_findChances_7]
      refine pk_le n s (fun z => by omega) (fun _ => x_we hc hp64 (by omega) (hcr s (by omega)) (fun eq2 hr2 hO => nm_r (nI_1 s) (ih (s + 1) eq2 (by omega) (fun t ht htn => ?_))))
      by_cases e : t = s
      · subst e; exact hr2
      · intro j hj
        rw [hO _ (by omega)]
        exact hI t (by omega) htn j hj
  exact k7 n 0 eq (by omega) (fun t ht => by omega)
end
