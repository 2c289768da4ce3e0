theorem xm_b {a b B : Int} (hB : 0 ≤ B) (ha1 : -B ≤ a) (ha2 : a ≤ B) (hb1 : 0 ≤ b) (hb2 : b ≤ B) : -(B * B) ≤ b * a ∧ b * a ≤ B * B := by
  have h1 := Int.mul_le_mul_of_nonneg_left ha2 hb1
  have h2 := Int.mul_le_mul_of_nonneg_left ha1 hb1
  have h3 := Int.mul_le_mul_of_nonneg_right hb2 hB
  have h4 : b * -B = -(b * B) := by grind
  omega
section
variable {n : Nat} {cnt nxt shr : Nat → Nat} {Γ : Nat} {cr : Nat → Int32} {pt pb et eb : Nat → Int64}
theorem xd_pos (hc : cf_ok n cnt nxt shr) {p k : Nat} (hk : k ≤ n) : 0 < xd n cnt nxt shr Γ p k := fs_D_pos (cf_fs hc _ _) k hk
theorem xd_le (hc : cf_ok n cnt nxt shr) {p k : Nat} (hk : k ≤ n) : xd n cnt nxt shr Γ p k ≤ 27 ^ 6 := by
  have hDl := fs_D_le (cf_fs hc (fun t => Γ.testBit t) (cf_ch cnt p)) k hk
  have hn := hc.2.1
  unfold xd
  have h4 : k = 0 ∨ k = 1 ∨ k = 2 ∨ k = 3 ∨ k = 4 ∨ k = 5 ∨ k = 6 := by omega
  rcases h4 with e | e | e | e | e | e | e <;> rw [e] at hDl ⊢ <;> omega
theorem xr_kk (hc : cf_ok n cnt nxt shr) {p k : Nat} (hk : k < n) : xr n cnt nxt shr Γ p k k k = xd n cnt nxt shr Γ p (k + 1) := fs_R_kk (cf_fs hc _ _) hk
theorem xr_row (hc : cf_ok n cnt nxt shr) {p k : Nat} (hk : k < n) (j : Nat) : xr n cnt nxt shr Γ p (k + 1) k j = xr n cnt nxt shr Γ p k k j := fs_R_row (cf_fs hc _ _) hk
theorem xr_bar (hc : cf_ok n cnt nxt shr) {p k i : Nat} (hk : k < n) (hi : i < n) (hik : ¬ i = k) (j : Nat) : xd n cnt nxt shr Γ p k * xr n cnt nxt shr Γ p (k + 1) i j = xr n cnt nxt shr Γ p k k k * xr n cnt nxt shr Γ p k i j - xr n cnt nxt shr Γ p k i k * xr n cnt nxt shr Γ p k k j := fs_bar (cf_fs hc _ _) hk hi hik
theorem xr_le (hc : cf_ok n cnt nxt shr) {p k i : Nat} (hk : k ≤ n) (hi : i < n) (j : Nat) : -(27 ^ 6) ≤ xr n cnt nxt shr Γ p k i j ∧ xr n cnt nxt shr Γ p k i j ≤ 27 ^ 6 := fs_R_le (cf_fs hc _ _) hk hi
/-- one number of the step -/
theorem xr_step (hc : cf_ok n cnt nxt shr) {p k i : Nat} (hk : k < n) (hi : i < n) (hik : ¬ i = k) (j : Nat) : (lj (xr n cnt nxt shr Γ p k k k) * lj (xr n cnt nxt shr Γ p k i j) - lj (xr n cnt nxt shr Γ p k i k) * lj (xr n cnt nxt shr Γ p k k j)) / lj (xd n cnt nxt shr Γ p k) = lj (xr n cnt nxt shr Γ p (k + 1) i j) := by
  have h0 := xd_pos (Γ := Γ) (p := p) hc (by omega : k ≤ n)
  have h1 := xd_le (Γ := Γ) (p := p) hc (by omega : k ≤ n)
  have h2 := xr_le (Γ := Γ) (p := p) hc (by omega : k + 1 ≤ n) hi j
  have h3 := xm_b (B := 27 ^ 6) (by decide) h2.1 h2.2 (Int.le_of_lt h0) h1
  rw [lj_mul, lj_mul, lj_sub, ← xr_bar hc hk hi hik j]
  refine lj_div h0 ?_ ?_ ?_
  · omega
  · omega
  · omega
theorem lj_nz {z : Int} (h0 : 0 < z) (h1 : z < 2 ^ 63) : ¬ lj z = 0 := by
  rw [← lj_0, lj_eq (by omega) h1 (by omega) (by omega)]
  omega
theorem x_clear {post : SX → Prop} (hc : cf_ok n cnt nxt shr) {p k i : Nat} (hk : k < n) (hi : i < n) (hik : ¬ i = k) {eq : Nat → Int64}
    (hri : xrow n eq i (fun j => xr n cnt nxt shr Γ p k i j)) (hrk : xrow n eq k (fun j => xr n cnt nxt shr Γ p k k j))
    (h : ∀ eq', xrow n eq' i (fun j => xr n cnt nxt shr Γ p (k + 1) i j) → (∀ q, ¬ (7 * i ≤ q ∧ q ≤ 7 * i + n) → eq' q = eq q) → post ((nI n, nI (2 ^ n), xa cnt, xc cnt, xc nxt, xc shr, xg Γ, cr, eq', pt, pb, et, eb) : SX)) :
    wpX_clearColumn post ((nI n, nI (2 ^ n), xa cnt, xc cnt, xc nxt, xc shr, xg Γ, cr, eq, pt, pb, et, eb) : SX) (nI i) (nI k) (lj (xr n cnt nxt shr Γ p k k k)) (lj (xd n cnt nxt shr Γ p k)) := by
  have h6 := hc.2.1
  have hd0 := xd_pos (Γ := Γ) (p := p) hc (by omega : k ≤ n)
  have hd1 := xd_le (Γ := Γ) (p := p) hc (by omega : k ≤ n)
  have hdz : ¬ lj (xd n cnt nxt shr Γ p k) = 0 := lj_nz hd0 (by omega)
  have hk0 : eq (7 * i + k) = lj (xr n cnt nxt shr Γ p k i k) := hri k (by omega)
  refine br_f hdz (nm_r (ix_7 i) (nm_r (ix_7 k) ?_))
  rw [nI_add, nI_clamp (n := 7 * i + k) (by omega), hk0]
  refine ⟨pk_in (7 * i + k) 42 (by omega), nm_e ⟨n + 1 + 1, ?_⟩⟩
  have key : ∀ (d j : Nat) (eq' : Nat → Int64), j + d = n + 1 → (∀ t, t < j → eq' (7 * i + t) = lj (xr n cnt nxt shr Γ p (k + 1) i t)) → (∀ q, ¬ (7 * i ≤ q ∧ q < 7 * i + j) → eq' q = eq q) → wX_clearColumn_34 post (lj (xr n cnt nxt shr Γ p k k k)) (lj (xd n cnt nxt shr Γ p k)) (nI (7 * i)) (nI (7 * k)) (lj (xr n cnt nxt shr Γ p k i k)) (nI n) (nI (2 ^ n)) (d + 1) (nI j) (xa cnt) (xc cnt) (xc nxt) (xc shr) (xg Γ) cr eq' pt pb et eb := by
    intro d
    induction d with
    | zero =>
      intro j eq' hj hz hO
      have ej : j = n + 1 := by omega
      subst ej
      rw [wX_clearColumn_34]
      refine pk_lt n (n + 1) (fun _ => h eq' (fun t ht => hz t (by omega)) (fun q hq => hO q (by omega))) (fun z => by omega)
    | succ d ih =>
      intro j eq' hj hz hO
      rw [wX_clearColumn_34]
      refine pk_lt n j (fun z => by omega) (fun _ => ?_)
      have e1 : eq' (7 * i + j) = lj (xr n cnt nxt shr Γ p k i j) := by
        rw [hO _ (by omega)]; exact hri j (by omega)
      have e2 : eq' (7 * k + j) = lj (xr n cnt nxt shr Γ p k k j) := by
        rw [hO _ (by omega)]; exact hrk j (by omega)
      rw [nI_add, nI_add, nI_clamp (n := 7 * i + j) (by omega), nI_clamp (n := 7 * k + j) (by omega), e1, e2, xr_step hc hk hi hik j]
      refine ⟨pk_in (7 * i + j) 42 (by omega), pk_in (7 * k + j) 42 (by omega), hdz, pk_in (7 * i + j) 42 (by omega), nm_e (nm_r (nI_1 j) (ih (j + 1) _ (by omega) (fun t ht => ?_) (fun q hq => ?_)))⟩
      · by_cases e : t = j
        · subst e; exact pk_uLs
        · rw [pk_uLn (by omega)]; exact hz t (by omega)
      · rw [pk_uLn (by omega)]; exact hO q (by omega)
  exact key (n + 1) 0 eq (by omega) (fun t ht => by omega) (fun q _ => rfl)
theorem x_so36 {post : SX → Prop} {J4 : Int64 → Int32 → Int32 → Int32 → (Nat → Int32) → (Nat → Int32) → (Nat → Int32) → (Nat → Int32) → (Nat → Int32) → (Nat → Int32) → (Nat → Int64) → (Nat → Int64) → (Nat → Int64) → (Nat → Int64) → (Nat → Int64) → Prop} (hc : cf_ok n cnt nxt shr) {p k : Nat} (hk : k < n)
    (hJ : ∀ eq', (∀ t, t < n → xrow n eq' t (fun j => xr n cnt nxt shr Γ p (k + 1) t j)) → J4 (lj (xr n cnt nxt shr Γ p k k k)) (nI (k + 1)) (nI n) (nI (2 ^ n)) (xa cnt) (xc cnt) (xc nxt) (xc shr) (xg Γ) cr eq' pt pb et eb) :
    ∀ (d i : Nat) (eq : Nat → Int64), i + d = n → (∀ t, t < i → t < n → xrow n eq t (fun j => xr n cnt nxt shr Γ p (k + 1) t j)) → (∀ t, i ≤ t → t < n → xrow n eq t (fun j => xr n cnt nxt shr Γ p k t j)) →
    wX_solveEquations_36 post J4 (lj (xd n cnt nxt shr Γ p k)) (nI k) (lj (xr n cnt nxt shr Γ p k k k)) (d + 1) (nI i) (nI n) (nI (2 ^ n)) (xa cnt) (xc cnt) (xc nxt) (xc shr) (xg Γ) cr eq pt pb et eb := by
  have h6 := hc.2.1
  intro d
  induction d with
  | zero =>
    intro i eq hi hA hB
    have e : i = n := by omega
    subst e
    rw [wX_solveEquations_36]
    exact pk_le i i (fun _ => nm_r (nI_1 k) (hJ eq (fun t ht => hA t ht ht))) (fun z => by omega)
  | succ d ih =>
    intro i eq hi hA hB
    rw [wX_solveEquations_36]
    refine pk_le n i (fun z => by omega) (fun _ => pk_eq i k (fun e => nm_r (nI_1 i) (ih (i + 1) eq (by omega) (fun t ht htn => ?_) (fun t ht htn => hB t (by omega) htn))) (fun e => ?_))
    · by_cases et : t = i
      · subst et
        subst e
        intro j hj
        have := hB t (by omega) htn j hj
        rw [this]
        exact congrArg lj (xr_row hc hk j).symm
      · exact hA t (by omega) htn
    · have hrk : xrow n eq k (fun j => xr n cnt nxt shr Γ p k k j) := by
        by_cases h1 : k < i
        · intro j hj
          have := hA k h1 hk j hj
          rw [this]
          exact congrArg lj (xr_row hc hk j)
        · exact hB k (by omega) hk
      refine x_clear hc hk (by omega) e (hB i (Nat.le_refl _) (by omega)) hrk (fun eq' hr hO => nm_r (nI_1 i) (ih (i + 1) eq' (by omega) (fun t ht htn => ?_) (fun t ht htn => ?_)))
      · by_cases et : t = i
        · subst et; exact hr
        · intro j hj
          rw [hO _ (by omega)]
          exact hA t (by omega) htn j hj
      · intro j hj
        rw [hO _ (by omega)]
        exact hB t (by omega) htn j hj
theorem xd_0 {p : Nat} : xd n cnt nxt shr Γ p 0 = 1 := fs_D_0
theorem x_solve {post : SX → Prop} (hc : cf_ok n cnt nxt shr) {p : Nat} {eq : Nat → Int64} (hr : ∀ t, t < n → xrow n eq t (fun j => xr n cnt nxt shr Γ p 0 t j))
    (h : ∀ eq', (∀ t, t < n → xrow n eq' t (fun j => xr n cnt nxt shr Γ p n t j)) → post ((nI n, nI (2 ^ n), xa cnt, xc cnt, xc nxt, xc shr, xg Γ, cr, eq', pt, pb, et, eb) : SX)) : wpX_solveEquations post ((nI n, nI (2 ^ n), xa cnt, xc cnt, xc nxt, xc shr, xg Γ, cr, eq, pt, pb, et, eb) : SX) := by
  have h6 := hc.2.1
  have key : ∀ (d k : Nat) (eq' : Nat → Int64), k + d = n → (∀ t, t < n → xrow n eq' t (fun j => xr n cnt nxt shr Γ p k t j)) → wX_solveEquations_4 post (d + 1) (lj (xd n cnt nxt shr Γ p k)) (nI k) (nI n) (nI (2 ^ n)) (xa cnt) (xc cnt) (xc nxt) (xc shr) (xg Γ) cr eq' pt pb et eb := by
    intro d
    induction d with
    | zero =>
      intro k eq' hk hr'
      have e : k = n := by omega
      subst e
      rw [wX_solveEquations_4]
      exact pk_le k k (fun _ => h eq' hr') (fun z => by omega)
    | succ d ih =>
      intro k eq' hk hr'
      have hkn : k < n := by omega
      rw [wX_solveEquations_4]
      refine pk_le n k (fun z => by omega) (fun _ => ?_)
      have e1 : eq' (7 * k + k) = lj (xr n cnt nxt shr Γ p k k k) := hr' k hkn k (by omega)
      rw [xi_7, nI_clamp (n := 7 * k + k) (by omega), e1]
      have hd0 := xd_pos (Γ := Γ) (p := p) hc (by omega : k + 1 ≤ n)
      have hd1 := xd_le (Γ := Γ) (p := p) hc (by omega : k + 1 ≤ n)
      have hz : ¬ lj (xr n cnt nxt shr Γ p k k k) = 0 := by
        rw [xr_kk hc hkn]
        exact lj_nz hd0 (by omega)
      refine ⟨pk_in (7 * k + k) 42 (by omega), nm_e (br_f hz ⟨n + 1, ?_⟩)⟩
      refine x_so36 hc hkn (fun e2 hr2 => ?_) n 0 eq' (by omega) (fun t ht => by omega) (fun t _ htn => hr' t htn)
      rw [xr_kk hc hkn]
      exact ih (k + 1) e2 (by omega) hr2
  refine ⟨n + 1, ?_⟩
  have := key n 0 eq (by omega) hr
  rw [xd_0, lj_1] at this
  exact this
end
