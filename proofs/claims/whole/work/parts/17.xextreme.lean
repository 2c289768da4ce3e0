theorem nm_60 {a d : Nat} (ha : a < 2 ^ 30) (hd : d < 2 ^ 30) : a * d < 2 ^ 60 := by
  have h2 : a * d ≤ 2 ^ 30 * d := Nat.mul_le_mul_right _ (by omega)
  have h3 : 2 ^ 30 * d < 2 ^ 30 * 2 ^ 30 := Nat.mul_lt_mul_of_pos_left hd (by decide)
  omega
theorem nt_trans {a b c d e f : Nat} (hd : 0 < d) (h1 : a * d ≤ c * b) (h2 : c * f ≤ e * d) : a * f ≤ e * b := by
  have h3 := Nat.mul_le_mul_right f h1
  have h4 := Nat.mul_le_mul_right b h2
  have h5 : d * (a * f) ≤ d * (e * b) := by grind
  exact Nat.le_of_mul_le_mul_left h5 hd
/-- q's chance of t is at least as good (best) or as bad (not best) as p's -/
def pl (n : Nat) (cnt nxt shr : Nat → Nat) (Γ : Nat) (best : Bool) (p q t : Nat) : Prop :=
  if best = true then gn n cnt nxt shr Γ p t * dn n cnt nxt shr Γ q ≤ gn n cnt nxt shr Γ q t * dn n cnt nxt shr Γ p else gn n cnt nxt shr Γ q t * dn n cnt nxt shr Γ p ≤ gn n cnt nxt shr Γ p t * dn n cnt nxt shr Γ q
section
variable {n : Nat} {cnt nxt shr : Nat → Nat} {Γ : Nat} {cr : Nat → Int32} {eq pt pb et eb : Nat → Int64}
theorem pl_refl (best : Bool) (p t : Nat) : pl n cnt nxt shr Γ best p p t := by
  unfold pl
  split <;> exact Nat.le_refl _
theorem pl_trans (hc : cf_ok n cnt nxt shr) {best : Bool} {p q r t : Nat} (h1 : pl n cnt nxt shr Γ best p q t) (h2 : pl n cnt nxt shr Γ best q r t) : pl n cnt nxt shr Γ best p r t := by
  have hq := (dn_b (Γ := Γ) (p := q) hc).1
  unfold pl at h1 h2 ⊢
  cases best with
  | true =>
    rw [if_pos rfl] at h1 h2 ⊢
    exact nt_trans hq h1 h2
  | false =>
    rw [if_neg (by decide)] at h1 h2 ⊢
    exact nt_trans hq h2 h1
theorem pl_anti {best : Bool} {p q t : Nat} (h1 : pl n cnt nxt shr Γ best p q t) (h2 : pl n cnt nxt shr Γ best q p t) : gn n cnt nxt shr Γ p t * dn n cnt nxt shr Γ q = gn n cnt nxt shr Γ q t * dn n cnt nxt shr Γ p := by
  unfold pl at h1 h2
  cases best with
  | true =>
    rw [if_pos rfl] at h1 h2
    omega
  | false =>
    rw [if_neg (by decide)] at h1 h2
    omega
theorem pl_of {best : Bool} {p q t : Nat} (h : gn n cnt nxt shr Γ p t * dn n cnt nxt shr Γ q = gn n cnt nxt shr Γ q t * dn n cnt nxt shr Γ p) : pl n cnt nxt shr Γ best p q t := by
  unfold pl
  split <;> omega
/-- the gcd of a chance, and the parts by it -/
theorem lt_g (hc : cf_ok n cnt nxt shr) (p t : Nat) : ∃ g, 0 < g ∧ gn n cnt nxt shr Γ p t = g * ltop n cnt nxt shr Γ p t ∧ dn n cnt nxt shr Γ p = g * lbot n cnt nxt shr Γ p t :=
  ⟨Nat.gcd (gn n cnt nxt shr Γ p t) (dn n cnt nxt shr Γ p), Nat.gcd_pos_of_pos_right _ (dn_b hc).1, (Nat.mul_div_cancel' (Nat.gcd_dvd_left _ _)).symm, (Nat.mul_div_cancel' (Nat.gcd_dvd_right _ _)).symm⟩
theorem lt_b (hc : cf_ok n cnt nxt shr) (p : Nat) {t : Nat} (ht : t < n) : ltop n cnt nxt shr Γ p t < 2 ^ 29 ∧ lbot n cnt nxt shr Γ p t < 2 ^ 29 ∧ 0 < lbot n cnt nxt shr Γ p t := by
  have h1 := dn_b (Γ := Γ) (p := p) hc
  have h2 := gn_b (Γ := Γ) (p := p) hc ht
  refine ⟨Nat.lt_of_le_of_lt (Nat.div_le_self _ _) (by omega), Nat.lt_of_le_of_lt (Nat.div_le_self _ _) h1.2, ?_⟩
  obtain ⟨g, hg, _, e⟩ := lt_g (Γ := Γ) hc p t
  apply Nat.pos_of_ne_zero
  intro z
  rw [z, Nat.mul_zero] at e
  omega
theorem lt_cmp (hc : cf_ok n cnt nxt shr) (p q t : Nat) : (ltop n cnt nxt shr Γ p t * lbot n cnt nxt shr Γ q t < ltop n cnt nxt shr Γ q t * lbot n cnt nxt shr Γ p t ↔ gn n cnt nxt shr Γ p t * dn n cnt nxt shr Γ q < gn n cnt nxt shr Γ q t * dn n cnt nxt shr Γ p) ∧ (ltop n cnt nxt shr Γ p t * lbot n cnt nxt shr Γ q t = ltop n cnt nxt shr Γ q t * lbot n cnt nxt shr Γ p t ↔ gn n cnt nxt shr Γ p t * dn n cnt nxt shr Γ q = gn n cnt nxt shr Γ q t * dn n cnt nxt shr Γ p) := by
  obtain ⟨g1, hg1, a1, b1⟩ := lt_g (Γ := Γ) hc p t
  obtain ⟨g2, hg2, a2, b2⟩ := lt_g (Γ := Γ) hc q t
  have e1 : gn n cnt nxt shr Γ p t * dn n cnt nxt shr Γ q = (g1 * g2) * (ltop n cnt nxt shr Γ p t * lbot n cnt nxt shr Γ q t) := by rw [a1, b2]; grind
  have e2 : gn n cnt nxt shr Γ q t * dn n cnt nxt shr Γ p = (g1 * g2) * (ltop n cnt nxt shr Γ q t * lbot n cnt nxt shr Γ p t) := by rw [a2, b1]; grind
  have hg := Nat.mul_pos hg1 hg2
  rw [e1, e2]
  exact ⟨⟨fun h => Nat.mul_lt_mul_of_pos_left h hg, fun h => Nat.lt_of_mul_lt_mul_left h⟩, ⟨fun h => by rw [h], fun h => Nat.eq_of_mul_eq_mul_left hg h⟩⟩
theorem x_ord {post : Int32 → Prop} {a b c d : Nat} (ha : a < 2 ^ 29) (hb : b < 2 ^ 29) (hc : c < 2 ^ 29) (hd : d < 2 ^ 29) (h0 : a * d = c * b → post 0) (h1 : a * d < c * b → post (-1)) (h2 : c * b < a * d → post 1) : wpX_orderOf post (lN a) (lN b) (lN c) (lN d) := by
  have m1 := nm_60 (a := a) (d := d) (by omega) (by omega)
  have m2 := nm_60 (a := c) (d := b) (by omega) (by omega)
  unfold wpX_orderOf
  refine nm_r (lN_mul a d) (nm_r (lN_mul c b) ?_)
  rw [pk_lLE (by omega) (by omega), pk_lLE (by omega) (by omega)]
  exact br_c (fun z => br_c (fun z2 => h0 (by omega)) (fun z2 => h1 (by omega))) (fun z => h2 (by omega))
/-- the direction as the component says it -/
def dr (best : Bool) : Int32 := if best = true then 1 else -1
/-- a / b is the extreme of the first P plans for t, in lowest terms -/
def xe (n : Nat) (cnt nxt shr : Nat → Nat) (Γ : Nat) (best : Bool) (P t : Nat) (a b : Int64) : Prop :=
  ∃ q, q < P ∧ a = lN (ltop n cnt nxt shr Γ q t) ∧ b = lN (lbot n cnt nxt shr Γ q t) ∧ ∀ p, p < P → pl n cnt nxt shr Γ best p q t
theorem xe_keep {best : Bool} {P t q : Nat} (hq : q < P) (h : ∀ p, p < P → pl n cnt nxt shr Γ best p q t) (hP : pl n cnt nxt shr Γ best P q t) : xe n cnt nxt shr Γ best (P + 1) t (lN (ltop n cnt nxt shr Γ q t)) (lN (lbot n cnt nxt shr Γ q t)) := by
  refine ⟨q, by omega, rfl, rfl, fun p hp => ?_⟩
  by_cases e : p = P
  · subst e; exact hP
  · exact h p (by omega)
theorem xe_new (hc : cf_ok n cnt nxt shr) {best : Bool} {P t q : Nat} (h : ∀ p, p < P → pl n cnt nxt shr Γ best p q t) (hP : pl n cnt nxt shr Γ best q P t) : xe n cnt nxt shr Γ best (P + 1) t (lN (ltop n cnt nxt shr Γ P t)) (lN (lbot n cnt nxt shr Γ P t)) := by
  refine ⟨P, by omega, rfl, rfl, fun p hp => ?_⟩
  by_cases e : p = P
  · subst e; exact pl_refl _ _ _
  · exact pl_trans hc (h p (by omega)) hP
theorem x_keep {post : SX → Prop} (hc : cf_ok n cnt nxt shr) (best : Bool) {P : Nat} (hpt : ∀ t, t < n → pt t = lN (ltop n cnt nxt shr Γ P t) ∧ pb t = lN (lbot n cnt nxt shr Γ P t))
    (hE : ∀ t, t < n → xe n cnt nxt shr Γ best P t (et t) (eb t))
    (h : ∀ et' eb', (∀ t, t < n → xe n cnt nxt shr Γ best (P + 1) t (et' t) (eb' t)) → post ((nI n, nI (2 ^ n), xa cnt, xc cnt, xc nxt, xc shr, xg Γ, cr, eq, pt, pb, et', eb') : SX)) : wpX_keepExtremes post ((nI n, nI (2 ^ n), xa cnt, xc cnt, xc nxt, xc shr, xg Γ, cr, eq, pt, pb, et, eb) : SX) (dr best) := by
  have h6 := hc.2.1
  have key : ∀ (d s : Nat) (et' eb' : Nat → Int64), s + d = n → (∀ t, t < s → xe n cnt nxt shr Γ best (P + 1) t (et' t) (eb' t)) → (∀ t, s ≤ t → t < n → xe n cnt nxt shr Γ best P t (et' t) (eb' t)) → wX_keepExtremes_2 post (dr best) (nI n) (nI (2 ^ n)) (d + 1) (nI s) (xa cnt) (xc cnt) (xc nxt) (xc shr) (xg Γ) cr eq pt pb et' eb' := by
    intro d
    induction d with
    | zero =>
      intro s et' eb' hs hA hB
      have e : s = n := by omega
      subst e
      rw [wX_keepExtremes_2]
      exact pk_le s s (fun _ => h et' eb' hA) (fun z => by omega)
    | succ d ih =>
      intro s et' eb' hs hA hB
      obtain ⟨q, hq, e1, e2, hq2⟩ := hB s (Nat.le_refl _) (by omega)
      obtain ⟨e3, e4⟩ := hpt s (by omega)
      have b1 := lt_b (Γ := Γ) hc P (by omega : s < n)
      have b2 := lt_b (Γ := Γ) hc q (by omega : s < n)
      have hcmp := lt_cmp (Γ := Γ) hc P q s
      have hin : vp_in (nI s) 6 := pk_in s 6 (by omega)
      rw [wX_keepExtremes_2]
      refine pk_le n s (fun z => by omega) (fun _ => ⟨hin, hin, hin, hin, ?_⟩)
      rw [nI_clamp (n := s) (by omega), e1, e2, e3, e4]
      have stay : pl n cnt nxt shr Γ best P q s → wX_keepExtremes_2 post (dr best) (nI n) (nI (2 ^ n)) (d + 1) (nI (s + 1)) (xa cnt) (xc cnt) (xc nxt) (xc shr) (xg Γ) cr eq pt pb et' eb' := by
        intro hP
        refine ih (s + 1) et' eb' (by omega) (fun t ht => ?_) (fun t ht htn => hB t (by omega) htn)
        by_cases e : t = s
        · subst e
          rw [e1, e2]
          exact xe_keep hq hq2 hP
        · exact hA t (by omega)
      have move : pl n cnt nxt shr Γ best q P s → wX_keepExtremes_2 post (dr best) (nI n) (nI (2 ^ n)) (d + 1) (nI (s + 1)) (xa cnt) (xc cnt) (xc nxt) (xc shr) (xg Γ) cr eq pt pb (vp_updL et' s (lN (ltop n cnt nxt shr Γ P s))) (vp_updL eb' s (lN (lbot n cnt nxt shr Γ P s))) := by
        intro hP
        refine ih (s + 1) _ _ (by omega) (fun t ht => ?_) (fun t ht htn => ?_)
        · by_cases e : t = s
          · subst e
            rw [pk_uLs, pk_uLs]
            exact xe_new hc hq2 hP
          · rw [pk_uLn e, pk_uLn e]; exact hA t (by omega)
        · rw [pk_uLn (by omega), pk_uLn (by omega)]; exact hB t (by omega) htn
      cases best with
      | true =>
        refine x_ord b1.1 b1.2.1 b2.1 b2.2.1 (fun z => ?_) (fun z => ?_) (fun z => ?_)
        · exact br_f (by decide) (nm_r (nI_1 s) (stay (pl_of (hcmp.2.mp z))))
        · exact br_f (by decide) (nm_r (nI_1 s) (stay (by unfold pl; rw [if_pos rfl]; exact Nat.le_of_lt (hcmp.1.mp z))))
        · refine br_t (by decide) ⟨hin, hin, nm_e ⟨hin, hin, nm_e (nm_r (nI_1 s) (move ?_))⟩⟩
          unfold pl
          rw [if_pos rfl]
          have h1 := hcmp.1
          have h2 := hcmp.2
          omega
      | false =>
        refine x_ord b1.1 b1.2.1 b2.1 b2.2.1 (fun z => ?_) (fun z => ?_) (fun z => ?_)
        · exact br_f (by decide) (nm_r (nI_1 s) (stay (pl_of (hcmp.2.mp z))))
        · refine br_t (by decide) ⟨hin, hin, nm_e ⟨hin, hin, nm_e (nm_r (nI_1 s) (move ?_))⟩⟩
          unfold pl
          rw [if_neg (by decide)]
          exact Nat.le_of_lt (hcmp.1.mp z)
        · refine br_f (by decide) (nm_r (nI_1 s) (stay ?_))
          unfold pl
          rw [if_neg (by decide)]
          have h1 := hcmp.1
          have h2 := hcmp.2
          omega
  exact ⟨n + 1, key n 0 et eb (by omega) (fun t ht => by omega) (fun t _ htn => hE t htn)⟩
/-- the component's extremes -/
theorem x_ext {post : SX → Prop} (hc : cf_ok n cnt nxt shr) (best : Bool)
    (h : ∀ cr' eq' pt' pb' et' eb', (∀ t, t < n → xe n cnt nxt shr Γ best (2 ^ n) t (et' t) (eb' t)) → post ((nI n, nI (2 ^ n), xa cnt, xc cnt, xc nxt, xc shr, xg Γ, cr', eq', pt', pb', et', eb') : SX)) : wpX_findExtremes post ((nI n, nI (2 ^ n), xa cnt, xc cnt, xc nxt, xc shr, xg Γ, cr, eq, pt, pb, et, eb) : SX) (dr best) := by
  have h6 := hc.2.1
  have h64 := bi_pow_le h6
  have hp1 : 1 ≤ 2 ^ n := Nat.one_le_two_pow
  have k47 : ∀ (d P : Nat) (cr' : Nat → Int32) (eq' pt' pb' et' eb' : Nat → Int64), P + d = 2 ^ n → (∀ t, t < n → xe n cnt nxt shr Γ best P t (et' t) (eb' t)) → wX_findExtremes_47 post (dr best) (d + 1) (nI P) (nI n) (nI (2 ^ n)) (xa cnt) (xc cnt) (xc nxt) (xc shr) (xg Γ) cr' eq' pt' pb' et' eb' := by
    intro d
    induction d with
    | zero =>
      intro P cr' eq' pt' pb' et' eb' hP hE
      have e : P = 2 ^ n := by omega
      rw [wX_findExtremes_47]
      refine pk_le (2 ^ n) P (fun _ => h _ _ _ _ _ _ (fun t ht => ?_)) (fun z => by omega)
      rw [← e]; exact hE t ht
    | succ d ih =>
      intro P cr' eq' pt' pb' et' eb' hP hE
      rw [wX_findExtremes_47]
      refine pk_le (2 ^ n) P (fun z => by omega) (fun _ => x_chances hc (by omega) (fun cr2 eq2 pt2 pb2 hpt => x_keep hc best hpt hE (fun et3 eb3 hE3 => nm_r (nI_1 P) (ih (P + 1) _ _ _ _ _ _ (by omega) hE3))))
  have k7 : ∀ (cr' : Nat → Int32) (eq' pt' pb' : Nat → Int64), (∀ t, t < n → pt' t = lN (ltop n cnt nxt shr Γ 0 t) ∧ pb' t = lN (lbot n cnt nxt shr Γ 0 t)) → ∀ (d s : Nat) (et' eb' : Nat → Int64), s + d = n → (∀ t, t < s → et' t = pt' t ∧ eb' t = pb' t) → wX_findExtremes_7 post (dr best) (nI n) (nI (2 ^ n)) (d + 1) (nI s) (xa cnt) (xc cnt) (xc nxt) (xc shr) (xg Γ) cr' eq' pt' pb' et' eb' := by
    intro cr' eq' pt' pb' hpt d
    induction d with
    | zero =>
      intro s et' eb' hs hA
      have e : s = n := by omega
      subst e
      rw [wX_findExtremes_7]
      refine pk_le s s (fun _ => ⟨2 ^ s - 1 + 1, k47 (2 ^ s - 1) 1 _ _ _ _ _ _ (by omega) (fun t ht => ?_)⟩) (fun z => by omega)
      rw [(hA t ht).1, (hA t ht).2, (hpt t ht).1, (hpt t ht).2]
      exact ⟨0, by omega, rfl, rfl, fun p hp => by have : p = 0 := by omega
                                                   subst this; exact pl_refl _ _ _⟩
    | succ d ih =>
      intro s et' eb' hs hA
      have hin : vp_in (nI s) 6 := pk_in s 6 (by omega)
      rw [wX_findExtremes_7]
      refine pk_le n s (fun z => by omega) (fun _ => ⟨hin, hin, ?_⟩)
      rw [nI_clamp (n := s) (by omega)]
      refine nm_e ⟨hin, hin, nm_e (nm_r (nI_1 s) (ih (s + 1) _ _ (by omega) (fun t ht => ?_)))⟩
      by_cases e : t = s
      · subst e; exact ⟨pk_uLs, pk_uLs⟩
      · rw [pk_uLn e, pk_uLn e]; exact hA t (by omega)
  exact x_chances (p := 0) hc (by decide) (fun cr2 eq2 pt2 pb2 hpt => ⟨n + 1, k7 cr2 eq2 pt2 pb2 hpt n 0 et eb (by omega) (fun t ht => by omega)⟩)
end
