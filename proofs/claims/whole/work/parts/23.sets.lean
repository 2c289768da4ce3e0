/-- the set of the states below k for which cond holds -/
def sf (cond : Nat → Bool) : Nat → Nat
  | 0 => 0
  | k + 1 => if cond k = true then sf cond k ||| 2 ^ k else sf cond k
theorem sf_lt {cond : Nat → Bool} : ∀ k, k ≤ 6 → sf cond k < 64 := by
  intro k
  induction k with
  | zero => intro _; exact (by decide : (0 : Nat) < 64)
  | succ k ih =>
    intro h
    show (if cond k = true then sf cond k ||| 2 ^ k else sf cond k) < 64
    split
    · exact bi_or_lt (ih (by omega)) (by omega)
    · exact ih (by omega)
theorem sf_t {cond : Nat → Bool} {k : Nat} (h : cond k = true) : sf cond (k + 1) = sf cond k ||| 2 ^ k := if_pos h
theorem sf_f {cond : Nat → Bool} {k : Nat} (h : ¬ cond k = true) : sf cond (k + 1) = sf cond k := if_neg h
theorem x_sure9 {n : Nat} {cnt nxt shr : Nat → Nat} {Γ : Nat} {cr : Nat → Int32} {eq pt pb et eb : Nat → Int64} {post : Int32 → SX → Prop} (h6 : n ≤ 6) {cond : Nat → Bool} (hcond : ∀ t, t < n → (et t = eb t ↔ cond t = true)) (h : post (nI (sf cond n)) ((nI n, nI (2 ^ n), xa cnt, xc cnt, xc nxt, xc shr, xg Γ, cr, eq, pt, pb, et, eb) : SX)) : ∀ (d s : Nat), s + d = n → wX_sure_9 post (nI n) (nI (2 ^ n)) (xa cnt) (xc cnt) (xc nxt) (xc shr) (xg Γ) cr eq pt pb et eb (d + 1) (nI (sf cond s)) (nI s) := by
  intro d
  induction d with
  | zero =>
    intro s hs
    have e : s = n := by omega
    subst e
    rw [wX_sure_9]
    exact pk_le s s (fun _ => h) (fun z => by omega)
  | succ d ih =>
    intro s hs
    have hk := ih (s + 1) (by omega)
    have hin : vp_in (nI s) 6 := pk_in s 6 (by omega)
    have hcs := hcond s (by omega)
    rw [wX_sure_9]
    dsimp only
    rw [nI_clamp (n := s) (by omega), bi_2 _ (sf_lt s (by omega)) s (by omega)]
    refine pk_le n s (fun z => by omega) (fun _ => ⟨hin, hin, br_c (fun z => nm_e (nm_r (nI_1 s) (by rw [sf_t (hcs.mp z)] at hk; exact hk))) (fun z => nm_r (nI_1 s) (by rw [sf_f (fun y => z (hcs.mpr y))] at hk; exact hk))⟩)
theorem y_sure9 {n : Nat} {cnt nxt shr : Nat → Nat} {Γ : Nat} {mv : Int32} {al : Int64} {pk : Nat → Int32} {gd tp bt : Nat → Int64} {post : Int32 → SY → Prop} (h6 : n ≤ 6) {cond : Nat → Bool} (hcond : ∀ t, t < n → (tp t = bt t ↔ cond t = true)) (h : post (nI (sf cond n)) ((nI n, nI Γ, mv, al, xc cnt, xc nxt, xc shr, pk, gd, tp, bt) : SY)) : ∀ (d s : Nat), s + d = n → wY_sure_9 post (nI n) (nI Γ) mv al (xc cnt) (xc nxt) (xc shr) pk gd tp bt (d + 1) (nI (sf cond s)) (nI s) := by
  intro d
  induction d with
  | zero =>
    intro s hs
    have e : s = n := by omega
    subst e
    rw [wY_sure_9]
    exact pk_le s s (fun _ => h) (fun z => by omega)
  | succ d ih =>
    intro s hs
    have hk := ih (s + 1) (by omega)
    have hin : vp_in (nI s) 6 := pk_in s 6 (by omega)
    have hcs := hcond s (by omega)
    rw [wY_sure_9]
    dsimp only
    rw [nI_clamp (n := s) (by omega), bi_2 _ (sf_lt s (by omega)) s (by omega)]
    refine pk_le n s (fun z => by omega) (fun _ => pk_le 6 s (fun z => by omega) (fun _ => ⟨hin, hin, br_c (fun z => nm_e (nm_r (nI_1 s) (by rw [sf_t (hcs.mp z)] at hk; exact hk))) (fun z => nm_r (nI_1 s) (by rw [sf_f (fun y => z (hcs.mpr y))] at hk; exact hk))⟩))
theorem i_vc_sure {k : Nat} {u : SX} {v : SY} (I : i_Rel k u v) (hk : k + 4 ≤ 2049) : wpX_sure (fun r u' => wpY_sure (fun r' v' => r' = r ∧ i_Rel (k + 4) u' v') v) u := by
  obtain ⟨n, cnt, nxt, shr, Γ, cr, eq, pt, pb, et, eb, mv, al, pk, gd, tp, bt, hc, hΓ, rfl, rfl⟩ := I
  have h6 := hc.2.1
  unfold wpX_sure
  refine x_ext hc true (fun cr' eq' pt' pb' et' eb' hE => ⟨n + 1, ?_⟩)
  refine x_sure9 (cond := fun t => decide (et' t = eb' t)) h6 (fun t ht => decide_eq_true_iff.symm) ?_ n 0 (by omega)
  unfold wpY_sure
  refine y_gather hc hΓ true (fun mv' al' pk' gd' tp' bt' hY => ⟨n + 1, ?_⟩)
  refine y_sure9 h6 (fun t ht => ?_) ⟨rfl, i_mk hc hΓ⟩ n 0 (by omega)
  rw [decide_eq_true_iff]
  obtain ⟨q, hq, e1, e2, e3, e4⟩ := lk_e hc (hE t ht) (hY t ht)
  obtain ⟨g, hg, a1, b1⟩ := lt_g (Γ := Γ) hc q t
  have c1 := dn_b (Γ := Γ) (p := q) hc
  have c2 := gn_b (Γ := Γ) (p := q) hc ht
  have c3 := lt_b (Γ := Γ) hc q ht
  rw [e1, e3]
  rw [e2, e4, pk_lEQ (by omega) (by omega), pk_lEQ (by omega) (by omega), a1, b1]
  exact ⟨fun h => Nat.eq_of_mul_eq_mul_left hg h, fun h => by rw [h]⟩
theorem x_hopeless9 {n : Nat} {cnt nxt shr : Nat → Nat} {Γ : Nat} {cr : Nat → Int32} {eq pt pb et eb : Nat → Int64} {post : Int32 → SX → Prop} (h6 : n ≤ 6) {cond : Nat → Bool} (hcond : ∀ t, t < n → (et t = 0 ↔ cond t = true)) (h : post (nI (sf cond n)) ((nI n, nI (2 ^ n), xa cnt, xc cnt, xc nxt, xc shr, xg Γ, cr, eq, pt, pb, et, eb) : SX)) : ∀ (d s : Nat), s + d = n → wX_hopeless_9 post (nI n) (nI (2 ^ n)) (xa cnt) (xc cnt) (xc nxt) (xc shr) (xg Γ) cr eq pt pb et eb (d + 1) (nI (sf cond s)) (nI s) := by
  intro d
  induction d with
  | zero =>
    intro s hs
    have e : s = n := by omega
    subst e
    rw [wX_hopeless_9]
    exact pk_le s s (fun _ => h) (fun z => by omega)
  | succ d ih =>
    intro s hs
    have hk := ih (s + 1) (by omega)
    have hin : vp_in (nI s) 6 := pk_in s 6 (by omega)
    have hcs := hcond s (by omega)
    rw [wX_hopeless_9]
    dsimp only
    rw [nI_clamp (n := s) (by omega), bi_2 _ (sf_lt s (by omega)) s (by omega)]
    refine pk_le n s (fun z => by omega) (fun _ => ⟨hin, br_c (fun z => nm_e (nm_r (nI_1 s) (by rw [sf_t (hcs.mp z)] at hk; exact hk))) (fun z => nm_r (nI_1 s) (by rw [sf_f (fun y => z (hcs.mpr y))] at hk; exact hk))⟩)
theorem y_hopeless9 {n : Nat} {cnt nxt shr : Nat → Nat} {Γ : Nat} {mv : Int32} {al : Int64} {pk : Nat → Int32} {gd tp bt : Nat → Int64} {post : Int32 → SY → Prop} (h6 : n ≤ 6) {cond : Nat → Bool} (hcond : ∀ t, t < n → (tp t = 0 ↔ cond t = true)) (h : post (nI (sf cond n)) ((nI n, nI Γ, mv, al, xc cnt, xc nxt, xc shr, pk, gd, tp, bt) : SY)) : ∀ (d s : Nat), s + d = n → wY_hopeless_9 post (nI n) (nI Γ) mv al (xc cnt) (xc nxt) (xc shr) pk gd tp bt (d + 1) (nI (sf cond s)) (nI s) := by
  intro d
  induction d with
  | zero =>
    intro s hs
    have e : s = n := by omega
    subst e
    rw [wY_hopeless_9]
    exact pk_le s s (fun _ => h) (fun z => by omega)
  | succ d ih =>
    intro s hs
    have hk := ih (s + 1) (by omega)
    have hin : vp_in (nI s) 6 := pk_in s 6 (by omega)
    have hcs := hcond s (by omega)
    rw [wY_hopeless_9]
    dsimp only
    rw [nI_clamp (n := s) (by omega), bi_2 _ (sf_lt s (by omega)) s (by omega)]
    refine pk_le n s (fun z => by omega) (fun _ => pk_le 6 s (fun z => by omega) (fun _ => ⟨hin, br_c (fun z => nm_e (nm_r (nI_1 s) (by rw [sf_t (hcs.mp z)] at hk; exact hk))) (fun z => nm_r (nI_1 s) (by rw [sf_f (fun y => z (hcs.mpr y))] at hk; exact hk))⟩))
theorem i_vc_hopeless {k : Nat} {u : SX} {v : SY} (I : i_Rel k u v) (hk : k + 4 ≤ 2049) : wpX_hopeless (fun r u' => wpY_hopeless (fun r' v' => r' = r ∧ i_Rel (k + 4) u' v') v) u := by
  obtain ⟨n, cnt, nxt, shr, Γ, cr, eq, pt, pb, et, eb, mv, al, pk, gd, tp, bt, hc, hΓ, rfl, rfl⟩ := I
  have h6 := hc.2.1
  unfold wpX_hopeless
  refine x_ext hc true (fun cr' eq' pt' pb' et' eb' hE => ⟨n + 1, ?_⟩)
  refine x_hopeless9 (cond := fun t => decide (et' t = 0)) h6 (fun t ht => decide_eq_true_iff.symm) ?_ n 0 (by omega)
  unfold wpY_hopeless
  refine y_gather hc hΓ true (fun mv' al' pk' gd' tp' bt' hY => ⟨n + 1, ?_⟩)
  refine y_hopeless9 h6 (fun t ht => ?_) ⟨rfl, i_mk hc hΓ⟩ n 0 (by omega)
  rw [decide_eq_true_iff]
  obtain ⟨q, hq, e1, e2, e3, e4⟩ := lk_e hc (hE t ht) (hY t ht)
  obtain ⟨g, hg, a1, b1⟩ := lt_g (Γ := Γ) hc q t
  have c1 := dn_b (Γ := Γ) (p := q) hc
  have c2 := gn_b (Γ := Γ) (p := q) hc ht
  have c3 := lt_b (Γ := Γ) hc q ht
  rw [e1, e3]
  rw [lN_z (by omega), lN_z (by omega), a1]
  exact ⟨fun h => Nat.eq_of_mul_eq_mul_left hg (by rw [h, Nat.mul_zero]), fun h => by rw [h, Nat.mul_zero]⟩
theorem x_forced9 {n : Nat} {cnt nxt shr : Nat → Nat} {Γ : Nat} {cr : Nat → Int32} {eq pt pb et eb : Nat → Int64} {post : Int32 → SX → Prop} (h6 : n ≤ 6) {cond : Nat → Bool} (hcond : ∀ t, t < n → (¬ et t ≤ 0 ↔ cond t = true)) (h : post (nI (sf cond n)) ((nI n, nI (2 ^ n), xa cnt, xc cnt, xc nxt, xc shr, xg Γ, cr, eq, pt, pb, et, eb) : SX)) : ∀ (d s : Nat), s + d = n → wX_forced_9 post (nI n) (nI (2 ^ n)) (xa cnt) (xc cnt) (xc nxt) (xc shr) (xg Γ) cr eq pt pb et eb (d + 1) (nI (sf cond s)) (nI s) := by
  intro d
  induction d with
  | zero =>
    intro s hs
    have e : s = n := by omega
    subst e
    rw [wX_forced_9]
    exact pk_le s s (fun _ => h) (fun z => by omega)
  | succ d ih =>
    intro s hs
    have hk := ih (s + 1) (by omega)
    have hin : vp_in (nI s) 6 := pk_in s 6 (by omega)
    have hcs := hcond s (by omega)
    rw [wX_forced_9]
    dsimp only
    rw [nI_clamp (n := s) (by omega), bi_2 _ (sf_lt s (by omega)) s (by omega)]
    refine pk_le n s (fun z => by omega) (fun _ => ⟨hin, br_c (fun z => nm_r (nI_1 s) (by rw [sf_f (fun y => (hcs.mpr y) z)] at hk; exact hk)) (fun z => nm_e (nm_r (nI_1 s) (by rw [sf_t (hcs.mp z)] at hk; exact hk)))⟩)
theorem y_forced9 {n : Nat} {cnt nxt shr : Nat → Nat} {Γ : Nat} {mv : Int32} {al : Int64} {pk : Nat → Int32} {gd tp bt : Nat → Int64} {post : Int32 → SY → Prop} (h6 : n ≤ 6) {cond : Nat → Bool} (hcond : ∀ t, t < n → (¬ tp t ≤ 0 ↔ cond t = true)) (h : post (nI (sf cond n)) ((nI n, nI Γ, mv, al, xc cnt, xc nxt, xc shr, pk, gd, tp, bt) : SY)) : ∀ (d s : Nat), s + d = n → wY_forced_9 post (nI n) (nI Γ) mv al (xc cnt) (xc nxt) (xc shr) pk gd tp bt (d + 1) (nI (sf cond s)) (nI s) := by
  intro d
  induction d with
  | zero =>
    intro s hs
    have e : s = n := by omega
    subst e
    rw [wY_forced_9]
    exact pk_le s s (fun _ => h) (fun z => by omega)
  | succ d ih =>
    intro s hs
    have hk := ih (s + 1) (by omega)
    have hin : vp_in (nI s) 6 := pk_in s 6 (by omega)
    have hcs := hcond s (by omega)
    rw [wY_forced_9]
    dsimp only
    rw [nI_clamp (n := s) (by omega), bi_2 _ (sf_lt s (by omega)) s (by omega)]
    refine pk_le n s (fun z => by omega) (fun _ => pk_le 6 s (fun z => by omega) (fun _ => ⟨hin, br_c (fun z => nm_r (nI_1 s) (by rw [sf_f (fun y => (hcs.mpr y) z)] at hk; exact hk)) (fun z => nm_e (nm_r (nI_1 s) (by rw [sf_t (hcs.mp z)] at hk; exact hk)))⟩))
theorem i_vc_forced {k : Nat} {u : SX} {v : SY} (I : i_Rel k u v) (hk : k + 4 ≤ 2049) : wpX_forced (fun r u' => wpY_forced (fun r' v' => r' = r ∧ i_Rel (k + 4) u' v') v) u := by
  obtain ⟨n, cnt, nxt, shr, Γ, cr, eq, pt, pb, et, eb, mv, al, pk, gd, tp, bt, hc, hΓ, rfl, rfl⟩ := I
  have h6 := hc.2.1
  unfold wpX_forced
  refine x_ext hc false (fun cr' eq' pt' pb' et' eb' hE => ⟨n + 1, ?_⟩)
  refine x_forced9 (cond := fun t => decide (¬ et' t ≤ 0)) h6 (fun t ht => decide_eq_true_iff.symm) ?_ n 0 (by omega)
  unfold wpY_forced
  refine y_gather hc hΓ false (fun mv' al' pk' gd' tp' bt' hY => ⟨n + 1, ?_⟩)
  refine y_forced9 h6 (fun t ht => ?_) ⟨rfl, i_mk hc hΓ⟩ n 0 (by omega)
  rw [decide_eq_true_iff]
  obtain ⟨q, hq, e1, e2, e3, e4⟩ := lk_e hc (hE t ht) (hY t ht)
  obtain ⟨g, hg, a1, b1⟩ := lt_g (Γ := Γ) hc q t
  have c1 := dn_b (Γ := Γ) (p := q) hc
  have c2 := gn_b (Γ := Γ) (p := q) hc ht
  have c3 := lt_b (Γ := Γ) hc q ht
  rw [e1, e3]
  have z1 : ∀ x : Nat, x < 2 ^ 63 → (lN x ≤ 0 ↔ x = 0) := by
    intro x hx
    have h1 := pk_lLE (a := x) (b := 0) hx (by omega)
    exact ⟨fun h => by have := h1.mp h; omega, fun h => h1.mpr (by omega)⟩
  rw [z1 _ (by omega), z1 _ (by omega), a1]
  exact ⟨fun h z => h (by rw [z, Nat.mul_zero]), fun h z => h (Nat.eq_of_mul_eq_mul_left hg (by rw [z, Nat.mul_zero]))⟩
theorem i_vc_compare {k : Nat} {u : SX} {v : SY} (I : i_Rel k u v) (hk : k + 4 ≤ 2049) (v1 : Int32) (v2 : Int32) : wpX_compare (fun r u' => wpY_compare (fun r' v' => r' = r ∧ i_Rel (k + 4) u' v') v v1 v2) u v1 v2 := by
  obtain ⟨n, cnt, nxt, shr, Γ, cr, eq, pt, pb, et, eb, mv, al, pk, gd, tp, bt, hc, hΓ, rfl, rfl⟩ := I
  have h6 := hc.2.1
  unfold wpX_compare
  have hrel : i_Rel (k + 4) ((nI n, nI (2 ^ n), xa cnt, xc cnt, xc nxt, xc shr, xg Γ, cr, eq, pt, pb, et, eb) : SX) ((nI n, nI Γ, mv, al, xc cnt, xc nxt, xc shr, pk, gd, tp, bt) : SY) := i_mk hc hΓ
  rcases pk_ix v1 (n := n) (by omega) with hb | hb | ⟨s, hs, rfl⟩
  · exact x_good_f (Or.inl hb) (br_t rfl (by unfold wpY_compare; exact y_bad_t (Or.inl hb) (br_f (by decide) ⟨rfl, hrel⟩)))
  · exact x_good_f (Or.inr hb) (br_t rfl (by unfold wpY_compare; exact y_bad_t (Or.inr hb) (br_f (by decide) ⟨rfl, hrel⟩)))
  refine x_good_t h6 hs (br_f (by decide) ?_)
  rcases pk_ix v2 (n := n) (by omega) with hb | hb | ⟨t, ht, rfl⟩
  · exact x_good_f (Or.inl hb) (br_t rfl (by unfold wpY_compare; exact y_bad_f h6 hs (br_t rfl (y_bad_t (Or.inl hb) (br_f (by decide) ⟨rfl, hrel⟩)))))
  · exact x_good_f (Or.inr hb) (br_t rfl (by unfold wpY_compare; exact y_bad_f h6 hs (br_t rfl (y_bad_t (Or.inr hb) (br_f (by decide) ⟨rfl, hrel⟩)))))
  have his : vp_in (nI s) 6 := pk_in s 6 (by omega)
  have hit : vp_in (nI t) 6 := pk_in t 6 (by omega)
  refine x_good_t h6 ht (br_f (by decide) (x_ext hc true (fun cr' eq' pt' pb' et' eb' hE => ⟨his, his, hit, hit, ?_⟩)))
  -- the reference, from its answer
  have hY : ∀ r : Int32, (∀ q p, q < 2 ^ n → p < 2 ^ n → et' s = lN (ltop n cnt nxt shr Γ q s) → eb' s = lN (lbot n cnt nxt shr Γ q s) → et' t = lN (ltop n cnt nxt shr Γ p t) → eb' t = lN (lbot n cnt nxt shr Γ p t) →
      ((gn n cnt nxt shr Γ q s * dn n cnt nxt shr Γ p = gn n cnt nxt shr Γ p t * dn n cnt nxt shr Γ q → r = 0) ∧ (gn n cnt nxt shr Γ q s * dn n cnt nxt shr Γ p < gn n cnt nxt shr Γ p t * dn n cnt nxt shr Γ q → r = 2) ∧ (gn n cnt nxt shr Γ p t * dn n cnt nxt shr Γ q < gn n cnt nxt shr Γ q s * dn n cnt nxt shr Γ p → r = 1))) →
      wpY_compare (fun r' v' => r' = r ∧ i_Rel (k + 4) ((nI n, nI (2 ^ n), xa cnt, xc cnt, xc nxt, xc shr, xg Γ, cr', eq', pt', pb', et', eb') : SX) v') ((nI n, nI Γ, mv, al, xc cnt, xc nxt, xc shr, pk, gd, tp, bt) : SY) (nI s) (nI t) := by
    intro r hr
    unfold wpY_compare
    refine y_bad_f h6 hs (br_t rfl (y_bad_f h6 ht (br_t rfl (y_gather hc hΓ true (fun mv' al' pk' gd' tp' bt' hYx => ⟨his, hit, ?_⟩)))))
    obtain ⟨q, hq, e1, e2, e3, e4⟩ := lk_e hc (hE s hs) (hYx s hs)
    obtain ⟨p, hp, f1, f2, f3, f4⟩ := lk_e hc (hE t ht) (hYx t ht)
    have hr' := hr q p hq hp e3 e4 f3 f4
    have b1 := dn_b (Γ := Γ) (p := q) hc
    have b2 := gn_b (Γ := Γ) (p := q) hc hs
    have b3 := dn_b (Γ := Γ) (p := p) hc
    have b4 := gn_b (Γ := Γ) (p := p) hc ht
    have m1 := nm_60 (a := gn n cnt nxt shr Γ q s) (d := dn n cnt nxt shr Γ p) (by omega) (by omega)
    have m2 := nm_60 (a := gn n cnt nxt shr Γ p t) (d := dn n cnt nxt shr Γ q) (by omega) (by omega)
    rw [nI_clamp (n := s) (by omega), nI_clamp (n := t) (by omega), e1, e2, f1, f2]
    refine nm_r (lN_mul _ _) ⟨hit, his, nm_r (lN_mul _ _) ?_⟩
    rw [pk_lLE (by omega) (by omega), pk_lLE (by omega) (by omega)]
    refine br_c (fun z => br_c (fun z2 => ⟨(hr'.1 (by omega)).symm, i_mk hc hΓ⟩) (fun z2 => ⟨(hr'.2.1 (by omega)).symm, i_mk hc hΓ⟩)) (fun z => ⟨(hr'.2.2 (by omega)).symm, i_mk hc hΓ⟩)
  obtain ⟨q, hq, e1, e2, _⟩ := hE s hs
  obtain ⟨p, hp, f1, f2, _⟩ := hE t ht
  have b1 := lt_b (Γ := Γ) hc q hs
  have b2 := lt_b (Γ := Γ) hc p ht
  rw [nI_clamp (n := s) (by omega), nI_clamp (n := t) (by omega), e1, e2, f1, f2]
  -- the component's parts are those of the reference's plans
  have hsame : ∀ q2 p2, et' s = lN (ltop n cnt nxt shr Γ q2 s) → eb' s = lN (lbot n cnt nxt shr Γ q2 s) → et' t = lN (ltop n cnt nxt shr Γ p2 t) → eb' t = lN (lbot n cnt nxt shr Γ p2 t) → ltop n cnt nxt shr Γ q s = ltop n cnt nxt shr Γ q2 s ∧ lbot n cnt nxt shr Γ q s = lbot n cnt nxt shr Γ q2 s ∧ ltop n cnt nxt shr Γ p t = ltop n cnt nxt shr Γ p2 t ∧ lbot n cnt nxt shr Γ p t = lbot n cnt nxt shr Γ p2 t := by
    intro q2 p2 h1 h2 h3 h4
    have d1 := lt_b (Γ := Γ) hc q2 hs
    have d2 := lt_b (Γ := Γ) hc p2 ht
    rw [e1, pk_lEQ (by omega) (by omega)] at h1
    rw [e2, pk_lEQ (by omega) (by omega)] at h2
    rw [f1, pk_lEQ (by omega) (by omega)] at h3
    rw [f2, pk_lEQ (by omega) (by omega)] at h4
    exact ⟨h1, h2, h3, h4⟩
  refine x_ord b1.1 b1.2.1 b2.1 b2.2.1 (fun z => br_t (by decide) (hY 0 ?_)) (fun z => br_f (by decide) (hY 2 ?_)) (fun z => br_t (by decide) (hY 1 ?_))
  all_goals
    intro q2 p2 _ _ h1 h2 h3 h4
    obtain ⟨g1, g2, g3, g4⟩ := hsame q2 p2 h1 h2 h3 h4
    rw [g1, g2, g3, g4] at z
    have hcmp := lt_cmp2 (Γ := Γ) hc q2 p2 s t
    have c1 := hcmp.1
    have c2 := hcmp.2
    refine ⟨fun w => ?_, fun w => ?_, fun w => ?_⟩ <;> first | rfl | omega
