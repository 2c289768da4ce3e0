section
variable {n : Nat} {cnt nxt shr : Nat → Nat} {Γ : Nat}
/-- two extremes are the same chance -/
theorem lk_x {best : Bool} {t q r : Nat} (hq : q < 2 ^ n) (hr : r < 2 ^ n) (h1 : ∀ p, p < 2 ^ n → pl n cnt nxt shr Γ best p q t) (h2 : ∀ p, p < 2 ^ n → pl n cnt nxt shr Γ best p r t) : gn n cnt nxt shr Γ q t * dn n cnt nxt shr Γ r = gn n cnt nxt shr Γ r t * dn n cnt nxt shr Γ q := pl_anti (h2 q hq) (h1 r hr)
theorem lk_l (hc : cf_ok n cnt nxt shr) {q r t : Nat} (h : gn n cnt nxt shr Γ q t * dn n cnt nxt shr Γ r = gn n cnt nxt shr Γ r t * dn n cnt nxt shr Γ q) : ltop n cnt nxt shr Γ q t = ltop n cnt nxt shr Γ r t ∧ lbot n cnt nxt shr Γ q t = lbot n cnt nxt shr Γ r t := eu_low (dn_b hc).1 (dn_b hc).1 h
/-- the component's extreme, by the reference's plan -/
theorem lk_e (hc : cf_ok n cnt nxt shr) {best : Bool} {t : Nat} {a b c d : Int64} (hx : xe n cnt nxt shr Γ best (2 ^ n) t a b) (hy : yx n cnt nxt shr Γ best t c d) : ∃ q, q < 2 ^ n ∧ c = lN (gn n cnt nxt shr Γ q t) ∧ d = lN (dn n cnt nxt shr Γ q) ∧ a = lN (ltop n cnt nxt shr Γ q t) ∧ b = lN (lbot n cnt nxt shr Γ q t) := by
  obtain ⟨q, hq, e1, e2, hm⟩ := hx
  obtain ⟨r, hr, e3, e4, hm2⟩ := hy
  have h := lk_l hc (lk_x hq hr hm hm2)
  exact ⟨r, hr, e3, e4, by rw [e1, h.1], by rw [e2, h.2]⟩
theorem lt_cmp2 (hc : cf_ok n cnt nxt shr) (p q s t : Nat) : (ltop n cnt nxt shr Γ p s * lbot n cnt nxt shr Γ q t < ltop n cnt nxt shr Γ q t * lbot n cnt nxt shr Γ p s ↔ gn n cnt nxt shr Γ p s * dn n cnt nxt shr Γ q < gn n cnt nxt shr Γ q t * dn n cnt nxt shr Γ p) ∧ (ltop n cnt nxt shr Γ p s * lbot n cnt nxt shr Γ q t = ltop n cnt nxt shr Γ q t * lbot n cnt nxt shr Γ p s ↔ gn n cnt nxt shr Γ p s * dn n cnt nxt shr Γ q = gn n cnt nxt shr Γ q t * dn n cnt nxt shr Γ p) := by
  obtain ⟨g1, hg1, a1, b1⟩ := lt_g (Γ := Γ) hc p s
  obtain ⟨g2, hg2, a2, b2⟩ := lt_g (Γ := Γ) hc q t
  have e1 : gn n cnt nxt shr Γ p s * dn n cnt nxt shr Γ q = (g1 * g2) * (ltop n cnt nxt shr Γ p s * lbot n cnt nxt shr Γ q t) := by rw [a1, b2]; grind
  have e2 : gn n cnt nxt shr Γ q t * dn n cnt nxt shr Γ p = (g1 * g2) * (ltop n cnt nxt shr Γ q t * lbot n cnt nxt shr Γ p s) := by rw [a2, b1]; grind
  have hg := Nat.mul_pos hg1 hg2
  rw [e1, e2]
  exact ⟨⟨fun h => Nat.mul_lt_mul_of_pos_left h hg, fun h => Nat.lt_of_mul_lt_mul_left h⟩, ⟨fun h => by rw [h], fun h => Nat.eq_of_mul_eq_mul_left hg h⟩⟩
end
/-- both sides stop at a state that is not good, or at a plan that is none; else they go on -/
theorem i_vc_chanceTop {k : Nat} {u : SX} {v : SY} (I : i_Rel k u v) (hk : k + 4 ≤ 2049) (v1 : Int32) (v2 : Int32) : wpX_chanceTop (fun r u' => wpY_chanceTop (fun r' v' => r' = r ∧ i_Rel (k + 4) u' v') v v1 v2) u v1 v2 := by
  obtain ⟨n, cnt, nxt, shr, Γ, cr, eq, pt, pb, et, eb, mv, al, pk, gd, tp, bt, hc, hΓ, rfl, rfl⟩ := I
  have h6 := hc.2.1
  have h64 := bi_pow_le h6
  unfold wpX_chanceTop
  have hrel : i_Rel (k + 4) ((nI n, nI (2 ^ n), xa cnt, xc cnt, xc nxt, xc shr, xg Γ, cr, eq, pt, pb, et, eb) : SX) ((nI n, nI Γ, mv, al, xc cnt, xc nxt, xc shr, pk, gd, tp, bt) : SY) := i_mk hc hΓ
  rcases pk_ix v1 (n := n) (by omega) with hb | hb | ⟨s, hs, rfl⟩
  · exact x_good_f (Or.inl hb) (br_t rfl (by unfold wpY_chanceTop; exact y_bad_t (Or.inl hb) (br_f (by decide) ⟨rfl, hrel⟩)))
  · exact x_good_f (Or.inr hb) (br_t rfl (by unfold wpY_chanceTop; exact y_bad_t (Or.inr hb) (br_f (by decide) ⟨rfl, hrel⟩)))
  refine x_good_t h6 hs (br_f (by decide) ?_)
  rcases pk_ix v2 (n := 2 ^ n) (by omega) with hb | hb | ⟨p, hp, rfl⟩
  · exact x_plan_f (Or.inl hb) (br_t rfl (by unfold wpY_chanceTop; exact y_bad_f h6 hs (br_t rfl (y_plan_t h6 (Or.inl hb) (br_f (by decide) ⟨rfl, hrel⟩)))))
  · exact x_plan_f (Or.inr hb) (br_t rfl (by unfold wpY_chanceTop; exact y_bad_f h6 hs (br_t rfl (y_plan_t h6 (Or.inr hb) (br_f (by decide) ⟨rfl, hrel⟩)))))
  refine x_plan_t h6 hp (br_f (by decide) (x_chances hc (by omega) (fun cr' eq' pt' pb' hpt => ⟨pk_in s 6 (by omega), ?_⟩)))
  unfold wpY_chanceTop
  refine y_bad_f h6 hs (br_t rfl (y_plan_f h6 hp (br_t rfl (y_work hc hΓ (by omega) (fun mv' pk' gd' hgd => ⟨pk_in s 6 (by omega), ?_⟩)))))
  rw [nI_clamp (n := s) (by omega), hgd s hs]
  have b1 := dn_b (Γ := Γ) (p := p) hc
  have b2 := gn_b (Γ := Γ) (p := p) hc hs
  refine y_top (by omega) b1.1 (by omega) ⟨?_, i_mk hc hΓ⟩
  rw [(hpt s hs).1]
  rfl
theorem i_vc_chanceBottom {k : Nat} {u : SX} {v : SY} (I : i_Rel k u v) (hk : k + 4 ≤ 2049) (v1 : Int32) (v2 : Int32) : wpX_chanceBottom (fun r u' => wpY_chanceBottom (fun r' v' => r' = r ∧ i_Rel (k + 4) u' v') v v1 v2) u v1 v2 := by
  obtain ⟨n, cnt, nxt, shr, Γ, cr, eq, pt, pb, et, eb, mv, al, pk, gd, tp, bt, hc, hΓ, rfl, rfl⟩ := I
  have h6 := hc.2.1
  have h64 := bi_pow_le h6
  unfold wpX_chanceBottom
  have hrel : i_Rel (k + 4) ((nI n, nI (2 ^ n), xa cnt, xc cnt, xc nxt, xc shr, xg Γ, cr, eq, pt, pb, et, eb) : SX) ((nI n, nI Γ, mv, al, xc cnt, xc nxt, xc shr, pk, gd, tp, bt) : SY) := i_mk hc hΓ
  rcases pk_ix v1 (n := n) (by omega) with hb | hb | ⟨s, hs, rfl⟩
  · exact x_good_f (Or.inl hb) (br_t rfl (by unfold wpY_chanceBottom; exact y_bad_t (Or.inl hb) (br_f (by decide) ⟨rfl, hrel⟩)))
  · exact x_good_f (Or.inr hb) (br_t rfl (by unfold wpY_chanceBottom; exact y_bad_t (Or.inr hb) (br_f (by decide) ⟨rfl, hrel⟩)))
  refine x_good_t h6 hs (br_f (by decide) ?_)
  rcases pk_ix v2 (n := 2 ^ n) (by omega) with hb | hb | ⟨p, hp, rfl⟩
  · exact x_plan_f (Or.inl hb) (br_t rfl (by unfold wpY_chanceBottom; exact y_bad_f h6 hs (br_t rfl (y_plan_t h6 (Or.inl hb) (br_f (by decide) ⟨rfl, hrel⟩)))))
  · exact x_plan_f (Or.inr hb) (br_t rfl (by unfold wpY_chanceBottom; exact y_bad_f h6 hs (br_t rfl (y_plan_t h6 (Or.inr hb) (br_f (by decide) ⟨rfl, hrel⟩)))))
  refine x_plan_t h6 hp (br_f (by decide) (x_chances hc (by omega) (fun cr' eq' pt' pb' hpt => ⟨pk_in s 6 (by omega), ?_⟩)))
  unfold wpY_chanceBottom
  refine y_bad_f h6 hs (br_t rfl (y_plan_f h6 hp (br_t rfl (y_work hc hΓ (by omega) (fun mv' pk' gd' hgd => ⟨pk_in s 6 (by omega), ?_⟩)))))
  rw [nI_clamp (n := s) (by omega), hgd s hs]
  have b1 := dn_b (Γ := Γ) (p := p) hc
  have b2 := gn_b (Γ := Γ) (p := p) hc hs
  refine y_bottom (by omega) b1.1 (by omega) ⟨?_, i_mk hc hΓ⟩
  rw [(hpt s hs).2]
  rfl
theorem i_vc_bestTop {k : Nat} {u : SX} {v : SY} (I : i_Rel k u v) (hk : k + 4 ≤ 2049) (v1 : Int32) : wpX_bestTop (fun r u' => wpY_bestTop (fun r' v' => r' = r ∧ i_Rel (k + 4) u' v') v v1) u v1 := by
  obtain ⟨n, cnt, nxt, shr, Γ, cr, eq, pt, pb, et, eb, mv, al, pk, gd, tp, bt, hc, hΓ, rfl, rfl⟩ := I
  have h6 := hc.2.1
  unfold wpX_bestTop
  have hrel : i_Rel (k + 4) ((nI n, nI (2 ^ n), xa cnt, xc cnt, xc nxt, xc shr, xg Γ, cr, eq, pt, pb, et, eb) : SX) ((nI n, nI Γ, mv, al, xc cnt, xc nxt, xc shr, pk, gd, tp, bt) : SY) := i_mk hc hΓ
  rcases pk_ix v1 (n := n) (by omega) with hb | hb | ⟨s, hs, rfl⟩
  · exact x_good_f (Or.inl hb) (br_t rfl (by unfold wpY_bestTop; exact y_bad_t (Or.inl hb) (br_f (by decide) ⟨rfl, hrel⟩)))
  · exact x_good_f (Or.inr hb) (br_t rfl (by unfold wpY_bestTop; exact y_bad_t (Or.inr hb) (br_f (by decide) ⟨rfl, hrel⟩)))
  refine x_good_t h6 hs (br_f (by decide) (x_ext hc true (fun cr' eq' pt' pb' et' eb' hE => ⟨pk_in s 6 (by omega), ?_⟩)))
  unfold wpY_bestTop
  refine y_bad_f h6 hs (br_t rfl (y_gather hc hΓ true (fun mv' al' pk' gd' tp' bt' hY => ⟨pk_in s 6 (by omega), pk_in s 6 (by omega), ?_⟩)))
  obtain ⟨q, hq, e1, e2, e3, e4⟩ := lk_e hc (hE s hs) (hY s hs)
  rw [nI_clamp (n := s) (by omega), e1, e2]
  have b1 := dn_b (Γ := Γ) (p := q) hc
  have b2 := gn_b (Γ := Γ) (p := q) hc hs
  refine y_top (by omega) b1.1 (by omega) ⟨?_, i_mk hc hΓ⟩
  rw [e3]
  rfl
theorem i_vc_bestBottom {k : Nat} {u : SX} {v : SY} (I : i_Rel k u v) (hk : k + 4 ≤ 2049) (v1 : Int32) : wpX_bestBottom (fun r u' => wpY_bestBottom (fun r' v' => r' = r ∧ i_Rel (k + 4) u' v') v v1) u v1 := by
  obtain ⟨n, cnt, nxt, shr, Γ, cr, eq, pt, pb, et, eb, mv, al, pk, gd, tp, bt, hc, hΓ, rfl, rfl⟩ := I
  have h6 := hc.2.1
  unfold wpX_bestBottom
  have hrel : i_Rel (k + 4) ((nI n, nI (2 ^ n), xa cnt, xc cnt, xc nxt, xc shr, xg Γ, cr, eq, pt, pb, et, eb) : SX) ((nI n, nI Γ, mv, al, xc cnt, xc nxt, xc shr, pk, gd, tp, bt) : SY) := i_mk hc hΓ
  rcases pk_ix v1 (n := n) (by omega) with hb | hb | ⟨s, hs, rfl⟩
  · exact x_good_f (Or.inl hb) (br_t rfl (by unfold wpY_bestBottom; exact y_bad_t (Or.inl hb) (br_f (by decide) ⟨rfl, hrel⟩)))
  · exact x_good_f (Or.inr hb) (br_t rfl (by unfold wpY_bestBottom; exact y_bad_t (Or.inr hb) (br_f (by decide) ⟨rfl, hrel⟩)))
  refine x_good_t h6 hs (br_f (by decide) (x_ext hc true (fun cr' eq' pt' pb' et' eb' hE => ⟨pk_in s 6 (by omega), ?_⟩)))
  unfold wpY_bestBottom
  refine y_bad_f h6 hs (br_t rfl (y_gather hc hΓ true (fun mv' al' pk' gd' tp' bt' hY => ⟨pk_in s 6 (by omega), pk_in s 6 (by omega), ?_⟩)))
  obtain ⟨q, hq, e1, e2, e3, e4⟩ := lk_e hc (hE s hs) (hY s hs)
  rw [nI_clamp (n := s) (by omega), e1, e2]
  have b1 := dn_b (Γ := Γ) (p := q) hc
  have b2 := gn_b (Γ := Γ) (p := q) hc hs
  refine y_bottom (by omega) b1.1 (by omega) ⟨?_, i_mk hc hΓ⟩
  rw [e4]
  rfl
theorem i_vc_worstTop {k : Nat} {u : SX} {v : SY} (I : i_Rel k u v) (hk : k + 4 ≤ 2049) (v1 : Int32) : wpX_worstTop (fun r u' => wpY_worstTop (fun r' v' => r' = r ∧ i_Rel (k + 4) u' v') v v1) u v1 := by
  obtain ⟨n, cnt, nxt, shr, Γ, cr, eq, pt, pb, et, eb, mv, al, pk, gd, tp, bt, hc, hΓ, rfl, rfl⟩ := I
  have h6 := hc.2.1
  unfold wpX_worstTop
  have hrel : i_Rel (k + 4) ((nI n, nI (2 ^ n), xa cnt, xc cnt, xc nxt, xc shr, xg Γ, cr, eq, pt, pb, et, eb) : SX) ((nI n, nI Γ, mv, al, xc cnt, xc nxt, xc shr, pk, gd, tp, bt) : SY) := i_mk hc hΓ
  rcases pk_ix v1 (n := n) (by omega) with hb | hb | ⟨s, hs, rfl⟩
  · exact x_good_f (Or.inl hb) (br_t rfl (by unfold wpY_worstTop; exact y_bad_t (Or.inl hb) (br_f (by decide) ⟨rfl, hrel⟩)))
  · exact x_good_f (Or.inr hb) (br_t rfl (by unfold wpY_worstTop; exact y_bad_t (Or.inr hb) (br_f (by decide) ⟨rfl, hrel⟩)))
  refine x_good_t h6 hs (br_f (by decide) (x_ext hc false (fun cr' eq' pt' pb' et' eb' hE => ⟨pk_in s 6 (by omega), ?_⟩)))
  unfold wpY_worstTop
  refine y_bad_f h6 hs (br_t rfl (y_gather hc hΓ false (fun mv' al' pk' gd' tp' bt' hY => ⟨pk_in s 6 (by omega), pk_in s 6 (by omega), ?_⟩)))
  obtain ⟨q, hq, e1, e2, e3, e4⟩ := lk_e hc (hE s hs) (hY s hs)
  rw [nI_clamp (n := s) (by omega), e1, e2]
  have b1 := dn_b (Γ := Γ) (p := q) hc
  have b2 := gn_b (Γ := Γ) (p := q) hc hs
  refine y_top (by omega) b1.1 (by omega) ⟨?_, i_mk hc hΓ⟩
  rw [e3]
  rfl
theorem i_vc_worstBottom {k : Nat} {u : SX} {v : SY} (I : i_Rel k u v) (hk : k + 4 ≤ 2049) (v1 : Int32) : wpX_worstBottom (fun r u' => wpY_worstBottom (fun r' v' => r' = r ∧ i_Rel (k + 4) u' v') v v1) u v1 := by
  obtain ⟨n, cnt, nxt, shr, Γ, cr, eq, pt, pb, et, eb, mv, al, pk, gd, tp, bt, hc, hΓ, rfl, rfl⟩ := I
  have h6 := hc.2.1
  unfold wpX_worstBottom
  have hrel : i_Rel (k + 4) ((nI n, nI (2 ^ n), xa cnt, xc cnt, xc nxt, xc shr, xg Γ, cr, eq, pt, pb, et, eb) : SX) ((nI n, nI Γ, mv, al, xc cnt, xc nxt, xc shr, pk, gd, tp, bt) : SY) := i_mk hc hΓ
  rcases pk_ix v1 (n := n) (by omega) with hb | hb | ⟨s, hs, rfl⟩
  · exact x_good_f (Or.inl hb) (br_t rfl (by unfold wpY_worstBottom; exact y_bad_t (Or.inl hb) (br_f (by decide) ⟨rfl, hrel⟩)))
  · exact x_good_f (Or.inr hb) (br_t rfl (by unfold wpY_worstBottom; exact y_bad_t (Or.inr hb) (br_f (by decide) ⟨rfl, hrel⟩)))
  refine x_good_t h6 hs (br_f (by decide) (x_ext hc false (fun cr' eq' pt' pb' et' eb' hE => ⟨pk_in s 6 (by omega), ?_⟩)))
  unfold wpY_worstBottom
  refine y_bad_f h6 hs (br_t rfl (y_gather hc hΓ false (fun mv' al' pk' gd' tp' bt' hY => ⟨pk_in s 6 (by omega), pk_in s 6 (by omega), ?_⟩)))
  obtain ⟨q, hq, e1, e2, e3, e4⟩ := lk_e hc (hE s hs) (hY s hs)
  rw [nI_clamp (n := s) (by omega), e1, e2]
  have b1 := dn_b (Γ := Γ) (p := q) hc
  have b2 := gn_b (Γ := Γ) (p := q) hc hs
  refine y_bottom (by omega) b1.1 (by omega) ⟨?_, i_mk hc hΓ⟩
  rw [e4]
  rfl
