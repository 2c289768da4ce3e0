theorem bp_least {P : Nat → Prop} : ∀ k : Nat, P k → ∃ m, P m ∧ ∀ j, j < m → ¬ P j := by
  intro k
  induction k using Nat.strongRecOn with
  | ind k ih =>
    intro h
    by_cases hj : ∃ j, j < k ∧ P j
    · obtain ⟨j, h1, h2⟩ := hj
      exact ih j h1 h2
    · exact ⟨k, h, fun j h1 h2 => hj ⟨j, h1, h2⟩⟩
/-- plan p is best for all states at once -/
def bp_o (n : Nat) (cnt nxt shr : Nat → Nat) (Γ p : Nat) : Prop := ∀ t, t < n → ∀ q, q < 2 ^ n → pl n cnt nxt shr Γ true q p t
section
variable {n : Nat} {cnt nxt shr : Nat → Nat} {Γ : Nat}
theorem bp_ex (hc : cf_ok n cnt nxt shr) : ∃ p, p < 2 ^ n ∧ bp_o n cnt nxt shr Γ p := by
  obtain ⟨p, hp, hm⟩ := cf_best hc (fun t => Γ.testBit t)
  refine ⟨p, hp, fun t ht q hq => ?_⟩
  have h1 := hm q t ht
  rw [← gn_i hc ht, ← gn_i hc ht, ← dn_i hc, ← dn_i hc] at h1
  unfold pl
  rw [if_pos rfl]
  have h2 : ((gn n cnt nxt shr Γ q t * dn n cnt nxt shr Γ p : Nat) : Int) ≤ ((gn n cnt nxt shr Γ p t * dn n cnt nxt shr Γ q : Nat) : Int) := by
    rw [Int.natCast_mul, Int.natCast_mul]; exact h1
  exact Int.ofNat_le.mp h2
theorem bp_ch (hc : cf_ok n cnt nxt shr) : ∃ p, p < 2 ^ n ∧ p &&& tw cnt n = p ∧ bp_o n cnt nxt shr Γ p ∧ ∀ q, q < p → ¬ bp_o n cnt nxt shr Γ q := by
  obtain ⟨p, hp, ho⟩ := bp_ex (Γ := Γ) hc
  obtain ⟨m, ⟨hm, hmo⟩, hl⟩ := bp_least (P := fun p => p < 2 ^ n ∧ bp_o n cnt nxt shr Γ p) p ⟨hp, ho⟩
  refine ⟨m, hm, ?_, hmo, fun q hq hqo => hl q hq ⟨by omega, hqo⟩⟩
  have hle : m &&& tw cnt n ≤ m := Nat.and_le_left
  by_cases e : m &&& tw cnt n = m
  · exact e
  · exfalso
    refine hl (m &&& tw cnt n) (by omega) ⟨by omega, fun t ht q hq => ?_⟩
    have e2 := gn_tw (cnt := cnt) (nxt := nxt) (shr := shr) (Γ := Γ) (t := t) hm
    have h1 := hmo t ht q hq
    unfold pl at h1 ⊢
    rw [e2.1, e2.2]
    exact h1
/-- the plan's chances are the extremes just when it is best -/
theorem bp_x (hc : cf_ok n cnt nxt shr) {p : Nat} (hp : p < 2 ^ n) {et eb : Nat → Int64} (hE : ∀ t, t < n → xe n cnt nxt shr Γ true (2 ^ n) t (et t) (eb t)) : (∀ t, t < n → lN (ltop n cnt nxt shr Γ p t) = et t ∧ lN (lbot n cnt nxt shr Γ p t) = eb t) ↔ bp_o n cnt nxt shr Γ p := by
  refine ⟨fun h t ht q hq => ?_, fun h t ht => ?_⟩
  · obtain ⟨h1, h2⟩ := h t ht
    obtain ⟨r, hr, e1, e2, hm⟩ := hE t ht
    have b1 := lt_b (Γ := Γ) hc p ht
    have b2 := lt_b (Γ := Γ) hc r ht
    rw [e1, pk_lEQ (by omega) (by omega)] at h1
    rw [e2, pk_lEQ (by omega) (by omega)] at h2
    have h3 := (lt_cmp (Γ := Γ) hc r p t).2.mp (by rw [h1, h2])
    exact pl_trans hc (hm q hq) (pl_of h3)
  · obtain ⟨r, hr, e1, e2, hm⟩ := hE t ht
    have h3 := lk_l hc (lk_x hp hr (h t ht) hm)
    rw [e1, e2, h3.1, h3.2]
    exact ⟨rfl, rfl⟩
theorem bp_y (hc : cf_ok n cnt nxt shr) {p : Nat} (hp : p < 2 ^ n) {tp bt : Nat → Int64} (hY : ∀ t, t < n → yx n cnt nxt shr Γ true t (tp t) (bt t)) : (∀ t, t < n → lN (gn n cnt nxt shr Γ p t) * bt t = tp t * lN (dn n cnt nxt shr Γ p)) ↔ bp_o n cnt nxt shr Γ p := by
  have key : ∀ t, t < n → ∀ r, tp t = lN (gn n cnt nxt shr Γ r t) → bt t = lN (dn n cnt nxt shr Γ r) → (lN (gn n cnt nxt shr Γ p t) * bt t = tp t * lN (dn n cnt nxt shr Γ p) ↔ gn n cnt nxt shr Γ p t * dn n cnt nxt shr Γ r = gn n cnt nxt shr Γ r t * dn n cnt nxt shr Γ p) := by
    intro t ht r e1 e2
    have b1 := dn_b (Γ := Γ) (p := p) hc
    have b2 := gn_b (Γ := Γ) (p := p) hc ht
    have b3 := dn_b (Γ := Γ) (p := r) hc
    have b4 := gn_b (Γ := Γ) (p := r) hc ht
    have m1 := nm_60 (a := gn n cnt nxt shr Γ p t) (d := dn n cnt nxt shr Γ r) (by omega) (by omega)
    have m2 := nm_60 (a := gn n cnt nxt shr Γ r t) (d := dn n cnt nxt shr Γ p) (by omega) (by omega)
    rw [e1, e2, lN_mul, lN_mul, pk_lEQ (by omega) (by omega)]
  refine ⟨fun h t ht q hq => ?_, fun h t ht => ?_⟩
  · obtain ⟨r, hr, e1, e2, hm⟩ := hY t ht
    exact pl_trans hc (hm q hq) (pl_of ((key t ht r e1 e2).mp (h t ht)).symm)
  · obtain ⟨r, hr, e1, e2, hm⟩ := hY t ht
    exact (key t ht r e1 e2).mpr (lk_x hp hr (h t ht) hm)
theorem x_pie {cr : Nat → Int32} {eq pt pb et eb : Nat → Int64} {post : Int32 → Prop} (h6 : n ≤ 6) (h1 : (∀ t, t < n → pt t = et t ∧ pb t = eb t) → post 1) (h0 : ¬ (∀ t, t < n → pt t = et t ∧ pb t = eb t) → post 0) : wpX_planIsExtreme post ((nI n, nI (2 ^ n), xa cnt, xc cnt, xc nxt, xc shr, xg Γ, cr, eq, pt, pb, et, eb) : SX) := by
  have key : ∀ (d s : Nat), s + d = n → (∀ t, t < s → pt t = et t ∧ pb t = eb t) → wX_planIsExtreme_2 post (nI n) (nI (2 ^ n)) (xa cnt) (xc cnt) (xc nxt) (xc shr) (xg Γ) cr eq pt pb et eb (d + 1) (nI s) := by
    intro d
    induction d with
    | zero =>
      intro s hs hI
      have e : s = n := by omega
      subst e
      rw [wX_planIsExtreme_2]
      exact pk_le s s (fun _ => h1 hI) (fun z => by omega)
    | succ d ih =>
      intro s hs hI
      have hin : vp_in (nI s) 6 := pk_in s 6 (by omega)
      rw [wX_planIsExtreme_2]
      dsimp only
      rw [nI_clamp (n := s) (by omega)]
      refine pk_le n s (fun z => by omega) (fun _ => ⟨hin, hin, br_c (fun z => ⟨hin, hin, br_c (fun z2 => nm_r (nI_1 s) (ih (s + 1) (by omega) (fun t ht => ?_))) (fun z2 => h0 (fun y => z2 (y s (by omega)).2))⟩) (fun z => h0 (fun y => z (y s (by omega)).1))⟩)
      by_cases e : t = s
      · subst e; exact ⟨z, z2⟩
      · exact hI t (by omega)
  exact ⟨n + 1, key n 0 (by omega) (fun t ht => by omega)⟩
theorem y_all {mv : Int32} {al : Int64} {pk : Nat → Int32} {gd tp bt : Nat → Int64} {post : Int32 → Prop} (h6 : n ≤ 6) (h1 : (∀ t, t < n → gd t * bt t = tp t * al) → post 1) (h0 : ¬ (∀ t, t < n → gd t * bt t = tp t * al) → post 0) : wpY_allBest post ((nI n, nI Γ, mv, al, xc cnt, xc nxt, xc shr, pk, gd, tp, bt) : SY) := by
  have key : ∀ (d s : Nat), s + d = n → (∀ t, t < s → gd t * bt t = tp t * al) → wY_allBest_2 post (nI n) (nI Γ) mv al (xc cnt) (xc nxt) (xc shr) pk gd tp bt (d + 1) (nI s) := by
    intro d
    induction d with
    | zero =>
      intro s hs hI
      have e : s = n := by omega
      subst e
      rw [wY_allBest_2]
      exact pk_le s s (fun _ => h1 hI) (fun z => by omega)
    | succ d ih =>
      intro s hs hI
      have hin : vp_in (nI s) 6 := pk_in s 6 (by omega)
      rw [wY_allBest_2]
      dsimp only
      rw [nI_clamp (n := s) (by omega)]
      refine pk_le n s (fun z => by omega) (fun _ => pk_le 6 s (fun z => by omega) (fun _ => ⟨hin, hin, hin, br_c (fun z => nm_r (nI_1 s) (ih (s + 1) (by omega) (fun t ht => ?_))) (fun z => h0 (fun y => z (y s (by omega))))⟩))
      by_cases e : t = s
      · subst e; exact z
      · exact hI t (by omega)
  exact ⟨n + 1, key n 0 (by omega) (fun t ht => by omega)⟩
end
theorem i_vc_bestPlan {k : Nat} {u : SX} {v : SY} (I : i_Rel k u v) (hk : k + 4 ≤ 2049) : wpX_bestPlan (fun r u' => wpY_bestPlan (fun r' v' => r' = r ∧ i_Rel (k + 4) u' v') v) u := by
  obtain ⟨n, cnt, nxt, shr, Γ, cr, eq, pt, pb, et, eb, mv, al, pk, gd, tp, bt, hc, hΓ, rfl, rfl⟩ := I
  have h6 := hc.2.1
  have h64 := bi_pow_le h6
  have htl := tw_lt (cnt := cnt) n h6
  obtain ⟨p0, hp0, hpt0, ho, hl⟩ := bp_ch (Γ := Γ) hc
  unfold wpX_bestPlan
  refine x_ext hc true (fun cr1 eq1 pt1 pb1 et1 eb1 hE => ⟨p0 + 1, ?_⟩)
  -- the reference answers p0
  have hY : ∀ u' : SX, (∃ cr' eq' pt' pb', u' = ((nI n, nI (2 ^ n), xa cnt, xc cnt, xc nxt, xc shr, xg Γ, cr', eq', pt', pb', et1, eb1) : SX)) → wpY_bestPlan (fun r' v' => r' = nI p0 ∧ i_Rel (k + 4) u' v') ((nI n, nI Γ, mv, al, xc cnt, xc nxt, xc shr, pk, gd, tp, bt) : SY) := by
    intro u' ⟨cr', eq', pt', pb', hu⟩
    subst hu
    unfold wpY_bestPlan
    refine y_gather hc hΓ true (fun mv1 al1 pk1 gd1 tp1 bt1 hYx => y_twofold hc ⟨p0 + 1, ?_⟩)
    have key : ∀ (d P : Nat) (mv' : Int32) (al' : Int64) (pk' : Nat → Int32) (gd' : Nat → Int64), P + d = p0 → wY_bestPlan_12 (fun r' v' => r' = nI p0 ∧ i_Rel (k + 4) ((nI n, nI (2 ^ n), xa cnt, xc cnt, xc nxt, xc shr, xg Γ, cr', eq', pt', pb', et1, eb1) : SX) v') (nI (tw cnt n)) (d + 1) (nI P) (nI n) (nI Γ) mv' al' (xc cnt) (xc nxt) (xc shr) pk' gd' tp1 bt1 := by
      intro d
      induction d with
      | zero =>
        intro P mv' al' pk' gd' hP
        have e : P = p0 := by omega
        subst e
        rw [wY_bestPlan_12]
        dsimp only
        rw [bi_5 n (by omega), bi_6 P (by omega) _ htl, hpt0]
        refine pk_le (2 ^ n) P (fun z => by omega) (fun _ => br_t rfl ?_)
        unfold wY_bestPlan_34
        refine br_f (by decide) (y_work hc hΓ (by omega) (fun mv2 pk2 gd2 hgd2 => ?_))
        dsimp only
        unfold wY_bestPlan_44
        refine br_f (by decide) (y_all h6 (fun _ => br_f (by decide) ⟨rfl, i_mk hc hΓ⟩) (fun hno => ?_))
        exfalso
        refine hno (fun t ht => ?_)
        rw [hgd2 t ht]
        exact (bp_y hc hp0 hYx).mpr ho t ht
      | succ d ih =>
        intro P mv' al' pk' gd' hP
        rw [wY_bestPlan_12]
        dsimp only
        rw [bi_5 n (by omega), bi_6 P (by omega) _ htl]
        have hal : P &&& tw cnt n < 64 := bi_and_lt (by omega)
        refine pk_le (2 ^ n) P (fun z => by omega) (fun _ => pk_eq (P &&& tw cnt n) P (fun z => ?_) (fun z => ?_))
        · unfold wY_bestPlan_34
          refine br_f (by decide) (y_work hc hΓ (by omega) (fun mv2 pk2 gd2 hgd2 => ?_))
          dsimp only
          unfold wY_bestPlan_44
          refine br_f (by decide) (y_all h6 (fun hall => ?_) (fun hno => br_t rfl (nm_r (nI_1 P) (ih (P + 1) _ _ _ _ (by omega)))))
          exfalso
          refine hl P (by omega) ((bp_y hc (by omega) hYx).mp (fun t ht => ?_))
          rw [← hgd2 t ht]
          exact hall t ht
        · unfold wY_bestPlan_34
          refine br_t rfl ?_
          unfold wY_bestPlan_44
          exact br_t rfl (nm_r (nI_1 P) (ih (P + 1) _ _ _ _ (by omega)))
    exact key p0 0 _ _ _ _ (by omega)
  have key : ∀ (d P : Nat) (cr' : Nat → Int32) (eq' pt' pb' : Nat → Int64), P + d = p0 → wX_bestPlan_7 (fun r u' => wpY_bestPlan (fun r' v' => r' = r ∧ i_Rel (k + 4) u' v') ((nI n, nI Γ, mv, al, xc cnt, xc nxt, xc shr, pk, gd, tp, bt) : SY)) (d + 1) (nI P) (nI n) (nI (2 ^ n)) (xa cnt) (xc cnt) (xc nxt) (xc shr) (xg Γ) cr' eq' pt' pb' et1 eb1 := by
    intro d
    induction d with
    | zero =>
      intro P cr' eq' pt' pb' hP
      have e : P = p0 := by omega
      rw [wX_bestPlan_7]
      refine pk_le (2 ^ n) P (fun z => by omega) (fun _ => x_chances hc (by omega) (fun cr2 eq2 pt2 pb2 hpt2 => x_pie h6 (fun _ => br_f (by decide) ?_) (fun hno => ?_)))
      · rw [e]
        exact hY _ ⟨_, _, _, _, rfl⟩
      · exfalso
        refine hno (fun t ht => ?_)
        have h1 := (bp_x hc hp0 hE).mpr ho t ht
        rw [(hpt2 t ht).1, (hpt2 t ht).2, e]
        exact h1
    | succ d ih =>
      intro P cr' eq' pt' pb' hP
      rw [wX_bestPlan_7]
      refine pk_le (2 ^ n) P (fun z => by omega) (fun _ => x_chances hc (by omega) (fun cr2 eq2 pt2 pb2 hpt2 => x_pie h6 (fun hall => ?_) (fun hno => br_t rfl (nm_r (nI_1 P) (ih (P + 1) _ _ _ _ (by omega))))))
      exfalso
      refine hl P (by omega) ((bp_x hc (by omega) hE).mp (fun t ht => ?_))
      rw [← (hpt2 t ht).1, ← (hpt2 t ht).2]
      exact hall t ht
  exact key p0 0 _ _ _ _ (by omega)
