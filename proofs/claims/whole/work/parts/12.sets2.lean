section
variable {n : Nat} {cnt nxt shr : Nat → Nat} {Γ : Nat} {cr : Nat → Int32} {eq pt pb et eb : Nat → Int64} {mv : Int32} {al : Int64} {pk : Nat → Int32} {gd tp bt : Nat → Int64}
theorem y_acount {post : Int32 → Prop} {s : Nat} (hs : s < 6) (hc : ∀ c, cnt c ≤ 3) (h : post (nI (xn cnt s))) : wpY_actionCount post ((nI n, nI Γ, mv, al, xc cnt, xc nxt, xc shr, pk, gd, tp, bt) : SY) (nI s) := by
  unfold wpY_actionCount
  dsimp only
  have h1 := hc (2 * s)
  have h2 := hc (2 * s + 1)
  rw [ix_20, show nI (2 * s) + 1 = nI (2 * s + 1) from nI_1 _, xc_at rfl (by omega), xc_at rfl (by omega)]
  unfold xn at h
  refine ⟨pk_in (2 * s) 12 (by omega), pk_eq (cnt (2 * s)) 0 (fun e => ?_) (fun e => ⟨pk_in (2 * s + 1) 12 (by omega), pk_eq (cnt (2 * s + 1)) 0 (fun e1 => ?_) (fun e1 => ?_)⟩)⟩
  · rw [if_pos e] at h; exact h
  · rw [if_neg e, if_pos e1] at h; exact h
  · rw [if_neg e, if_neg e1] at h; exact h
end
/-- the graph without a state's actions -/
def st_cn (cnt : Nat → Nat) (s : Nat) : Nat → Nat := fs_set (fs_set cnt (2 * s) 0) (2 * s + 1) 0
theorem st_ok {n : Nat} {cnt nxt shr : Nat → Nat} (h : cf_ok n cnt nxt shr) (s : Nat) : cf_ok n (st_cn cnt s) nxt shr := by
  obtain ⟨h2, h6, hc, hn, hr, hp, h0⟩ := h
  have hle : ∀ c, st_cn cnt s c = 0 ∨ st_cn cnt s c = cnt c := by
    intro c
    unfold st_cn fs_set
    split
    · exact Or.inl rfl
    · split
      · exact Or.inl rfl
      · exact Or.inr rfl
  refine ⟨h2, h6, fun c => ?_, hn, hr, fun c k hk => ?_, fun t ht => ?_⟩
  · have := hc c
    rcases hle c with e | e <;> rw [e] <;> omega
  · rcases hle c with e | e
    · rw [e] at hk; omega
    · rw [e] at hk; exact hp c k hk
  · by_cases e : t = s
    · subst e; exact fs_set_eq _ _ _
    · unfold st_cn fs_set at ht ⊢
      rw [if_neg (by omega), if_neg (by omega)] at ht
      rw [if_neg (by omega), if_neg (by omega)]
      exact h0 t ht
theorem st_xa (cnt : Nat → Nat) (s : Nat) : upd (xa cnt) s 0 = xa (st_cn cnt s) := by
  funext t
  unfold upd xa
  by_cases e : t = s
  · subst e
    rw [if_pos rfl]
    unfold xn st_cn
    rw [fs_set_ne _ _ (by omega), fs_set_eq, if_pos rfl]; rfl
  · rw [if_neg e]
    apply congrArg nI
    have e1 : st_cn cnt s (2 * t) = cnt (2 * t) := by
      unfold st_cn
      rw [fs_set_ne _ _ (by omega), fs_set_ne _ _ (by omega)]
    have e2 : st_cn cnt s (2 * t + 1) = cnt (2 * t + 1) := by
      unfold st_cn
      rw [fs_set_ne _ _ (by omega), fs_set_ne _ _ (by omega)]
    unfold xn
    rw [e1, e2]
theorem x_upd0 (f : Nat → Nat) (i : Nat) : upd (xc f) i 0 = xc (fs_set f i 0) := x_upd f i 0
theorem i_vc_still {k : Nat} {u : SX} {v : SY} (I : i_Rel k u v) (hk : k + 4 ≤ 2049) (v1 : Int32) : wpX_still (fun r u' => wpY_still (fun r' v' => r' = r ∧ i_Rel (k + 4) u' v') v v1) u v1 := by
  obtain ⟨n, cnt, nxt, shr, Γ, cr, eq, pt, pb, et, eb, mv, al, pk, gd, tp, bt, hc, hΓ, rfl, rfl⟩ := I
  have HC := hc
  obtain ⟨h2, h6, hc3, hn, hr, hp, h0⟩ := HC
  unfold wpX_still
  have hrel : i_Rel (k + 4) ((nI n, nI (2 ^ n), xa cnt, xc cnt, xc nxt, xc shr, xg Γ, cr, eq, pt, pb, et, eb) : SX) ((nI n, nI Γ, mv, al, xc cnt, xc nxt, xc shr, pk, gd, tp, bt) : SY) := i_mk hc hΓ
  rcases pk_ix v1 (n := n) (by omega) with hb | hb | ⟨s, hs, rfl⟩
  · exact x_good_f (Or.inl hb) (br_t rfl (by unfold wpY_still; exact y_bad_t (Or.inl hb) (br_f (by decide) ⟨rfl, hrel⟩)))
  · exact x_good_f (Or.inr hb) (br_t rfl (by unfold wpY_still; exact y_bad_t (Or.inr hb) (br_f (by decide) ⟨rfl, hrel⟩)))
  refine x_good_t h6 hs (br_f (by decide) ⟨pk_in s 6 (by omega), nm_r (xa_at (by omega)) ⟨pk_in s 6 (by omega), ?_⟩⟩)
  rw [nI_clamp (by omega)]
  refine nm_r (st_xa cnt s) ?_
  refine ⟨3, ?_⟩
  rw [wX_still_26]
  refine br_f (by decide) ⟨?_, ?_⟩
  · exact pk_in (2 * s) 12 (by omega) (ix_2 s 0)
  have e0 : (2 * nI s) + 0 = nI (2 * s) := ix_2 s 0
  have e1 : (2 * nI s) + 1 = nI (2 * s + 1) := ix_2 s 1
  rw [e0, nI_clamp (by omega)]
  refine nm_r (x_upd0 _ _) (nm_e ?_)
  rw [wX_still_26]
  refine br_f (by decide) ⟨?_, ?_⟩
  · exact pk_in (2 * s + 1) 12 (by omega) e1
  have e1' : (2 * nI s) + (0 + 1) = nI (2 * s + 1) := ix_2 s 1
  rw [e1', nI_clamp (by omega)]
  refine nm_r (x_upd0 _ _) (nm_e ?_)
  rw [wX_still_26]
  refine br_t (by decide) ?_
  unfold wpY_still
  refine y_bad_f h6 hs (br_t rfl (y_acount (by omega) hc3 ?_))
  rw [ix_20]
  refine ⟨pk_in (2 * s) 12 (by omega), ?_⟩
  rw [nI_clamp (by omega), show nI (2 * s) + 1 = nI (2 * s + 1) from nI_1 _, nI_clamp (by omega)]
  refine nm_r (x_upd0 _ _) ⟨pk_in (2 * s + 1) 12 (by omega), nm_r (x_upd0 _ _) ⟨rfl, ?_⟩⟩
  exact i_mk (st_ok hc s) hΓ
theorem i_vc_actions {k : Nat} {u : SX} {v : SY} (I : i_Rel k u v) (hk : k + 4 ≤ 2049) (v1 : Int32) : wpX_actions (fun r => wpY_actions (fun r' => r' = r ∧ i_Rel (k + 4) u v) v v1) u v1 := by
  obtain ⟨n, cnt, nxt, shr, Γ, cr, eq, pt, pb, et, eb, mv, al, pk, gd, tp, bt, hc, hΓ, rfl, rfl⟩ := I
  have HC := hc
  obtain ⟨h2, h6, hc3, hn, hr, hp, h0⟩ := HC
  unfold wpX_actions
  have hrel : i_Rel (k + 4) ((nI n, nI (2 ^ n), xa cnt, xc cnt, xc nxt, xc shr, xg Γ, cr, eq, pt, pb, et, eb) : SX) ((nI n, nI Γ, mv, al, xc cnt, xc nxt, xc shr, pk, gd, tp, bt) : SY) := i_mk hc hΓ
  rcases pk_ix v1 (n := n) (by omega) with hb | hb | ⟨s, hs, rfl⟩
  · exact x_good_f (Or.inl hb) (br_t rfl (by unfold wpY_actions; exact y_bad_t (Or.inl hb) (br_f (by decide) ⟨rfl, hrel⟩)))
  · exact x_good_f (Or.inr hb) (br_t rfl (by unfold wpY_actions; exact y_bad_t (Or.inr hb) (br_f (by decide) ⟨rfl, hrel⟩)))
  refine x_good_t h6 hs (br_f (by decide) ⟨pk_in s 6 (by omega), ?_⟩)
  rw [xa_at (by omega)]
  unfold wpY_actions
  exact y_bad_f h6 hs (br_t rfl (y_acount (by omega) hc3 ⟨rfl, hrel⟩))
theorem vn_0 : vp_nar .boolean 0 = 0 := by decide
theorem vn_1 : vp_nar .boolean 1 = 1 := by decide
theorem xg_at {Γ s : Nat} (hs : s < 6) : xg Γ (nI s).toNatClampNeg = if Γ.testBit s = true then 1 else 0 := by rw [nI_clamp (by omega)]; rfl
theorem xg_off {Γ s : Nat} (hΓ : Γ < 64) (hs : s < 6) : upd (xg Γ) s 0 = xg (bi_off Γ s) := by
  funext t
  unfold upd xg
  by_cases ht : t < 6
  · rw [(bi_off_t Γ hΓ s hs).2 t ht]
    by_cases e : t = s
    · rw [if_pos e, if_pos e, if_neg (by decide)]
    · rw [if_neg e, if_neg e]
  · have e : ¬ t = s := by omega
    rw [if_neg e]
    have h1 : Γ.testBit t = false := Nat.testBit_lt_two_pow (Nat.lt_of_lt_of_le hΓ (Nat.pow_le_pow_right (n := 2) (by decide) (by omega : 6 ≤ t)))
    have h2 : (bi_off Γ s).testBit t = false := Nat.testBit_lt_two_pow (Nat.lt_of_lt_of_le (bi_off_t Γ hΓ s hs).1 (Nat.pow_le_pow_right (n := 2) (by decide) (by omega : 6 ≤ t)))
    rw [h1, h2]
theorem xg_on {Γ s : Nat} (hΓ : Γ < 64) (hs : s < 6) : upd (xg Γ) s 1 = xg (bi_off Γ s ||| 2 ^ s) := by
  funext t
  unfold upd xg
  rw [bi_or_t]
  by_cases e : t = s
  · rw [if_pos e, if_pos e, if_pos rfl]
  · rw [if_neg e, if_neg e]
    have := congrFun (xg_off hΓ hs) t
    unfold upd xg at this
    rw [if_neg e] at this
    exact this
theorem i_vc_goal {k : Nat} {u : SX} {v : SY} (I : i_Rel k u v) (hk : k + 4 ≤ 2049) (v1 : Int32) (v2 : Int32) : wpX_goal (fun r u' => wpY_goal (fun r' v' => r' = r ∧ i_Rel (k + 4) u' v') v v1 v2) u v1 v2 := by
  obtain ⟨n, cnt, nxt, shr, Γ, cr, eq, pt, pb, et, eb, mv, al, pk, gd, tp, bt, hc, hΓ, rfl, rfl⟩ := I
  have HC := hc
  obtain ⟨h2, h6, hc3, hn, hr, hp, h0⟩ := HC
  unfold wpX_goal
  have hrel : i_Rel (k + 4) ((nI n, nI (2 ^ n), xa cnt, xc cnt, xc nxt, xc shr, xg Γ, cr, eq, pt, pb, et, eb) : SX) ((nI n, nI Γ, mv, al, xc cnt, xc nxt, xc shr, pk, gd, tp, bt) : SY) := i_mk hc hΓ
  rcases pk_ix v1 (n := n) (by omega) with hb | hb | ⟨s, hs, rfl⟩
  · exact x_good_f (Or.inl hb) (br_t rfl (by unfold wpY_goal; exact y_bad_t (Or.inl hb) (br_f (by decide) ⟨rfl, hrel⟩)))
  · exact x_good_f (Or.inr hb) (br_t rfl (by unfold wpY_goal; exact y_bad_t (Or.inr hb) (br_f (by decide) ⟨rfl, hrel⟩)))
  have hY : ∀ (r : Int32) (Γ' : Nat), Γ' < 64 → r = (if Γ.testBit s = true then 1 else 0) → Γ' = (if v2 = 0 then bi_off Γ s else bi_off Γ s ||| 2 ^ s) → ∀ u' : SX, u' = ((nI n, nI (2 ^ n), xa cnt, xc cnt, xc nxt, xc shr, xg Γ', cr, eq, pt, pb, et, eb) : SX) → wpY_goal (fun r' v' => r' = r ∧ i_Rel (k + 4) u' v') ((nI n, nI Γ, mv, al, xc cnt, xc nxt, xc shr, pk, gd, tp, bt) : SY) (nI s) v2 := by
    intro r Γ' hΓ' hr' hG u' hu
    unfold wpY_goal
    refine y_bad_f h6 hs (br_t rfl (nm_r (bi_1 Γ hΓ s (by omega)) (nm_r (bi_3 Γ hΓ s (by omega)) ?_)))
    refine br_c (fun e => ?_) (fun e => ?_)
    · rw [if_pos e] at hG
      subst hu
      subst hG
      exact ⟨hr'.symm, i_mk hc hΓ'⟩
    · rw [if_neg e] at hG
      refine nm_r (bi_2 _ (bi_off_t Γ hΓ s (by omega)).1 s (by omega)) ?_
      subst hu
      subst hG
      exact ⟨hr'.symm, i_mk hc hΓ'⟩
  refine x_good_t h6 hs (br_f (by decide) ⟨pk_in s 6 (by omega), ?_⟩)
  rw [xg_at (by omega)]
  have hX : ∀ z : Int32, z = (if Γ.testBit s = true then 1 else 0) → wX_goal_24 (fun r u' => wpY_goal (fun r' v' => r' = r ∧ i_Rel (k + 4) u' v') ((nI n, nI Γ, mv, al, xc cnt, xc nxt, xc shr, pk, gd, tp, bt) : SY) (nI s) v2) (nI s) v2 z (nI n) (nI (2 ^ n)) (xa cnt) (xc cnt) (xc nxt) (xc shr) (xg Γ) cr eq pt pb et eb := by
    intro z hz
    unfold wX_goal_24
    rw [nI_clamp (by omega), vn_0, vn_1]
    refine br_c (fun e => ⟨pk_in s 6 (by omega), nm_r (xg_off hΓ (by omega)) ?_⟩) (fun e => ⟨pk_in s 6 (by omega), nm_r (xg_on hΓ (by omega)) ?_⟩)
    · exact hY _ _ (bi_off_t Γ hΓ s (by omega)).1 hz (by rw [if_pos e]) _ rfl
    · exact hY _ _ (bi_or_lt (bi_off_t Γ hΓ s (by omega)).1 (by omega)) hz (by rw [if_neg e]) _ rfl
  by_cases hb : Γ.testBit s = true
  · rw [if_pos hb] at hX ⊢
    exact br_f (by decide) (hX 1 rfl)
  · rw [if_neg hb] at hX ⊢
    exact br_t rfl (hX 0 rfl)
