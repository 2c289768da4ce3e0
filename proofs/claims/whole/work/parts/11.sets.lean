theorem xa_at {cnt : Nat → Nat} {s : Nat} (hs : s < 6) : xa cnt (nI s).toNatClampNeg = nI (xn cnt s) := by rw [nI_clamp (by omega)]; rfl
theorem xc_at {f : Nat → Nat} {x : Int32} {c : Nat} (hx : x = nI c) (hc : c < 1000) : xc f x.toNatClampNeg = nI (f c) := by rw [hx, nI_clamp (by omega)]; rfl
theorem xn_le (cnt : Nat → Nat) (s : Nat) : xn cnt s ≤ 2 := by
  unfold xn
  split
  · omega
  · split <;> omega
/-- the graph with one way more -/
theorem w_ok {n : Nat} {cnt nxt shr : Nat → Nat} (h : cf_ok n cnt nxt shr) {s a x y : Nat} (ha : a < 2) (h1 : a = 1 → ¬ cnt (2 * s) = 0) (hk : cnt (2 * s + a) < 3) (hx : x < n) (hy1 : 1 ≤ y) (hy9 : y ≤ 9) : cf_ok n (fs_set cnt (2 * s + a) (cnt (2 * s + a) + 1)) (fs_set nxt (3 * (2 * s + a) + cnt (2 * s + a)) x) (fs_set shr (3 * (2 * s + a) + cnt (2 * s + a)) y) := by
  obtain ⟨h2, h6, hc, hn, hr, hp, h0⟩ := h
  refine ⟨h2, h6, fun c => ?_, fun c => ?_, fun c => ?_, fun c k hkc => ?_, fun t ht => ?_⟩
  · have := hc c
    unfold fs_set
    split <;> omega
  · have := hn c
    unfold fs_set
    split <;> omega
  · have := hr c
    unfold fs_set
    split <;> omega
  · unfold fs_set at hkc ⊢
    by_cases e : c = 2 * s + a
    · rw [if_pos e] at hkc
      subst e
      by_cases e2 : k = cnt (2 * s + a)
      · rw [if_pos (by omega)]; omega
      · rw [if_neg (by omega)]; exact hp _ k (by omega)
    · rw [if_neg e] at hkc
      have := hc c
      rw [if_neg (by omega)]
      exact hp c k hkc
  · unfold fs_set at ht ⊢
    by_cases e : 2 * t = 2 * s + a
    · rw [if_pos e] at ht; omega
    · rw [if_neg e] at ht
      have := h0 t ht
      by_cases e2 : 2 * t + 1 = 2 * s + a
      · exfalso
        have e3 : t = s := by omega
        subst e3
        exact h1 (by omega) ht
      · rw [if_neg e2]; exact this
theorem w_s0 {cnt : Nat → Nat} {t a v : Nat} : fs_set cnt (2 * t + a) v (2 * t) = if a = 0 then v else cnt (2 * t) := by
  unfold fs_set
  by_cases e : a = 0
  · rw [if_pos e, if_pos (by omega)]
  · rw [if_neg e, if_neg (by omega)]
theorem w_s1 {cnt : Nat → Nat} {t a v : Nat} : fs_set cnt (2 * t + a) v (2 * t + 1) = if a = 1 then v else cnt (2 * t + 1) := by
  unfold fs_set
  by_cases e : a = 1
  · rw [if_pos e, if_pos (by omega)]
  · rw [if_neg e, if_neg (by omega)]
theorem w_xn {cnt : Nat → Nat} {t a : Nat} (h0 : cnt (2 * t) = 0 → cnt (2 * t + 1) = 0) (ha : a < 2) (hle : a ≤ xn cnt t) : xn (fs_set cnt (2 * t + a) (cnt (2 * t + a) + 1)) t = if a = xn cnt t then a + 1 else xn cnt t := by
  unfold xn at hle ⊢
  rw [w_s0, w_s1]
  have ha' : a = 0 ∨ a = 1 := by omega
  by_cases c0 : cnt (2 * t) = 0
  · have c1 := h0 c0
    rcases ha' with e | e <;> subst e <;> simp_all
  · by_cases c1 : cnt (2 * t + 1) = 0
    · rcases ha' with e | e <;> subst e <;> simp_all
    · rcases ha' with e | e <;> subst e <;> simp_all
theorem w_xa1 {cnt : Nat → Nat} {s a : Nat} (h0 : cnt (2 * s) = 0 → cnt (2 * s + 1) = 0) (ha : a < 2) (hac : a = xn cnt s) : upd (xa cnt) s (nI (a + 1)) = xa (fs_set cnt (2 * s + a) (cnt (2 * s + a) + 1)) := by
  funext t
  unfold upd xa
  by_cases e : t = s
  · rw [if_pos e]
    subst e
    apply congrArg nI
    rw [w_xn h0 ha (by omega), if_pos hac]
  · rw [if_neg e]
    apply congrArg nI
    unfold xn fs_set
    rw [if_neg (by omega : ¬ 2 * t = 2 * s + a), if_neg (by omega : ¬ 2 * t + 1 = 2 * s + a)]
theorem w_xa2 {cnt : Nat → Nat} {s a : Nat} (h0 : cnt (2 * s) = 0 → cnt (2 * s + 1) = 0) (ha : a < 2) (hle : a ≤ xn cnt s) (hac : ¬ a = xn cnt s) : xa cnt = xa (fs_set cnt (2 * s + a) (cnt (2 * s + a) + 1)) := by
  funext t
  unfold xa
  apply congrArg nI
  by_cases e : t = s
  · subst e
    rw [w_xn h0 ha hle, if_neg hac]
  · unfold xn fs_set
    rw [if_neg (by omega : ¬ 2 * t = 2 * s + a), if_neg (by omega : ¬ 2 * t + 1 = 2 * s + a)]
theorem w_neg {x : Int32} (h : x < 0) : x >>> ((4 : Int32) &&& 31) < 0 := by
  rw [Int32.lt_iff_toInt_lt] at h ⊢
  rw [pk_shr x _ 4 (by decide), Int.shiftRight_eq_div_pow]
  have h0 : (0 : Int32).toInt = 0 := by decide
  rw [h0] at h ⊢
  have : ((2 : Nat) ^ 4 : Nat) = 16 := rfl
  omega
theorem w_sh {j : Nat} (hj : j < 2 ^ 31) : nI j >>> ((4 : Int32) &&& 31) = nI (j / 16) := pk_shrN hj _ 4 (by decide)
theorem w_an {j : Nat} (hj : j < 2 ^ 31) : nI j &&& 15 = nI (j % 16) := pk_andN (by omega) 4 (by decide)
theorem w_dv {j : Nat} (hj : j < 2 ^ 31) : nI j / 16 = nI (j / 16) := pk_div (d := 16) hj (by omega) (by omega)
theorem w_rm {j : Nat} (hj : j < 2 ^ 31) : nI j - nI j / 16 * 16 = nI (j % 16) := pk_rem (d := 16) hj (by omega) (by omega)
section
variable {n : Nat} {cnt nxt shr : Nat → Nat} {Γ : Nat} {cr : Nat → Int32} {eq pt pb et eb : Nat → Int64} {mv : Int32} {al : Int64} {pk : Nat → Int32} {gd tp bt : Nat → Int64}
/-- the reference's way, behind the test of the action -/
theorem y_way_3 {post : Int32 → SY → Prop} {s a : Nat} {z : Int32} (h : post (-3) ((nI n, nI Γ, mv, al, xc cnt, xc nxt, xc shr, pk, gd, tp, bt) : SY)) (hz : z < 0 ∨ ∃ j, j < 2 ^ 31 ∧ z = nI j ∧ (n ≤ j / 16 ∨ j % 16 < 1 ∨ 9 < j % 16)) (hn : n ≤ 6) : wY_way_38 post (nI s) (nI a) z (nI n) (nI Γ) mv al (xc cnt) (xc nxt) (xc shr) pk gd tp bt := by
  unfold wY_way_38
  by_cases h0 : z < 0
  · exact br_t h0 h
  · refine br_f h0 ⟨by decide, ?_⟩
    obtain ⟨j, hj, e, hc⟩ := hz.resolve_left h0
    subst e
    rw [w_rm hj, w_dv hj]
    refine pk_le n (j / 16) (fun _ => h) (fun h1 => ⟨by decide, ?_⟩)
    refine pk_lt (j % 16) 1 (fun _ => h) (fun h2 => ⟨by decide, ?_⟩)
    exact pk_le (j % 16) 9 (fun h3 => by omega) (fun _ => h)
theorem y_way_ok {post : Int32 → SY → Prop} {s a j : Nat} (hs : s < 6) (ha : a < 2) (hj : j < 2 ^ 31) (h1 : j / 16 < n) (h2 : 1 ≤ j % 16) (h3 : j % 16 ≤ 9) (hn : n ≤ 6) (hc : ∀ c, cnt c ≤ 3)
    (hf : 2 < cnt (2 * s + a) → post (-4) ((nI n, nI Γ, mv, al, xc cnt, xc nxt, xc shr, pk, gd, tp, bt) : SY))
    (hg : cnt (2 * s + a) < 3 → post (nI (cnt (2 * s + a) + 1)) ((nI n, nI Γ, mv, al, xc (fs_set cnt (2 * s + a) (cnt (2 * s + a) + 1)), xc (fs_set nxt (3 * (2 * s + a) + cnt (2 * s + a)) (j / 16)), xc (fs_set shr (3 * (2 * s + a) + cnt (2 * s + a)) (j % 16)), pk, gd, tp, bt) : SY)) : wY_way_38 post (nI s) (nI a) (nI j) (nI n) (nI Γ) mv al (xc cnt) (xc nxt) (xc shr) pk gd tp bt := by
  unfold wY_way_38
  have hcc := hc (2 * s + a)
  refine br_f (nI_pos (by omega)) ⟨by decide, ?_⟩
  rw [w_rm hj, w_dv hj, ix_2]
  refine pk_le n (j / 16) (fun _ => by omega) (fun _ => ⟨by decide, ?_⟩)
  refine pk_lt (j % 16) 1 (fun _ => by omega) (fun _ => ⟨by decide, ?_⟩)
  refine pk_le (j % 16) 9 (fun _ => ?_) (fun _ => by omega)
  refine ⟨pk_in (2 * s + a) 12 (by omega), nm_r (xc_at rfl (by omega)) ?_⟩
  rw [ix_63]
  refine pk_le (cnt (2 * s + a)) 2 (fun hk => ?_) (fun hk => hf hk)
  have e : 6 * s + 3 * a + cnt (2 * s + a) = 3 * (2 * s + a) + cnt (2 * s + a) := by omega
  rw [e]
  refine ⟨by decide, pk_in (3 * (2 * s + a) + cnt (2 * s + a)) 36 (by omega), ?_⟩
  rw [nI_clamp (by omega), nI_clamp (by omega)]
  refine nm_r (x_upd _ _ _) ⟨by decide, pk_in (3 * (2 * s + a) + cnt (2 * s + a)) 36 (by omega), ?_⟩
  refine nm_r (x_upd _ _ _) ⟨pk_in (2 * s + a) 12 (by omega), ?_⟩
  rw [nI_1]
  refine nm_r (x_upd _ _ _) ?_
  exact hg (by omega)
end
theorem i_vc_way {k : Nat} {u : SX} {v : SY} (I : i_Rel k u v) (hk : k + 4 ≤ 2049) (v1 : Int32) (v2 : Int32) (v3 : Int32) : wpX_way (fun r u' => wpY_way (fun r' v' => r' = r ∧ i_Rel (k + 4) u' v') v v1 v2 v3) u v1 v2 v3 := by
  obtain ⟨n, cnt, nxt, shr, Γ, cr, eq, pt, pb, et, eb, mv, al, pk, gd, tp, bt, hc, hΓ, rfl, rfl⟩ := I
  have HC := hc
  obtain ⟨h2, h6, hc3, hn, hr, hp, h0⟩ := HC
  unfold wpX_way
  have hrel : i_Rel (k + 4) ((nI n, nI (2 ^ n), xa cnt, xc cnt, xc nxt, xc shr, xg Γ, cr, eq, pt, pb, et, eb) : SX) ((nI n, nI Γ, mv, al, xc cnt, xc nxt, xc shr, pk, gd, tp, bt) : SY) := i_mk hc hΓ
  rcases pk_ix v1 (n := n) (by omega) with hb | hb | ⟨s, hs, rfl⟩
  · exact x_good_f (Or.inl hb) (br_t rfl (by unfold wpY_way; exact y_bad_t (Or.inl hb) (br_f (by decide) ⟨rfl, hrel⟩)))
  · exact x_good_f (Or.inr hb) (br_t rfl (by unfold wpY_way; exact y_bad_t (Or.inr hb) (br_f (by decide) ⟨rfl, hrel⟩)))
  refine x_good_t h6 hs (br_f (by decide) ?_)
  by_cases hn2 : v2 < 0
  · refine br_t hn2 ?_
    unfold wpY_way
    exact y_bad_f h6 hs (br_t rfl (br_t hn2 ⟨rfl, hrel⟩))
  refine br_f hn2 ?_
  obtain ⟨a, ha, rfl⟩ := nI_of hn2
  refine pk_le 2 a (fun h => ?_) (fun h => ?_)
  · unfold wpY_way
    exact y_bad_f h6 hs (br_t rfl (br_f hn2 (pk_lt 1 a (fun _ => ⟨rfl, hrel⟩) (fun h => by omega))))
  refine ⟨pk_in s 6 (by omega), ?_⟩
  rw [xa_at (by omega)]
  -- the reference, up to the way
  have hY : ∀ (post : Int32 → SY → Prop), (a ≤ xn cnt s → wY_way_38 post (nI s) (nI a) v3 (nI n) (nI Γ) mv al (xc cnt) (xc nxt) (xc shr) pk gd tp bt) → (¬ a ≤ xn cnt s → post (-2) ((nI n, nI Γ, mv, al, xc cnt, xc nxt, xc shr, pk, gd, tp, bt) : SY)) → wpY_way post ((nI n, nI Γ, mv, al, xc cnt, xc nxt, xc shr, pk, gd, tp, bt) : SY) (nI s) (nI a) v3 := by
    intro post hA hB
    unfold wpY_way
    refine y_bad_f h6 hs (br_t rfl (br_f hn2 (pk_lt 1 a (fun h => by omega) (fun _ => ?_))))
    refine pk_eq a 1 (fun e => ⟨?_, ?_⟩) (fun e => ?_)
    · rw [ix_20]; exact pk_in (2 * s) 12 (by omega)
    · rw [ix_20, xc_at rfl (by omega)]
      have := hc3 (2 * s)
      refine pk_eq (cnt (2 * s)) 0 (fun e0 => hB ?_) (fun e0 => hA ?_)
      · unfold xn; rw [if_pos e0]; omega
      · unfold xn; rw [if_neg e0]; split <;> omega
    · exact hA (by omega)
  have hxl := xn_le cnt s
  refine pk_le a (xn cnt s) (fun hle => ?_) (fun hle => hY _ (fun z => by omega) (fun _ => ⟨rfl, hrel⟩))
  by_cases hz : v3 < 0
  · refine nm_e (nm_e ?_)
    refine x_good_f (Or.inl (w_neg hz)) (br_t rfl ?_)
    exact hY _ (fun _ => y_way_3 ⟨rfl, hrel⟩ (Or.inl hz) h6) (fun z => by omega)
  obtain ⟨j, hj, rfl⟩ := nI_of hz
  refine nm_r (w_sh hj) (nm_r (w_an hj) ?_)
  by_cases g1 : j / 16 < n
  · refine x_good_t h6 g1 (br_f (by decide) ?_)
    refine pk_lt (j % 16) 1 (fun h1 => hY _ (fun _ => y_way_3 ⟨rfl, hrel⟩ (Or.inr ⟨j, hj, rfl, Or.inr (Or.inl h1)⟩) h6) (fun z => by omega)) (fun g2 => ?_)
    refine pk_le (j % 16) 9 (fun g3 => ?_) (fun h1 => hY _ (fun _ => y_way_3 ⟨rfl, hrel⟩ (Or.inr ⟨j, hj, rfl, Or.inr (Or.inr h1)⟩) h6) (fun z => by omega))
    have hcc := hc3 (2 * s + a)
    refine nm_r (ix_2 s a) ⟨pk_in (2 * s + a) 12 (by omega), nm_r (xc_at rfl (by omega)) ?_⟩
    rw [ix_3]
    refine pk_lt (cnt (2 * s + a)) 3 (fun hk3 => ?_) (fun hk3 => hY _ (fun _ => y_way_ok (by omega) h hj g1 (by omega) g3 h6 hc3 (fun _ => ⟨rfl, hrel⟩) (fun z => by omega)) (fun z => by omega))
    have h1' : a = 1 → ¬ cnt (2 * s) = 0 := by
      intro e z
      unfold xn at hle
      rw [if_pos z] at hle; omega
    have hok := w_ok (x := j / 16) (y := j % 16) hc (s := s) h h1' hk3 g1 (by omega) g3
    refine ⟨pk_in (3 * (2 * s + a) + cnt (2 * s + a)) 36 (by omega), ?_⟩
    rw [nI_clamp (by omega), nI_clamp (by omega), nI_clamp (by omega)]
    refine nm_r (x_upd _ _ _) ⟨pk_in (3 * (2 * s + a) + cnt (2 * s + a)) 36 (by omega), nm_r (x_upd _ _ _) ⟨pk_in (2 * s + a) 12 (by omega), ?_⟩⟩
    rw [nI_1]
    refine nm_r (x_upd _ _ _) ⟨pk_in s 6 (by omega), ?_⟩
    refine pk_eq a (xn cnt s) (fun he => ⟨pk_in s 6 (by omega), ?_⟩) (fun he => ?_)
    · rw [nI_1]
      refine nm_r (w_xa1 (h0 s) h he) ?_
      exact hY _ (fun _ => y_way_ok (by omega) h hj g1 (by omega) g3 h6 hc3 (fun z => by omega) (fun _ => ⟨rfl, i_mk hok hΓ⟩)) (fun z => by omega)
    · rw [w_xa2 (h0 s) h hle he]
      exact hY _ (fun _ => y_way_ok (by omega) h hj g1 (by omega) g3 h6 hc3 (fun z => by omega) (fun _ => ⟨rfl, i_mk hok hΓ⟩)) (fun z => by omega)
  · refine x_good_f (Or.inr (nI_le (by omega) (by omega))) (br_t rfl ?_)
    exact hY _ (fun _ => y_way_3 ⟨rfl, hrel⟩ (Or.inr ⟨j, hj, rfl, Or.inl (by omega)⟩) h6) (fun z => by omega)
