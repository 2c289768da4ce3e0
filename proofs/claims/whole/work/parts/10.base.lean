/-- arrays of naturals -/
def xc (f : Nat → Nat) : Nat → Int32 := fun c => nI (f c)
/-- how many actions a state has -/
def xn (cnt : Nat → Nat) (s : Nat) : Nat := if cnt (2 * s) = 0 then 0 else if cnt (2 * s + 1) = 0 then 1 else 2
def xa (cnt : Nat → Nat) : Nat → Int32 := fun s => nI (xn cnt s)
/-- the goals -/
def xg (Γ : Nat) : Nat → Int32 := fun s => if Γ.testBit s = true then 1 else 0
def i_Rel (_ : Nat) (u : SX) (v : SY) : Prop := ∃ (n : Nat) (cnt nxt shr : Nat → Nat) (Γ : Nat) (cr : Nat → Int32) (eq pt pb et eb : Nat → Int64) (mv : Int32) (al : Int64) (pk : Nat → Int32) (gd tp bt : Nat → Int64),
  cf_ok n cnt nxt shr ∧ Γ < 64 ∧ u = ((nI n, nI (2 ^ n), xa cnt, xc cnt, xc nxt, xc shr, xg Γ, cr, eq, pt, pb, et, eb) : SX) ∧ v = ((nI n, nI Γ, mv, al, xc cnt, xc nxt, xc shr, pk, gd, tp, bt) : SY)
theorem i_up {k : Nat} {u : SX} {v : SY} (h : i_Rel k u v) : i_Rel (k + 4) u v := h
theorem x_upd (f : Nat → Nat) (i v : Nat) : upd (xc f) i (nI v) = xc (fs_set f i v) := by
  funext j
  unfold upd xc fs_set
  by_cases e : j = i
  · rw [if_pos e, if_pos e]
  · rw [if_neg e, if_neg e]
theorem ix_2 (s a : Nat) : (2 * nI s) + nI a = nI (2 * s + a) := by
  rw [show (2 : Int32) = nI 2 from rfl, pk_mul, nI_add]
theorem ix_20 (s : Nat) : 2 * nI s = nI (2 * s) := by
  rw [show (2 : Int32) = nI 2 from rfl, pk_mul]
theorem ix_3 (s a : Nat) : (3 * nI s) + nI a = nI (3 * s + a) := by
  rw [show (3 : Int32) = nI 3 from rfl, pk_mul, nI_add]
theorem ix_63 (s a k : Nat) : ((6 * nI s) + (3 * nI a)) + nI k = nI (6 * s + 3 * a + k) := by
  rw [show (3 : Int32) = nI 3 from rfl, show (6 : Int32) = nI 6 from rfl, pk_mul, pk_mul, nI_add, nI_add]
theorem ix_7 (s : Nat) : 7 * nI s = nI (7 * s) := by
  rw [show (7 : Int32) = nI 7 from rfl, pk_mul]
section
variable {n : Nat} {cnt nxt shr : Nat → Nat} {Γ : Nat} {cr : Nat → Int32} {eq pt pb et eb : Nat → Int64} {mv : Int32} {al : Int64} {pk : Nat → Int32} {gd tp bt : Nat → Int64}
theorem x_good_f {post : Int32 → Prop} {x : Int32} (hx : x < 0 ∨ nI n ≤ x) (h : post 0) : wpX_isGood post ((nI n, nI (2 ^ n), xa cnt, xc cnt, xc nxt, xc shr, xg Γ, cr, eq, pt, pb, et, eb) : SX) x := by
  by_cases h0 : x < 0
  · exact br_t h0 h
  · exact br_f h0 (br_t (hx.resolve_left h0) h)
theorem x_good_t {post : Int32 → Prop} {j : Nat} (hn : n ≤ 6) (hj : j < n) (h : post 1) : wpX_isGood post ((nI n, nI (2 ^ n), xa cnt, xc cnt, xc nxt, xc shr, xg Γ, cr, eq, pt, pb, et, eb) : SX) (nI j) :=
  br_f (nI_pos (by omega)) (br_f (nI_ge hj (by omega)) h)
theorem y_bad_t {post : Int32 → Prop} {x : Int32} (hx : x < 0 ∨ nI n ≤ x) (h : post 1) : wpY_bad post ((nI n, nI Γ, mv, al, xc cnt, xc nxt, xc shr, pk, gd, tp, bt) : SY) x := by
  by_cases h0 : x < 0
  · exact br_t h0 h
  · exact br_f h0 (br_t (hx.resolve_left h0) h)
theorem y_bad_f {post : Int32 → Prop} {j : Nat} (hn : n ≤ 6) (hj : j < n) (h : post 0) : wpY_bad post ((nI n, nI Γ, mv, al, xc cnt, xc nxt, xc shr, pk, gd, tp, bt) : SY) (nI j) :=
  br_f (nI_pos (by omega)) (br_f (nI_ge hj (by omega)) (br_t (nI_le (a := j) (b := 5) (by omega) (by omega)) h))
theorem x_plan_f {post : Int32 → Prop} {x : Int32} (hx : x < 0 ∨ nI (2 ^ n) ≤ x) (h : post 0) : wpX_isPlan post ((nI n, nI (2 ^ n), xa cnt, xc cnt, xc nxt, xc shr, xg Γ, cr, eq, pt, pb, et, eb) : SX) x := by
  by_cases h0 : x < 0
  · exact br_t h0 h
  · exact br_f h0 (br_t (hx.resolve_left h0) h)
theorem x_plan_t {post : Int32 → Prop} {j : Nat} (hn : n ≤ 6) (hj : j < 2 ^ n) (h : post 1) : wpX_isPlan post ((nI n, nI (2 ^ n), xa cnt, xc cnt, xc nxt, xc shr, xg Γ, cr, eq, pt, pb, et, eb) : SX) (nI j) := by
  have := bi_pow_le hn
  exact br_f (nI_pos (by omega)) (br_f (nI_ge hj (by omega)) h)
theorem y_plan_t {post : Int32 → Prop} {x : Int32} (hn : n ≤ 6) (hx : x < 0 ∨ nI (2 ^ n) ≤ x) (h : post 1) : wpY_badPlan post ((nI n, nI Γ, mv, al, xc cnt, xc nxt, xc shr, pk, gd, tp, bt) : SY) x := by
  by_cases h0 : x < 0
  · exact br_t h0 h
  · refine br_f h0 ?_
    rw [bi_5 n (by omega)]
    exact br_f (Int32.not_lt.mpr (hx.resolve_left h0)) h
theorem y_plan_f {post : Int32 → Prop} {j : Nat} (hn : n ≤ 6) (hj : j < 2 ^ n) (h : post 0) : wpY_badPlan post ((nI n, nI Γ, mv, al, xc cnt, xc nxt, xc shr, pk, gd, tp, bt) : SY) (nI j) := by
  have := bi_pow_le hn
  refine br_f (nI_pos (by omega)) ?_
  rw [bi_5 n (by omega)]
  exact br_t (nI_lt hj (by omega)) h
theorem i_mk {k : Nat} (h : cf_ok n cnt nxt shr) (hΓ : Γ < 64) : i_Rel k ((nI n, nI (2 ^ n), xa cnt, xc cnt, xc nxt, xc shr, xg Γ, cr, eq, pt, pb, et, eb) : SX) ((nI n, nI Γ, mv, al, xc cnt, xc nxt, xc shr, pk, gd, tp, bt) : SY) :=
  ⟨n, cnt, nxt, shr, Γ, cr, eq, pt, pb, et, eb, mv, al, pk, gd, tp, bt, h, hΓ, rfl, rfl⟩
end
theorem xg_0 : xg 0 = fun _ => 0 := by
  funext s
  unfold xg
  rw [Nat.zero_testBit, if_neg (by decide)]
theorem i_0 {n : Nat} (h2 : 2 ≤ n) (h6 : n ≤ 6) {f g : Int32} (hf : f = nI n) (hg : g = nI (2 ^ n)) {k : Nat} : i_Rel k (f, g, (fun _ => 0), (fun _ => 0), (fun _ => 0), (fun _ => 0), (fun _ => 0), (fun _ => 0), (fun _ => 0), (fun _ => 0), (fun _ => 0), (fun _ => 0), (fun _ => 0)) (f, 0, 0, 0, (fun _ => 0), (fun _ => 0), (fun _ => 0), (fun _ => 0), (fun _ => 0), (fun _ => 0), (fun _ => 0)) := by
  refine ⟨n, fun _ => 0, fun _ => 0, fun _ => 0, 0, fun _ => 0, fun _ => 0, fun _ => 0, fun _ => 0, fun _ => 0, fun _ => 0, 0, 0, fun _ => 0, fun _ => 0, fun _ => 0, fun _ => 0, ⟨h2, h6, fun _ => Nat.zero_le 3, fun _ => Nat.lt_of_lt_of_le (by decide : 0 < 2) h2, fun _ => Nat.zero_le 9, fun _ k h => absurd h (Nat.not_lt_zero k), fun _ _ => rfl⟩, by decide, ?_, ?_⟩
  · rw [xg_0, hf, hg]; rfl
  · rw [hf]; rfl
theorem i_vc0 (k0 : Int32) : wpX_init (fun u => wpY_init (fun v => i_Rel 1 u v) k0) k0 := by
  unfold wpX_init wpY_init
  by_cases h2 : 2 ≤ k0
  · by_cases h6 : k0 ≤ 6
    · have h0 : ¬ k0 < 0 := Int32.not_lt.mpr (Int32.le_trans (by decide) h2)
      obtain ⟨j, hj, rfl⟩ := nI_of h0
      have a2 : 2 ≤ j := (nI_leI (a := 2) (by omega) hj).mp h2
      have a6 : j ≤ 6 := (nI_leI (b := 6) hj (by omega)).mp h6
      refine br_t h2 (br_t h6 (nm_r (bi_5 j (by omega)) ?_))
      exact br_t h2 (br_t h6 (i_0 a2 a6 rfl rfl))
    · refine br_t h2 (br_f h6 (nm_r (bi_5 6 (by omega)) ?_))
      exact br_t h2 (br_f h6 (i_0 (n := 6) (by omega) (by omega) rfl rfl))
  · refine br_f h2 (nm_r (bi_5 2 (by omega)) ?_)
    exact br_f h2 (i_0 (n := 2) (by omega) (by omega) rfl rfl)
theorem i_vc_states {k : Nat} {u : SX} {v : SY} (I : i_Rel k u v) (hk : k + 4 ≤ 2049) : wpX_states (fun r => wpY_states (fun r' => r' = r ∧ i_Rel (k + 4) u v) v) u := by
  obtain ⟨n, cnt, nxt, shr, Γ, cr, eq, pt, pb, et, eb, mv, al, pk, gd, tp, bt, hc, hΓ, rfl, rfl⟩ := I
  exact ⟨rfl, i_mk hc hΓ⟩
