/-- the numbers of the component's equations under plan p, k columns being cleared -/
noncomputable def xr (n : Nat) (cnt nxt shr : Nat → Nat) (Γ p k i j : Nat) : Int := fs_R n (cf_m cnt (cf_ch cnt p)) (cf_nx nxt (cf_ch cnt p)) (cf_w shr (cf_ch cnt p)) (fun t => Γ.testBit t) (cf_M n (cf_m cnt (cf_ch cnt p)) (cf_nx nxt (cf_ch cnt p)) (fun t => Γ.testBit t)) k i j
noncomputable def xd (n : Nat) (cnt nxt shr : Nat → Nat) (Γ p k : Nat) : Int := fs_D n (cf_m cnt (cf_ch cnt p)) (cf_nx nxt (cf_ch cnt p)) (cf_w shr (cf_ch cnt p)) (fs_lv (cf_M n (cf_m cnt (cf_ch cnt p)) (cf_nx nxt (cf_ch cnt p)) (fun t => Γ.testBit t)) k)
/-- row i of the equations' cells holds f -/
def xrow (n : Nat) (eq : Nat → Int64) (i : Nat) (f : Nat → Int) : Prop := ∀ j, j ≤ n → eq (7 * i + j) = lj (f j)
theorem xi_7 (i j : Nat) : 7 * nI i + nI j = nI (7 * i + j) := by rw [ix_7, nI_add]
theorem xu1 {n s : Nat} {eq : Nat → Int64} {A : Nat → Int} {W : Int} (hs : s ≤ n) (hA : ∀ j, j ≤ n → eq (7 * s + j) = lj (A j)) (t : Nat) (ht : t ≤ n) : vp_updL eq (7 * s + s) (lj (A s + W)) (7 * s + t) = lj (A t + (if s = t then W else 0)) := by
  by_cases e : s = t
  · rw [if_pos e, ← e, pk_uLs]
  · rw [if_neg e, pk_uLn (by omega), hA t ht, Int.add_zero]
theorem xu2 {n s x : Nat} {eq : Nat → Int64} {A : Nat → Int} {W : Int} (hs : s ≤ n) (hx : x ≤ n) (hA : ∀ j, j ≤ n → eq (7 * s + j) = lj (A j)) (j : Nat) (hj : j ≤ n) :
    vp_updL (vp_updL eq (7 * s + s) (lj (A s + W))) (7 * s + x) ((vp_updL eq (7 * s + s) (lj (A s + W))) (7 * s + x) - lj W) (7 * s + j) = lj (A j + (if s = j then W else 0) - (if x = j then W else 0)) := by
  by_cases e : x = j
  · rw [if_pos e, e, pk_uLs, xu1 hs hA j hj, lj_sub]
  · rw [if_neg e, pk_uLn (by omega), xu1 hs hA j hj, Int.sub_zero]
/-- what way l of state s puts into column j, by its share -/
def xk (n : Nat) (nx : Nat → Nat → Nat) (s l j : Nat) : Int := (if s = j then 1 else 0) - (if ¬ j = n ∧ nx s l = j then 1 else 0)
theorem xk_w {n : Nat} {nx : Nat → Nat → Nat} {s l : Nat} (h : nx s l < n) (j : Nat) (W : Int) : (if s = j then W else 0) - (if nx s l = j then W else 0) = W * xk n nx s l j := by
  unfold xk
  by_cases e1 : s = j
  · by_cases e2 : nx s l = j
    · rw [if_pos e1, if_pos e2, if_pos e1, if_pos ⟨by omega, e2⟩]; omega
    · rw [if_pos e1, if_neg e2, if_pos e1, if_neg (fun z => e2 z.2)]; omega
  · by_cases e2 : nx s l = j
    · rw [if_neg e1, if_pos e2, if_neg e1, if_pos ⟨by omega, e2⟩]; omega
    · rw [if_neg e1, if_neg e2, if_neg e1, if_neg (fun z => e2 z.2)]; omega
section
variable {n : Nat} {cnt nxt shr : Nat → Nat} {Γ : Nat} {cr : Nat → Int32} {pt pb et eb : Nat → Int64}
theorem xr_0f {p s : Nat} (hs : s < n) (hM : ¬ cf_M n (cf_m cnt (cf_ch cnt p)) (cf_nx nxt (cf_ch cnt p)) (fun t => Γ.testBit t) s = true) (j : Nat) : xr n cnt nxt shr Γ p 0 s j = (if s = j then 1 else 0) + (if j = n ∧ Γ.testBit s = true then 1 else 0) := by
  unfold xr
  rw [fs_R_0 (n := n) s j (fun e => by omega), if_neg hM]
theorem xr_0t {p s : Nat} (hs : s < n) (hM : cf_M n (cf_m cnt (cf_ch cnt p)) (cf_nx nxt (cf_ch cnt p)) (fun t => Γ.testBit t) s = true) (j : Nat) : xr n cnt nxt shr Γ p 0 s j = fs_sum (fun l => cf_w shr (cf_ch cnt p) s l * xk n (cf_nx nxt (cf_ch cnt p)) s l j) (cf_m cnt (cf_ch cnt p) s) := by
  unfold xr
  rw [fs_R_0 (n := n) s j (fun e => by omega), if_pos hM]
  rfl
/-- the ways of a moving state are written -/
theorem x_we97 {post : SX → Prop} (hc : cf_ok n cnt nxt shr) {p s : Nat} (hs : s < n) {eq0 : Nat → Int64}
    (h : ∀ eq', xrow n eq' s (fun j => fs_sum (fun l => cf_w shr (cf_ch cnt p) s l * xk n (cf_nx nxt (cf_ch cnt p)) s l j) (cf_m cnt (cf_ch cnt p) s)) → (∀ q, ¬ (7 * s ≤ q ∧ q ≤ 7 * s + n) → eq' q = eq0 q) → post ((nI n, nI (2 ^ n), xa cnt, xc cnt, xc nxt, xc shr, xg Γ, cr, eq', pt, pb, et, eb) : SX)) :
    ∀ (d i : Nat) (eq : Nat → Int64), i + d = cf_m cnt (cf_ch cnt p) s → xrow n eq s (fun j => fs_sum (fun l => cf_w shr (cf_ch cnt p) s l * xk n (cf_nx nxt (cf_ch cnt p)) s l j) i) → (∀ q, ¬ (7 * s ≤ q ∧ q ≤ 7 * s + n) → eq q = eq0 q) →
    wX_writeEquation_97 post (nI s) (nI (7 * s)) (nI (2 * s + cf_ch cnt p s)) (nI n) (nI (2 ^ n)) (d + 1) (nI i) (xa cnt) (xc cnt) (xc nxt) (xc shr) (xg Γ) cr eq pt pb et eb := by
  have HC := hc
  obtain ⟨h2, h6, hc3, hn, hr, hp, h0⟩ := HC
  have hch := cf_ch_le cnt p s
  have hcc := hc3 (2 * s + cf_ch cnt p s)
  have em : cf_m cnt (cf_ch cnt p) s = cnt (2 * s + cf_ch cnt p s) := rfl
  intro d
  induction d with
  | zero =>
    intro i eq hi hR hO
    have e : i = cf_m cnt (cf_ch cnt p) s := by omega
    rw [wX_writeEquation_97]
    refine ⟨pk_in (2 * s + cf_ch cnt p s) 12 (by omega), ?_⟩
    rw [xc_at rfl (by omega)]
    refine pk_le (cnt (2 * s + cf_ch cnt p s)) i (fun _ => ?_) (fun z => by omega)
    rw [e] at hR
    exact h eq hR hO
  | succ d ih =>
    intro i eq hi hR hO
    rw [wX_writeEquation_97]
    refine ⟨pk_in (2 * s + cf_ch cnt p s) 12 (by omega), ?_⟩
    rw [xc_at rfl (by omega)]
    refine pk_le (cnt (2 * s + cf_ch cnt p s)) i (fun z => by omega) (fun _ => ?_)
    rw [ix_3, xc_at rfl (by omega), xc_at rfl (by omega)]
    have hnx := hn (3 * (2 * s + cf_ch cnt p s) + i)
    have hsh := hr (3 * (2 * s + cf_ch cnt p s) + i)
    have eix : 3 * (2 * s + cf_ch cnt p s) + i = 6 * s + 3 * cf_ch cnt p s + i := by omega
    have enx : nxt (3 * (2 * s + cf_ch cnt p s) + i) = cf_nx nxt (cf_ch cnt p) s i := by rw [eix]; rfl
    have esh : ((shr (3 * (2 * s + cf_ch cnt p s) + i) : Nat) : Int) = cf_w shr (cf_ch cnt p) s i := by rw [eix]; rfl
    rw [enx] at hnx ⊢
    rw [nI_add, nI_add]
    refine ⟨pk_in (3 * (2 * s + cf_ch cnt p s) + i) 36 (by omega), nm_e ⟨pk_in (7 * s + s) 42 (by omega), pk_in (7 * s + s) 42 (by omega), ?_⟩⟩
    rw [lj_sh (by omega), esh, nI_clamp (n := 7 * s + s) (by omega), hR s (by omega), lj_add]
    refine nm_e ⟨pk_in (3 * (2 * s + cf_ch cnt p s) + i) 36 (by omega), pk_in (7 * s + cf_nx nxt (cf_ch cnt p) s i) 42 (by omega), pk_in (7 * s + cf_nx nxt (cf_ch cnt p) s i) 42 (by omega), ?_⟩
    rw [nI_clamp (n := 7 * s + cf_nx nxt (cf_ch cnt p) s i) (by omega)]
    refine nm_e (nm_r (nI_1 i) (ih (i + 1) _ (by omega) (fun j hj => ?_) (fun q hq => ?_)))
    · have h1 := xu2 (n := n) (s := s) (x := cf_nx nxt (cf_ch cnt p) s i) (eq := eq) (W := cf_w shr (cf_ch cnt p) s i) (by omega) (by omega) hR j hj
      refine Eq.trans h1 (congrArg lj ?_)
      show fs_sum (fun l => cf_w shr (cf_ch cnt p) s l * xk n (cf_nx nxt (cf_ch cnt p)) s l j) i + _ - _ = fs_sum (fun l => cf_w shr (cf_ch cnt p) s l * xk n (cf_nx nxt (cf_ch cnt p)) s l j) i + cf_w shr (cf_ch cnt p) s i * xk n (cf_nx nxt (cf_ch cnt p)) s i j
      rw [← xk_w hnx j]
      omega
    · rw [pk_uLn (by omega), pk_uLn (by omega)]
      exact hO q hq
theorem x_we51 {post : SX → Prop} (hc : cf_ok n cnt nxt shr) {s : Nat} (hs : s < n) {eq0 : Nat → Int64}
    (h : ∀ eq', xrow n eq' s (fun j => (if s = j then 1 else 0) + (if j = n ∧ Γ.testBit s = true then 1 else 0)) → (∀ q, ¬ (7 * s ≤ q ∧ q ≤ 7 * s + n) → eq' q = eq0 q) → post ((nI n, nI (2 ^ n), xa cnt, xc cnt, xc nxt, xc shr, xg Γ, cr, eq', pt, pb, et, eb) : SX))
    {eq : Nat → Int64} (hz : ∀ j, j ≤ n → eq (7 * s + j) = 0) (hO : ∀ q, ¬ (7 * s ≤ q ∧ q ≤ 7 * s + n) → eq q = eq0 q) :
    wX_writeEquation_51 post (nI s) (nI (7 * s)) (nI n) (nI (2 ^ n)) (xa cnt) (xc cnt) (xc nxt) (xc shr) (xg Γ) cr eq pt pb et eb := by
  have h6 := hc.2.1
  unfold wX_writeEquation_51
  rw [nI_add, nI_add, nI_clamp (n := 7 * s + s) (by omega), nI_clamp (n := 7 * s + n) (by omega), xg_at (by omega)]
  refine ⟨pk_in (7 * s + s) 42 (by omega), nm_e ⟨pk_in s 6 (by omega), ?_⟩⟩
  have key : ∀ v : Int, v = (if Γ.testBit s = true then 1 else 0) → post ((nI n, nI (2 ^ n), xa cnt, xc cnt, xc nxt, xc shr, xg Γ, cr, (vp_updL (vp_updL eq (7 * s + s) 1) (7 * s + n) (lj v)), pt, pb, et, eb) : SX) := by
    intro v hv
    refine h _ (fun j hj => ?_) (fun q hq => ?_)
    · show _ = lj ((if s = j then 1 else 0) + (if j = n ∧ Γ.testBit s = true then 1 else 0))
      by_cases e1 : j = n
      · subst e1
        rw [pk_uLs, if_neg (by omega : ¬ s = j), hv]
        by_cases hb : Γ.testBit s = true
        · rw [if_pos hb, if_pos ⟨rfl, hb⟩]; rfl
        · rw [if_neg hb, if_neg (fun z => hb z.2)]; rfl
      · rw [pk_uLn (by omega), if_neg (fun z : j = n ∧ Γ.testBit s = true => e1 z.1)]
        by_cases e2 : s = j
        · subst e2
          rw [pk_uLs, if_pos rfl]; exact lj_1.symm
        · rw [pk_uLn (by omega), if_neg e2, hz j hj]; exact lj_0.symm
    · rw [pk_uLn (by omega), pk_uLn (by omega)]
      exact hO q hq
  by_cases hb : Γ.testBit s = true
  · rw [if_pos hb] at key ⊢
    exact br_f (by decide) ⟨pk_in (7 * s + n) 42 (by omega), nm_e (key 1 rfl)⟩
  · rw [if_neg hb] at key ⊢
    exact br_t rfl ⟨pk_in (7 * s + n) 42 (by omega), nm_e (key 0 rfl)⟩
/-- a state's equation is written -/
theorem x_we {post : SX → Prop} (hc : cf_ok n cnt nxt shr) {p : Nat} (hp64 : p < 64) {s : Nat} (hs : s < n) (hcr : ¬ cr s = 0 ↔ cf_RS n (cf_m cnt (cf_ch cnt p)) (cf_nx nxt (cf_ch cnt p)) (fun t => Γ.testBit t) s) {eq : Nat → Int64}
    (h : ∀ eq', xrow n eq' s (fun j => xr n cnt nxt shr Γ p 0 s j) → (∀ q, ¬ (7 * s ≤ q ∧ q ≤ 7 * s + n) → eq' q = eq q) → post ((nI n, nI (2 ^ n), xa cnt, xc cnt, xc nxt, xc shr, xg Γ, cr, eq', pt, pb, et, eb) : SX)) : wpX_writeEquation post ((nI n, nI (2 ^ n), xa cnt, xc cnt, xc nxt, xc shr, xg Γ, cr, eq, pt, pb, et, eb) : SX) (nI s) (nI p) := by
  have h6 := hc.2.1
  refine nm_r (ix_7 s) ⟨n + 1 + 1, ?_⟩
  have key : ∀ (d j : Nat) (eq' : Nat → Int64), j + d = n + 1 → (∀ i, i < j → eq' (7 * s + i) = 0) → (∀ q, ¬ (7 * s ≤ q ∧ q ≤ 7 * s + n) → eq' q = eq q) → wX_writeEquation_8 post (nI s) (nI p) (nI (7 * s)) (nI n) (nI (2 ^ n)) (d + 1) (nI j) (xa cnt) (xc cnt) (xc nxt) (xc shr) (xg Γ) cr eq' pt pb et eb := by
    intro d
    induction d with
    | zero =>
      intro j eq' hj hz hO
      have ej : j = n + 1 := by omega
      subst ej
      rw [wX_writeEquation_8]
      refine pk_lt n (n + 1) (fun _ => ⟨pk_in s 6 (by omega), ?_⟩) (fun z => by omega)
      have hz' : ∀ i, i ≤ n → eq' (7 * s + i) = 0 := fun i hi => hz i (by omega)
      have hstop : (¬ cf_M n (cf_m cnt (cf_ch cnt p)) (cf_nx nxt (cf_ch cnt p)) (fun t => Γ.testBit t) s = true) → wX_writeEquation_51 post (nI s) (nI (7 * s)) (nI n) (nI (2 ^ n)) (xa cnt) (xc cnt) (xc nxt) (xc shr) (xg Γ) cr eq' pt pb et eb := by
        intro hM
        refine x_we51 hc hs (fun e2 hr2 hO2 => h e2 (fun j hj => ?_) hO2) hz' hO
        rw [hr2 j hj]
        exact congrArg lj (xr_0f hs hM j).symm
      rw [xg_at (by omega), nI_clamp (n := s) (by omega)]
      by_cases hb : Γ.testBit s = true
      · rw [if_pos hb]
        exact br_f (by decide) (hstop (fun z => by have := (cf_M_t.mp z).2; rw [hb] at this; exact absurd this (by decide)))
      · rw [if_neg hb]
        refine br_t rfl ⟨pk_in s 6 (by omega), br_c (fun hz0 => hstop (fun z => (hcr.mpr (cf_M_t.mp z).1) hz0)) (fun hz0 => ?_)⟩
        have hM : cf_M n (cf_m cnt (cf_ch cnt p)) (cf_nx nxt (cf_ch cnt p)) (fun t => Γ.testBit t) s = true := cf_M_t.mpr ⟨hcr.mp hz0, by
          cases hb' : Γ.testBit s with
          | false => rfl
          | true => exact absurd hb' hb⟩
        refine x_cell (by omega) hp64 (hc.2.2.2.2.2.2 s) ⟨cf_m cnt (cf_ch cnt p) s + 1, ?_⟩
        refine x_we97 hc hs (eq0 := eq) (fun e2 hr2 hO2 => h e2 (fun j hj => ?_) hO2) (cf_m cnt (cf_ch cnt p) s) 0 eq' (by omega) (fun j hj => ?_) hO
        · rw [hr2 j hj]
          exact congrArg lj (xr_0t hs hM j).symm
        · rw [hz' j hj]; exact lj_0.symm
    | succ d ih =>
      intro j eq' hj hz hO
      rw [wX_writeEquation_8]
      refine pk_lt n j (fun z => by omega) (fun _ => ?_)
      rw [nI_add, nI_clamp (n := 7 * s + j) (by omega)]
      refine ⟨pk_in (7 * s + j) 42 (by omega), nm_e (nm_r (nI_1 j) (ih (j + 1) _ (by omega) (fun i hi => ?_) (fun q hq => ?_)))⟩
      · by_cases e : i = j
        · subst e; exact pk_uLs
        · rw [pk_uLn (by omega)]; exact hz i (by omega)
      · rw [pk_uLn (by omega)]; exact hO q hq
  exact key (n + 1) 0 eq (by omega) (fun i hi => by omega) (fun q _ => rfl)
end
