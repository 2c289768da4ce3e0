section
variable {n : Nat} {cnt nxt shr : Nat → Nat} {Γ : Nat} {mv : Int32} {al : Int64} {pk : Nat → Int32} {gd tp bt : Nat → Int64}
/-- how many choices each state has, under plan p -/
noncomputable abbrev yb (n : Nat) (cnt nxt : Nat → Nat) (Γ p : Nat) : Nat → Nat := fs_bb (cf_m cnt (cf_ch cnt p)) (yA n cnt nxt Γ p)
theorem yb_pos (hc : cf_ok n cnt nxt shr) {p s : Nat} (hs : s < n) : 0 < yb n cnt nxt Γ p s := by
  unfold yb fs_bb
  split
  · rename_i h
    exact fs_M_m (cf_fs hc _ _) hs (fs_lv_t h).2
  · decide
theorem yb_le (hc : cf_ok n cnt nxt shr) (p s : Nat) : yb n cnt nxt Γ p s ≤ 3 := by
  unfold yb fs_bb
  split
  · exact hc.2.2.1 _
  · decide
/-- the choice of a code -/
noncomputable abbrev yc (n : Nat) (cnt nxt : Nat → Nat) (Γ p code : Nat) : Nat → Nat := fs_dec (yb n cnt nxt Γ p) n code (fun _ => 0)
theorem yc_at {p code s : Nat} (hs : s < n) : yc n cnt nxt Γ p code s = code / fs_E (yb n cnt nxt Γ p) s % yb n cnt nxt Γ p s := if_pos hs
/-- the weight of the code's choices below s -/
noncomputable abbrev yw (n : Nat) (cnt nxt shr : Nat → Nat) (Γ p code s : Nat) : Int := fs_prod (fun t => if yA n cnt nxt Γ p t = true then cf_w shr (cf_ch cnt p) t (yc n cnt nxt Γ p code t) else 1) s
theorem y_count8 {post : SY → Prop} (hc : cf_ok n cnt nxt shr) {p μ code : Nat} (hp : p < 64) (hcode : code < 2 ^ 20) (hμ : μ < 64) (hμM : ∀ t, t < n → μ.testBit t = yM n cnt nxt Γ p t)
    (h : ∀ pk', yH n cnt nxt Γ p μ (yc n cnt nxt Γ p code) pk' → ∃ q, wY_count_135 post (lj (yw n cnt nxt shr Γ p code n)) (nI n) (nI Γ) (nI μ) al (xc cnt) (xc nxt) (xc shr) pk' gd tp bt q 0) :
    ∀ (d s : Nat) (pk : Nat → Int32), s + d = n → (∀ t, t < s → t < n → yM n cnt nxt Γ p t = true → yc n cnt nxt Γ p code t < cf_m cnt (cf_ch cnt p) t ∧ pk t = nI (6 * t + 3 * cf_ch cnt p t + yc n cnt nxt Γ p code t)) →
    wY_count_8 post (nI p) (nI n) (nI Γ) (nI μ) al (d + 1) (lj (yw n cnt nxt shr Γ p code s)) (nI (code / fs_E (yb n cnt nxt Γ p) s)) (nI s) (xc cnt) (xc nxt) (xc shr) pk gd tp bt := by
  have HC := hc
  obtain ⟨h2, h6, hc3, hn, hr, hpp, hz⟩ := HC
  intro d
  induction d with
  | zero =>
    intro s pk hs hI
    have e : s = n := by omega
    subst e
    rw [wY_count_8]
    exact pk_le s s (fun _ => h pk ⟨hμ, hμM, fun t ht hM => hI t ht ht hM⟩) (fun z => by omega)
  | succ d ih =>
    intro s pk hs hI
    have hsn : s < n := by omega
    rw [wY_count_8]
    dsimp only
    rw [bi_1 μ hμ s (by omega), hμM s hsn]
    refine pk_le n s (fun z => by omega) (fun _ => pk_le 6 s (fun z => by omega) (fun _ => ?_))
    cases hM : yM n cnt nxt Γ p s with
    | false =>
      rw [if_neg (by decide)]
      refine br_f (by decide) (nm_r (nI_1 s) ?_)
      have e1 : yb n cnt nxt Γ p s = 1 := if_neg (by rw [yA_f hM]; decide)
      have e2 : code / fs_E (yb n cnt nxt Γ p) s = code / fs_E (yb n cnt nxt Γ p) (s + 1) := by
        show _ = code / (fs_E (yb n cnt nxt Γ p) s * yb n cnt nxt Γ p s)
        rw [e1, Nat.mul_one]
      have e3 : yw n cnt nxt shr Γ p code s = yw n cnt nxt shr Γ p code (s + 1) := by
        show _ = fs_prod _ s * (if yA n cnt nxt Γ p s = true then _ else 1)
        rw [yA_f hM, if_neg (by decide), Int.mul_one]
      rw [e2, e3]
      refine ih (s + 1) pk (by omega) (fun t ht htn hMt => ?_)
      by_cases e : t = s
      · subst e; rw [hM] at hMt; exact absurd hMt (by decide)
      · exact hI t (by omega) htn hMt
    | true =>
      rw [if_pos rfl]
      refine br_t rfl (y_chosen (by omega) hp hc3 ?_)
      have hch := cf_ch_le cnt p s
      have hcc := hc3 (2 * s + cf_ch cnt p s)
      have em : cf_m cnt (cf_ch cnt p) s = cnt (2 * s + cf_ch cnt p s) := rfl
      have e1 : yb n cnt nxt Γ p s = cf_m cnt (cf_ch cnt p) s := if_pos (yA_t hsn hM)
      have hmp : 0 < cf_m cnt (cf_ch cnt p) s := by rw [← e1]; exact yb_pos hc hsn
      have hrest : code / fs_E (yb n cnt nxt Γ p) s ≤ code := Nat.div_le_self _ _
      have ecs : code / fs_E (yb n cnt nxt Γ p) s % cnt (2 * s + cf_ch cnt p s) = yc n cnt nxt Γ p code s := by rw [yc_at hsn, e1, em]
      have hcs : yc n cnt nxt Γ p code s < cnt (2 * s + cf_ch cnt p s) := by rw [← ecs]; exact Nat.mod_lt _ (by omega)
      have e2 : code / fs_E (yb n cnt nxt Γ p) s / cnt (2 * s + cf_ch cnt p s) = code / fs_E (yb n cnt nxt Γ p) (s + 1) := by
        show _ = code / (fs_E (yb n cnt nxt Γ p) s * yb n cnt nxt Γ p s)
        rw [e1, Nat.div_div_eq_div_mul, em]
      have e3 : yw n cnt nxt shr Γ p code s * cf_w shr (cf_ch cnt p) s (yc n cnt nxt Γ p code s) = yw n cnt nxt shr Γ p code (s + 1) := by
        show _ = fs_prod _ s * (if yA n cnt nxt Γ p s = true then cf_w shr (cf_ch cnt p) s (yc n cnt nxt Γ p code s) else 1)
        rw [if_pos (yA_t hsn hM)]
      try dsimp only
      rw [ix_2, xc_at rfl (by omega)]
      refine ⟨pk_in (2 * s + cf_ch cnt p s) 12 (by omega), pk_le 1 (cnt (2 * s + cf_ch cnt p s)) (fun _ => ⟨pk_in (2 * s + cf_ch cnt p s) 12 (by omega), ?_⟩) (fun z => by omega)⟩
      unfold wY_count_78
      have hnz : ¬ nI (cnt (2 * s + cf_ch cnt p s)) = 0 := nI_ne0 (by omega) (by omega)
      have hin : vp_in (nI s) 6 := pk_in s 6 (by omega)
      rw [pk_rem (by omega) (by omega) (by omega), pk_div (by omega) (by omega) (by omega), ecs, e2, ix_63, nI_clamp (n := s) (by omega)]
      refine ⟨hnz, hin, nm_e ⟨hnz, nm_e ⟨hin, ?_⟩⟩⟩
      rw [pk_us, xc_at rfl (by omega)]
      have hsh := hr (6 * s + 3 * cf_ch cnt p s + yc n cnt nxt Γ p code s)
      rw [lj_sh (by omega), lj_mul]
      refine ⟨pk_in (6 * s + 3 * cf_ch cnt p s + yc n cnt nxt Γ p code s) 36 (by omega), nm_e (nm_r (nI_1 s) ?_)⟩
      have e4 : ((shr (6 * s + 3 * cf_ch cnt p s + yc n cnt nxt Γ p code s) : Nat) : Int) = cf_w shr (cf_ch cnt p) s (yc n cnt nxt Γ p code s) := rfl
      rw [e4, e3]
      refine ih (s + 1) _ (by omega) (fun t ht htn hMt => ?_)
      by_cases e : t = s
      · subst e
        exact ⟨hcs, pk_us⟩
      · rw [pk_un e]; exact hI t (by omega) htn hMt
/-- what a choice adds -/
noncomputable abbrev yφ (n : Nat) (cnt nxt shr : Nat → Nat) (Γ p : Nat) (h : Nat → Int) (x : Nat) : (Nat → Nat) → Int := fun c => fs_ind (fs_ac n (cf_nx nxt (cf_ch cnt p)) (yA n cnt nxt Γ p) c) * (fs_wt n (cf_w shr (cf_ch cnt p)) (yA n cnt nxt Γ p) c * h (yE n cnt nxt Γ p c 6 x))
theorem y_count {post : SY → Prop} (hc : cf_ok n cnt nxt shr) (hΓ : Γ < 64) {p μ code : Nat} (hp : p < 64) (hcode : code < 2 ^ 20) (hμ : μ < 64) (hμM : ∀ t, t < n → μ.testBit t = yM n cnt nxt Γ p t) {B : Int} {A : Nat → Int} (hal : al = lj B) (hgd : ∀ t, t < n → gd t = lj (A t))
    (h : ∀ pk' gd', (∀ t, t < n → gd' t = lj (A t + yφ n cnt nxt shr Γ p (cf_gl n (fun t => Γ.testBit t)) t (yc n cnt nxt Γ p code))) → post ((nI n, nI Γ, (nI μ), (lj (B + yφ n cnt nxt shr Γ p (fun _ => 1) 0 (yc n cnt nxt Γ p code))), xc cnt, xc nxt, xc shr, pk', gd', tp, bt) : SY)) : wpY_count post ((nI n, nI Γ, (nI μ), al, xc cnt, xc nxt, xc shr, pk, gd, tp, bt) : SY) (nI code) (nI p) := by
  refine ⟨n + 1, ?_⟩
  have hE0 : code / fs_E (yb n cnt nxt Γ p) 0 = code := Nat.div_one _
  have hw0 : lj (yw n cnt nxt shr Γ p code 0) = 1 := lj_1
  have := y_count8 (post := post) (al := al) (gd := gd) (tp := tp) (bt := bt) hc hp hcode hμ hμM (fun pk' hH => ⟨n + 1, ?_⟩) n 0 pk (by omega) (fun t ht => by omega)
  · rw [hE0, hw0] at this
    exact this
  · refine y_135 hc hΓ hH hal hgd (fun hac => ?_) (fun hac gd' hgd' => ?_) n 0 (by omega) (fun t ht => by omega)
    · have e1 : ∀ (h : Nat → Int) (x : Nat), yφ n cnt nxt shr Γ p h x (yc n cnt nxt Γ p code) = 0 := by
        intro h x
        show fs_ind _ * _ = 0
        rw [fs_ind_f hac, Int.zero_mul]
      have := h pk' gd (fun t ht => by rw [e1, Int.add_zero]; exact hgd t ht)
      rw [e1, Int.add_zero, ← hal] at this
      exact this
    · have e1 : ∀ (h : Nat → Int) (x : Nat), yφ n cnt nxt shr Γ p h x (yc n cnt nxt Γ p code) = yw n cnt nxt shr Γ p code n * h (yE n cnt nxt Γ p (yc n cnt nxt Γ p code) 6 x) := by
        intro h x
        show fs_ind _ * (fs_wt n _ _ _ * _) = _
        rw [fs_ind_t hac, Int.one_mul]
        rfl
      have := h pk' gd' (fun t ht => by rw [e1]; exact hgd' t ht)
      rw [e1, Int.mul_one] at this
      exact this
/-- the reference's good and all under a plan -/
theorem y_work {post : SY → Prop} (hc : cf_ok n cnt nxt shr) (hΓ : Γ < 64) {p : Nat} (hp : p < 64)
    (h : ∀ mv' pk' gd', (∀ t, t < n → gd' t = lN (gn n cnt nxt shr Γ p t)) → post ((nI n, nI Γ, mv', (lN (dn n cnt nxt shr Γ p)), xc cnt, xc nxt, xc shr, pk', gd', tp, bt) : SY)) : wpY_work post ((nI n, nI Γ, mv, al, xc cnt, xc nxt, xc shr, pk, gd, tp, bt) : SY) (nI p) := by
  have HC := hc
  obtain ⟨h2, h6, hc3, hn, hr, hpp, hz⟩ := HC
  have hEle : fs_E (yb n cnt nxt Γ p) n ≤ 729 := by
    have h1 := fs_E_le (b := yb n cnt nxt Γ p) n (fun s _ => yb_le hc p s)
    have h3 : (3 : Nat) ^ n ≤ 3 ^ 6 := Nat.pow_le_pow_right (by decide) h6
    omega
  refine y_reach hc hΓ hp (fun μ hμ hμM => ⟨6 + 1, ?_⟩)
  have k87 : ∀ (d code : Nat) (al' : Int64) (pk' : Nat → Int32) (gd' : Nat → Int64), code + d = fs_E (yb n cnt nxt Γ p) n → al' = lj (fs_sum (fun q => yφ n cnt nxt shr Γ p (fun _ => 1) 0 (yc n cnt nxt Γ p q)) code) → (∀ t, t < n → gd' t = lj (fs_sum (fun q => yφ n cnt nxt shr Γ p (cf_gl n (fun t => Γ.testBit t)) t (yc n cnt nxt Γ p q)) code)) → wY_work_87 post (nI p) (nI (fs_E (yb n cnt nxt Γ p) n)) (d + 1) (nI code) (nI n) (nI Γ) (nI μ) al' (xc cnt) (xc nxt) (xc shr) pk' gd' tp bt := by
    intro d
    induction d with
    | zero =>
      intro code al' pk' gd' hcd hal' hgd'
      have e : code = fs_E (yb n cnt nxt Γ p) n := by omega
      rw [wY_work_87]
      refine pk_le (fs_E (yb n cnt nxt Γ p) n) code (fun _ => ?_) (fun z => by omega)
      have ed : al' = lN (dn n cnt nxt shr Γ p) := by
        rw [hal', lj_N, dn_i hc, e]
        exact congrArg lj (fs_S_code (yφ n cnt nxt shr Γ p (fun _ => 1) 0) n (fun s hs => yb_pos hc hs) (fun _ => 0)).symm
      rw [ed]
      refine h _ _ _ (fun t ht => ?_)
      rw [hgd' t ht, lj_N, gn_i hc ht, e]
      exact congrArg lj (fs_S_code (yφ n cnt nxt shr Γ p (cf_gl n (fun t => Γ.testBit t)) t) n (fun s hs => yb_pos hc hs) (fun _ => 0)).symm
    | succ d ih =>
      intro code al' pk' gd' hcd hal' hgd'
      rw [wY_work_87]
      refine pk_le (fs_E (yb n cnt nxt Γ p) n) code (fun z => by omega) (fun _ => y_count hc hΓ hp (by omega) hμ hμM hal' hgd' (fun pk2 gd2 hgd2 => nm_r (nI_1 code) (ih (code + 1) _ pk2 gd2 (by omega) rfl hgd2)))
  have k35 : ∀ (gd' : Nat → Int64), (∀ t, t < n → gd' t = 0) → ∀ (d s : Nat), s + d = n → wY_work_35 post (nI p) (nI n) (nI Γ) (nI μ) 0 (xc cnt) (xc nxt) (xc shr) pk gd' tp bt (d + 1) (nI (fs_E (yb n cnt nxt Γ p) s)) (nI s) := by
    intro gd' hg0 d
    induction d with
    | zero =>
      intro s hs
      have e : s = n := by omega
      subst e
      rw [wY_work_35]
      refine pk_le s s (fun _ => ⟨fs_E (yb s cnt nxt Γ p) s + 1, k87 _ 0 0 pk gd' (by omega) lj_0.symm (fun t ht => ?_)⟩) (fun z => by omega)
      rw [hg0 t ht]; exact lj_0.symm
    | succ d ih =>
      intro s hs
      have hsn : s < n := by omega
      rw [wY_work_35]
      dsimp only
      have hμs : μ.testBit s = yM n cnt nxt Γ p s := hμM s hsn
      rw [bi_1 μ hμ s (by omega), hμs]
      refine pk_le n s (fun z => by omega) (fun _ => pk_le 6 s (fun z => by omega) (fun _ => ?_))
      cases hM : yM n cnt nxt Γ p s with
      | false =>
        rw [if_neg (by decide)]
        refine br_f (by decide) (nm_r (nI_1 s) ?_)
        have e1 : yb n cnt nxt Γ p s = 1 := if_neg (by rw [yA_f hM]; decide)
        have e2 : fs_E (yb n cnt nxt Γ p) s = fs_E (yb n cnt nxt Γ p) (s + 1) := by
          show _ = fs_E (yb n cnt nxt Γ p) s * yb n cnt nxt Γ p s
          rw [e1, Nat.mul_one]
        rw [e2]
        exact ih (s + 1) (by omega)
      | true =>
        rw [if_pos rfl]
        refine br_t rfl (y_chosen (by omega) hp hc3 ?_)
        have hch := cf_ch_le cnt p s
        try dsimp only
        rw [ix_2, xc_at rfl (by omega), pk_mul]
        have e1 : yb n cnt nxt Γ p s = cnt (2 * s + cf_ch cnt p s) := if_pos (yA_t hsn hM)
        rw [← e1]
        exact ⟨pk_in (2 * s + cf_ch cnt p s) 12 (by omega), nm_e (nm_r (nI_1 s) (ih (s + 1) (by omega)))⟩
  have k12 : ∀ (d i : Nat) (gd' : Nat → Int64), i + d = 6 → (∀ t, t < i → gd' t = 0) → wY_work_12 post (nI p) (nI n) (nI Γ) (nI μ) 0 (d + 1) (nI i) (xc cnt) (xc nxt) (xc shr) pk gd' tp bt := by
    intro d
    induction d with
    | zero =>
      intro i gd' hi hI
      rw [wY_work_12]
      exact pk_le 6 i (fun _ => ⟨n + 1, k35 gd' (fun t ht => hI t (by omega)) n 0 (by omega)⟩) (fun z => by omega)
    | succ d ih =>
      intro i gd' hi hI
      rw [wY_work_12]
      dsimp only
      rw [nI_clamp (n := i) (by omega)]
      refine pk_le 6 i (fun z => by omega) (fun _ => ⟨pk_in i 6 (by omega), nm_e (nm_r (nI_1 i) (ih (i + 1) _ (by omega) (fun t ht => ?_)))⟩)
      by_cases e : t = i
      · subst e; exact pk_uLs
      · rw [pk_uLn e]; exact hI t (by omega)
  exact k12 6 0 gd (by omega) (fun t ht => by omega)
end
