/-- 1 where p holds, else 0 -/
noncomputable def fs_ind (p : Prop) : Int := @ite Int p (Classical.propDecidable p) 1 0
theorem fs_ind_t {p : Prop} (h : p) : fs_ind p = 1 := @if_pos p (Classical.propDecidable p) h Int 1 0
theorem fs_ind_f {p : Prop} (h : ¬ p) : fs_ind p = 0 := @if_neg p (Classical.propDecidable p) h Int 1 0
theorem fs_ind_nn (p : Prop) : 0 ≤ fs_ind p := by
  by_cases h : p
  · rw [fs_ind_t h]; decide
  · rw [fs_ind_f h]; decide
/-- the weight of a choice -/
def fs_wt (n : Nat) (w : Nat → Nat → Int) (act : Nat → Bool) (c : Nat → Nat) : Int := fs_prod (fun s => if act s = true then w s (c s) else 1) n
theorem fs_wt_nn {n : Nat} {w : Nat → Nat → Int} (hw : ∀ s k, 0 ≤ w s k) (act : Nat → Bool) (c : Nat → Nat) : 0 ≤ fs_wt n w act c := by
  apply fs_prod_nonneg
  intro s _
  try dsimp only
  split
  · exact hw _ _
  · decide
theorem fs_wt_iso {n : Nat} (w : Nat → Nat → Int) {act : Nat → Bool} (c : Nat → Nat) {i : Nat} (r : Nat) (hi : i < n) (ai : act i = true) : fs_wt n w act (fs_set c i r) = w i r * fs_wt n w (fs_off act i) c := by
  unfold fs_wt
  rw [fs_prod_iso _ i n hi]
  have e1 : (if act i = true then w i (fs_set c i r i) else 1) = w i r := by rw [if_pos ai, fs_set_eq]
  have e2 : fs_prod (fun s => if s = i then 1 else (if act s = true then w s (fs_set c i r s) else 1)) n = fs_prod (fun s => if fs_off act i s = true then w s (c s) else 1) n := by
    apply fs_prod_congr
    intro s _
    by_cases e : s = i
    · subst e
      try dsimp only
      rw [if_pos rfl, fs_off_i, if_neg (by decide)]
    · try dsimp only
      rw [if_neg e, fs_off_ne e, fs_set_ne c r e]
  show (if act i = true then w i (fs_set c i r i) else 1) * fs_prod (fun s => if s = i then 1 else (if act s = true then w s (fs_set c i r s) else 1)) n = _
  rw [e1, e2]
/-- how many choices a state has -/
def fs_bb (m : Nat → Nat) (act : Nat → Bool) (s : Nat) : Nat := if act s = true then m s else 1
/-- the sum, over the choices without a circle, of weight times h at x's end -/
noncomputable def fs_V (n : Nat) (m : Nat → Nat) (nx : Nat → Nat → Nat) (w : Nat → Nat → Int) (act : Nat → Bool) (h : Nat → Int) (x : Nat) : Int :=
  fs_S (fs_bb m act) n (fun c => fs_ind (fs_ac n nx act c) * (fs_wt n w act c * h (fs_it nx act c 6 x))) (fun _ => 0)
/-- the weight of all choices without a circle -/
noncomputable def fs_D (n : Nat) (m : Nat → Nat) (nx : Nat → Nat → Nat) (w : Nat → Nat → Int) (act : Nat → Bool) : Int := fs_V n m nx w act (fun _ => 1) 0
theorem fs_V_one (n : Nat) (m : Nat → Nat) (nx : Nat → Nat → Nat) (w : Nat → Nat → Int) (act : Nat → Bool) (x : Nat) : fs_V n m nx w act (fun _ => 1) x = fs_D n m nx w act := rfl
theorem fs_V_add (n : Nat) (m : Nat → Nat) (nx : Nat → Nat → Nat) (w : Nat → Nat → Int) (act : Nat → Bool) (h g : Nat → Int) (x : Nat) : fs_V n m nx w act (fun t => h t + g t) x = fs_V n m nx w act h x + fs_V n m nx w act g x := by
  unfold fs_V
  rw [← fs_S_add]
  exact fs_S_congr (fun c => by (try dsimp only); rw [Int.mul_add, Int.mul_add]) n (fun _ _ => rfl) _
theorem fs_V_mul (n : Nat) (m : Nat → Nat) (nx : Nat → Nat → Nat) (w : Nat → Nat → Int) (act : Nat → Bool) (a : Int) (h : Nat → Int) (x : Nat) : fs_V n m nx w act (fun t => a * h t) x = a * fs_V n m nx w act h x := by
  unfold fs_V
  rw [← fs_S_mul]
  exact fs_S_congr (fun c => by (try dsimp only); grind) n (fun _ _ => rfl) _
theorem fs_V_congr {n : Nat} {m : Nat → Nat} {nx : Nat → Nat → Nat} {w : Nat → Nat → Int} {act : Nat → Bool} {h g : Nat → Int} (e : ∀ t, h t = g t) (x : Nat) : fs_V n m nx w act h x = fs_V n m nx w act g x := by
  have : h = g := funext e
  rw [this]
theorem fs_V_zero (n : Nat) (m : Nat → Nat) (nx : Nat → Nat → Nat) (w : Nat → Nat → Int) (act : Nat → Bool) (x : Nat) : fs_V n m nx w act (fun _ => 0) x = 0 := by
  have := fs_V_mul n m nx w act 0 (fun _ => 0) x
  rw [fs_V_congr (g := fun _ => 0) (fun t => by omega)] at this
  omega
theorem fs_V_le {n : Nat} {m : Nat → Nat} {nx : Nat → Nat → Nat} {w : Nat → Nat → Int} (hw : ∀ s k, 0 ≤ w s k) (act : Nat → Bool) {h g : Nat → Int} (e : ∀ t, h t ≤ g t) (x : Nat) : fs_V n m nx w act h x ≤ fs_V n m nx w act g x := by
  unfold fs_V
  refine fs_S_le (fun c => ?_) n _
  exact Int.mul_le_mul_of_nonneg_left (Int.mul_le_mul_of_nonneg_left (e _) (fs_wt_nn hw act c)) (fs_ind_nn _)
theorem fs_V_nn {n : Nat} {m : Nat → Nat} {nx : Nat → Nat → Nat} {w : Nat → Nat → Int} (hw : ∀ s k, 0 ≤ w s k) (act : Nat → Bool) {h : Nat → Int} (e : ∀ t, 0 ≤ h t) (x : Nat) : 0 ≤ fs_V n m nx w act h x := by
  have := fs_V_le (n := n) (m := m) (nx := nx) hw act e x
  rw [fs_V_zero] at this
  exact this
theorem fs_V_leD {n : Nat} {m : Nat → Nat} {nx : Nat → Nat → Nat} {w : Nat → Nat → Int} (hw : ∀ s k, 0 ≤ w s k) (act : Nat → Bool) {h : Nat → Int} (e : ∀ t, h t ≤ 1) (x : Nat) : fs_V n m nx w act h x ≤ fs_D n m nx w act := by
  rw [← fs_V_one n m nx w act x]
  exact fs_V_le hw act e x
theorem fs_V_bd (n : Nat) (m : Nat → Nat) (nx : Nat → Nat → Nat) (w : Nat → Nat → Int) {act : Nat → Bool} (h : Nat → Int) {x : Nat} (ax : act x = false) : fs_V n m nx w act h x = fs_D n m nx w act * h x := by
  rw [Int.mul_comm]
  unfold fs_D fs_V
  rw [← fs_S_mul]
  exact fs_S_congr (fun c => by (try dsimp only); rw [fs_it_stop ax]; grind) n (fun _ _ => rfl) _
theorem fs_V_iso {n : Nat} (m : Nat → Nat) {nx : Nat → Nat → Nat} (w : Nat → Nat → Int) {act : Nat → Bool} (h : Nat → Int) (hn : n ≤ 6) (hx : ∀ s k, nx s k < n) {i : Nat} (hi : i < n) (ai : act i = true) {x : Nat} (hxn : x < n) :
    fs_V n m nx w act h x = fs_S (fs_bb m (fs_off act i)) n (fun c => fs_sum (fun r => fs_ind (fs_ac n nx (fs_off act i) c ∧ ¬ fs_it nx (fs_off act i) c 6 (nx i r) = i) * (w i r * fs_wt n w (fs_off act i) c * h (if fs_it nx (fs_off act i) c 6 x = i then fs_it nx (fs_off act i) c 6 (nx i r) else fs_it nx (fs_off act i) c 6 x))) (m i)) (fun _ => 0) := by
  unfold fs_V
  rw [fs_S_iso _ _ i n hi]
  refine fs_S_congr (fun c => ?_) n (fun s _ => ?_) _
  · have e1 : fs_bb m act i = m i := if_pos ai
    rw [e1]
    refine fs_sum_congr _ (fun r _ => ?_)
    try dsimp only
    by_cases hc : fs_ac n nx act (fs_set c i r)
    · have hc' := (fs_ac_iso hn hx hi ai).mp hc
      rw [fs_ind_t hc, fs_ind_t hc', fs_wt_iso w c r hi ai, (fs_ac_3 hn hx ai hc'.1 hc'.2 hxn).2]
    · have hc' : ¬ (fs_ac n nx (fs_off act i) c ∧ ¬ fs_it nx (fs_off act i) c 6 (nx i r) = i) := fun z => hc ((fs_ac_iso hn hx hi ai).mpr z)
      rw [fs_ind_f hc, fs_ind_f hc', Int.zero_mul, Int.zero_mul]
  · by_cases e : s = i
    · subst e
      rw [fs_set_eq]
      unfold fs_bb
      rw [fs_off_i, if_neg (by decide)]
    · rw [fs_set_ne _ _ e]
      unfold fs_bb
      rw [fs_off_ne e]
/-- the value at a state, by the values one state fewer -/
theorem fs_V_top {n : Nat} (m : Nat → Nat) {nx : Nat → Nat → Nat} (w : Nat → Nat → Int) {act : Nat → Bool} (h : Nat → Int) (hn : n ≤ 6) (hx : ∀ s k, nx s k < n) {i : Nat} (hi : i < n) (ai : act i = true) :
    fs_V n m nx w act h i = fs_sum (fun r => w i r * fs_V n m nx w (fs_off act i) (fun t => if t = i then 0 else h t) (nx i r)) (m i) := by
  rw [fs_V_iso m w h hn hx hi ai hi, fs_S_sum (fs_bb m (fs_off act i)) (fun r c => fs_ind (fs_ac n nx (fs_off act i) c ∧ ¬ fs_it nx (fs_off act i) c 6 (nx i r) = i) * (w i r * fs_wt n w (fs_off act i) c * h (if fs_it nx (fs_off act i) c 6 i = i then fs_it nx (fs_off act i) c 6 (nx i r) else fs_it nx (fs_off act i) c 6 i)))]
  refine fs_sum_congr _ (fun r _ => ?_)
  unfold fs_V
  rw [← fs_S_mul]
  refine fs_S_congr (fun c => ?_) n (fun _ _ => rfl) _
  try dsimp only
  rw [fs_it_stop (fs_off_i act i), if_pos rfl]
  by_cases h1 : fs_ac n nx (fs_off act i) c
  · by_cases h2 : fs_it nx (fs_off act i) c 6 (nx i r) = i
    · rw [fs_ind_f (fun z => z.2 h2), if_pos h2]; grind
    · rw [fs_ind_t ⟨h1, h2⟩, fs_ind_t h1, if_neg h2]; grind
  · rw [fs_ind_f (fun z => h1 z.1), fs_ind_f h1]; grind
theorem fs_anti (w g : Nat → Int) (bad : Nat → Bool) (k : Nat) :
    fs_sum (fun l => w l * fs_sum (fun r => if bad r = true then 0 else w r * (if bad l = true then g r else g l)) k) k = fs_sum w k * fs_sum (fun r => if bad r = true then 0 else w r * g r) k := by
  have e1 : ∀ l, w l * fs_sum (fun r => if bad r = true then 0 else w r * (if bad l = true then g r else g l)) k = fs_sum (fun r => if bad r = true then 0 else w r * g r) k * (if bad l = true then w l else 0) + fs_sum (fun r => if bad r = true then 0 else w r) k * (if bad l = true then 0 else w l * g l) := by
    intro l
    cases hb : bad l with
    | true =>
      simp only [if_true, if_pos]
      grind
    | false =>
      have e2 : fs_sum (fun r => if bad r = true then 0 else w r * (if false = true then g r else g l)) k = g l * fs_sum (fun r => if bad r = true then 0 else w r) k := by
        rw [← fs_sum_mul]
        refine fs_sum_congr _ (fun r _ => ?_)
        try dsimp only
        rw [if_neg (by decide : ¬ false = true)]
        cases bad r with
        | true => simp
        | false => simp; grind
      rw [e2, if_neg (by decide : ¬ false = true), if_neg (by decide : ¬ false = true)]
      grind
  rw [fs_sum_congr k (fun l _ => e1 l), fs_sum_add, fs_sum_mul, fs_sum_mul]
  have e3 : fs_sum w k = fs_sum (fun l => if bad l = true then w l else 0) k + fs_sum (fun l => if bad l = true then 0 else w l) k := by
    rw [← fs_sum_add]
    refine fs_sum_congr _ (fun l _ => ?_)
    cases bad l <;> simp
  rw [e3]
  grind
/-- the equation of an active state -/
theorem fs_V_harm {n : Nat} (m : Nat → Nat) {nx : Nat → Nat → Nat} (w : Nat → Nat → Int) {act : Nat → Bool} (h : Nat → Int) (hn : n ≤ 6) (hx : ∀ s k, nx s k < n) {i : Nat} (hi : i < n) (ai : act i = true) :
    fs_sum (fun l => w i l * fs_V n m nx w act h (nx i l)) (m i) = fs_sum (fun l => w i l) (m i) * fs_V n m nx w act h i := by
  rw [fs_V_iso m w h hn hx hi ai hi, ← fs_S_mul]
  have e1 : ∀ l, w i l * fs_V n m nx w act h (nx i l) = fs_S (fs_bb m (fs_off act i)) n (fun c => w i l * fs_sum (fun r => fs_ind (fs_ac n nx (fs_off act i) c ∧ ¬ fs_it nx (fs_off act i) c 6 (nx i r) = i) * (w i r * fs_wt n w (fs_off act i) c * h (if fs_it nx (fs_off act i) c 6 (nx i l) = i then fs_it nx (fs_off act i) c 6 (nx i r) else fs_it nx (fs_off act i) c 6 (nx i l)))) (m i)) (fun _ => 0) := by
    intro l
    rw [fs_V_iso m w h hn hx hi ai (hx i l), ← fs_S_mul]
  rw [fs_sum_congr (m i) (fun l _ => e1 l), ← fs_S_sum (fs_bb m (fs_off act i)) (fun l c => w i l * fs_sum (fun r => fs_ind (fs_ac n nx (fs_off act i) c ∧ ¬ fs_it nx (fs_off act i) c 6 (nx i r) = i) * (w i r * fs_wt n w (fs_off act i) c * h (if fs_it nx (fs_off act i) c 6 (nx i l) = i then fs_it nx (fs_off act i) c 6 (nx i r) else fs_it nx (fs_off act i) c 6 (nx i l)))) (m i))]
  refine fs_S_congr (fun c => ?_) n (fun _ _ => rfl) _
  try dsimp only
  by_cases hc : fs_ac n nx (fs_off act i) c
  · have A := fs_anti (w i) (fun r => fs_wt n w (fs_off act i) c * h (fs_it nx (fs_off act i) c 6 (nx i r))) (fun r => decide (fs_it nx (fs_off act i) c 6 (nx i r) = i)) (m i)
    have e2 : ∀ l, fs_sum (fun r => fs_ind (fs_ac n nx (fs_off act i) c ∧ ¬ fs_it nx (fs_off act i) c 6 (nx i r) = i) * (w i r * fs_wt n w (fs_off act i) c * h (if fs_it nx (fs_off act i) c 6 (nx i l) = i then fs_it nx (fs_off act i) c 6 (nx i r) else fs_it nx (fs_off act i) c 6 (nx i l)))) (m i) = fs_sum (fun r => if decide (fs_it nx (fs_off act i) c 6 (nx i r) = i) = true then 0 else w i r * (if decide (fs_it nx (fs_off act i) c 6 (nx i l) = i) = true then fs_wt n w (fs_off act i) c * h (fs_it nx (fs_off act i) c 6 (nx i r)) else fs_wt n w (fs_off act i) c * h (fs_it nx (fs_off act i) c 6 (nx i l)))) (m i) := by
      intro l
      refine fs_sum_congr _ (fun r _ => ?_)
      by_cases h2 : fs_it nx (fs_off act i) c 6 (nx i r) = i
      · rw [fs_ind_f (fun z => z.2 h2), if_pos (decide_eq_true h2), Int.zero_mul]
      · rw [fs_ind_t ⟨hc, h2⟩, if_neg (fun z => h2 (of_decide_eq_true z)), Int.one_mul]
        by_cases h3 : fs_it nx (fs_off act i) c 6 (nx i l) = i
        · rw [if_pos h3, if_pos (decide_eq_true h3), Int.mul_assoc]
        · rw [if_neg h3, if_neg (fun z => h3 (of_decide_eq_true z)), Int.mul_assoc]
    have e3 : fs_sum (fun r => fs_ind (fs_ac n nx (fs_off act i) c ∧ ¬ fs_it nx (fs_off act i) c 6 (nx i r) = i) * (w i r * fs_wt n w (fs_off act i) c * h (if fs_it nx (fs_off act i) c 6 i = i then fs_it nx (fs_off act i) c 6 (nx i r) else fs_it nx (fs_off act i) c 6 i))) (m i) = fs_sum (fun r => if decide (fs_it nx (fs_off act i) c 6 (nx i r) = i) = true then 0 else w i r * (fs_wt n w (fs_off act i) c * h (fs_it nx (fs_off act i) c 6 (nx i r)))) (m i) := by
      refine fs_sum_congr _ (fun r _ => ?_)
      rw [fs_it_stop (fs_off_i act i), if_pos rfl]
      by_cases h2 : fs_it nx (fs_off act i) c 6 (nx i r) = i
      · rw [fs_ind_f (fun z => z.2 h2), if_pos (decide_eq_true h2), Int.zero_mul]
      · rw [fs_ind_t ⟨hc, h2⟩, if_neg (fun z => h2 (of_decide_eq_true z)), Int.one_mul, Int.mul_assoc]
    rw [fs_sum_congr (m i) (fun l _ => by rw [e2 l]), e3]
    exact A
  · have e4 : ∀ f : Nat → Int, fs_sum (fun r => fs_ind (fs_ac n nx (fs_off act i) c ∧ ¬ fs_it nx (fs_off act i) c 6 (nx i r) = i) * f r) (m i) = 0 := by
      intro f
      rw [← fs_sum_zero (m i)]
      exact fs_sum_congr _ (fun r _ => by rw [fs_ind_f (fun z => hc z.1), Int.zero_mul])
    rw [e4 (fun r => w i r * fs_wt n w (fs_off act i) c * h (if fs_it nx (fs_off act i) c 6 i = i then fs_it nx (fs_off act i) c 6 (nx i r) else fs_it nx (fs_off act i) c 6 i)), Int.mul_zero, ← fs_sum_zero (m i)]
    refine fs_sum_congr _ (fun l _ => ?_)
    rw [e4 (fun r => w i r * fs_wt n w (fs_off act i) c * h (if fs_it nx (fs_off act i) c 6 (nx i l) = i then fs_it nx (fs_off act i) c 6 (nx i r) else fs_it nx (fs_off act i) c 6 (nx i l))), Int.mul_zero]
