theorem bi_6 : ∀ p, p < 64 → ∀ q, q < 64 → nI p &&& nI q = nI (p &&& q) := by decide +kernel
/-- the states with two actions -/
def tw (cnt : Nat → Nat) : Nat → Nat
  | 0 => 0
  | k + 1 => if 0 < cnt (2 * k + 1) then tw cnt k ||| 2 ^ k else tw cnt k
theorem tw_lt {cnt : Nat → Nat} : ∀ k, k ≤ 6 → tw cnt k < 64 := by
  intro k
  induction k with
  | zero => intro _; exact (by decide : (0 : Nat) < 64)
  | succ k ih =>
    intro h
    show (if 0 < cnt (2 * k + 1) then tw cnt k ||| 2 ^ k else tw cnt k) < 64
    split
    · exact bi_or_lt (ih (by omega)) (by omega)
    · exact ih (by omega)
theorem tw_t {cnt : Nat → Nat} (t : Nat) : ∀ k, (tw cnt k).testBit t = decide (t < k ∧ 0 < cnt (2 * t + 1)) := by
  intro k
  induction k with
  | zero =>
    show (0 : Nat).testBit t = _
    rw [Nat.zero_testBit]
    exact (decide_eq_false (by omega)).symm
  | succ k ih =>
    show (if 0 < cnt (2 * k + 1) then tw cnt k ||| 2 ^ k else tw cnt k).testBit t = _
    by_cases h : 0 < cnt (2 * k + 1)
    · rw [if_pos h, bi_or_t, ih]
      by_cases e : t = k
      · subst e
        rw [if_pos rfl]
        exact (decide_eq_true ⟨by omega, h⟩).symm
      · rw [if_neg e]
        apply decide_eq_decide.mpr
        omega
    · rw [if_neg h, ih]
      apply decide_eq_decide.mpr
      by_cases e : t = k
      · subst e; omega
      · omega
theorem tw_ch {n p : Nat} {cnt : Nat → Nat} (hp : p < 2 ^ n) : cf_ch cnt (p &&& tw cnt n) = cf_ch cnt p := by
  funext s
  unfold cf_ch
  rw [Nat.testBit_and, tw_t]
  by_cases hs : s < n
  · by_cases h2 : 0 < cnt (2 * s + 1)
    · rw [decide_eq_true (⟨hs, h2⟩ : s < n ∧ 0 < cnt (2 * s + 1)), Bool.and_true]
    · rw [if_neg (fun z => h2 z.2), if_neg (fun z => h2 z.2)]
  · have h1 : p.testBit s = false := Nat.testBit_lt_two_pow (Nat.lt_of_lt_of_le hp (Nat.pow_le_pow_right (by decide) (by omega)))
    rw [h1]
    rfl
section
variable {n : Nat} {cnt nxt shr : Nat → Nat} {Γ : Nat} {mv : Int32} {al : Int64} {pk : Nat → Int32} {gd tp bt : Nat → Int64}
theorem y_gcd1 {post : Int64 → Prop} : ∀ (d i a b k : Nat), i + d = 100 → b ≤ a → a * b < 2 ^ k → k ≤ d → a < 2 ^ 62 → 0 < a → post (lN (Nat.gcd a b)) → wY_common_9 post (nI n) (nI Γ) mv al (xc cnt) (xc nxt) (xc shr) pk gd tp bt (d + 1) (lN a) (lN b) (nI i) := by
  intro d
  induction d with
  | zero =>
    intro i a b k hi hba hk hkd ha ha0 h
    have hb : b = 0 := by
      have : k = 0 := by omega
      subst this
      by_cases hb : b = 0
      · exact hb
      · have := Nat.mul_pos ha0 (by omega : 0 < b)
        omega
    subst hb
    rw [Nat.gcd_zero_right] at h
    rw [wY_common_9]
    exact pk_le 100 i (fun _ => br_t ((pk_lLE (a := 1) (by omega) (by omega)).mpr ha0) h) (fun z => by omega)
  | succ d ih =>
    intro i a b k hi hba hk hkd ha ha0 h
    rw [wY_common_9]
    refine pk_le 100 i (fun z => by omega) (fun _ => ?_)
    by_cases hb : b = 0
    · subst hb
      refine br_t (by decide) (nm_r (nI_1 i) (ih (i + 1) a 0 0 (by omega) (by omega) (by rw [Nat.mul_zero]; decide) (by omega) ha ha0 h))
    · have hz : ¬ lN b = 0 := fun z => hb ((lN_z (by omega)).mp z)
      have hz2 : ¬ lN b ≤ 0 := fun z => by have := (pk_lLE (b := 0) (by omega) (by omega)).mp z; omega
      refine br_f hz2 ⟨hz, nm_r (pk_lRem (by omega) (by omega) (by omega)) (nm_r (nI_1 i) ?_)⟩
      cases k with
      | zero =>
        exfalso
        have := Nat.mul_pos ha0 (by omega : 0 < b)
        omega
      | succ k =>
        have h1 := eu_half (by omega : 0 < b) hba hk
        refine ih (i + 1) b (a % b) k (by omega) (by omega) h1.2 (by omega) (by omega) (by omega) ?_
        rw [eu_gcd]; exact h
theorem y_gcd {post : Int64 → Prop} {a b : Nat} (ha : a < 2 ^ 30) (hb0 : 0 < b) (hb : b < 2 ^ 30) (h : post (lN (Nat.gcd a b))) : wpY_common post ((nI n, nI Γ, mv, al, xc cnt, xc nxt, xc shr, pk, gd, tp, bt) : SY) (lN a) (lN b) := by
  refine ⟨99 + 1 + 1, ?_⟩
  rw [wY_common_9]
  have hz : ¬ lN b = 0 := fun z => by have := (lN_z (by omega)).mp z; omega
  have hz2 : ¬ lN b ≤ 0 := fun z => by have := (pk_lLE (b := 0) (by omega) (by omega)).mp z; omega
  refine br_f (by decide) (br_f hz2 ⟨hz, nm_r (pk_lRem (by omega) (by omega) (by omega)) (nm_e ?_)⟩)
  have h1 := Nat.mod_lt a hb0
  refine y_gcd1 99 1 b (a % b) 60 (by omega) (by omega) (eu_60 hb0 hb) (by omega) (by omega) hb0 ?_
  rw [eu_gcd]; exact h
theorem y_top {post : Int64 → Prop} {a b : Nat} (ha : a < 2 ^ 30) (hb0 : 0 < b) (hb : b < 2 ^ 30) (h : post (lN (a / Nat.gcd a b))) : wpY_top post ((nI n, nI Γ, mv, al, xc cnt, xc nxt, xc shr, pk, gd, tp, bt) : SY) (lN a) (lN b) := by
  unfold wpY_top
  have hg0 : 0 < Nat.gcd a b := Nat.gcd_pos_of_pos_right _ hb0
  have hgl : Nat.gcd a b ≤ b := Nat.le_of_dvd hb0 (Nat.gcd_dvd_right _ _)
  refine y_gcd ha hb0 hb (br_t ((pk_lLE (a := 1) (by omega) (by omega)).mpr hg0) ⟨fun z => by have := (lN_z (by omega)).mp z; omega, ?_⟩)
  rw [pk_lDiv (by omega) hg0 (by omega)]
  exact h
theorem y_bottom {post : Int64 → Prop} {a b : Nat} (ha : a < 2 ^ 30) (hb0 : 0 < b) (hb : b < 2 ^ 30) (h : post (lN (b / Nat.gcd a b))) : wpY_bottom post ((nI n, nI Γ, mv, al, xc cnt, xc nxt, xc shr, pk, gd, tp, bt) : SY) (lN a) (lN b) := by
  unfold wpY_bottom
  have hg0 : 0 < Nat.gcd a b := Nat.gcd_pos_of_pos_right _ hb0
  have hgl : Nat.gcd a b ≤ b := Nat.le_of_dvd hb0 (Nat.gcd_dvd_right _ _)
  refine y_gcd ha hb0 hb (br_t ((pk_lLE (a := 1) (by omega) (by omega)).mpr hg0) ⟨fun z => by have := (lN_z (by omega)).mp z; omega, ?_⟩)
  rw [pk_lDiv (by omega) hg0 (by omega)]
  exact h
theorem y_twofold {post : Int32 → Prop} (hc : cf_ok n cnt nxt shr) (h : post (nI (tw cnt n))) : wpY_twofold post ((nI n, nI Γ, mv, al, xc cnt, xc nxt, xc shr, pk, gd, tp, bt) : SY) := by
  have h6 := hc.2.1
  have hc3 := hc.2.2.1
  have key : ∀ (d s : Nat), s + d = n → wY_twofold_4 post (nI n) (nI Γ) mv al (xc cnt) (xc nxt) (xc shr) pk gd tp bt (d + 1) (nI (tw cnt s)) (nI s) := by
    intro d
    induction d with
    | zero =>
      intro s hs
      have e : s = n := by omega
      subst e
      rw [wY_twofold_4]
      exact pk_le s s (fun _ => h) (fun z => by omega)
    | succ d ih =>
      intro s hs
      have h3 := hc3 (2 * s + 1)
      have e1 : (2 * nI s) + 1 = nI (2 * s + 1) := ix_2 s 1
      have hk := ih (s + 1) (by omega)
      rw [wY_twofold_4]
      dsimp only
      rw [e1, xc_at rfl (by omega), bi_2 _ (tw_lt s (by omega)) s (by omega)]
      refine pk_le n s (fun z => by omega) (fun _ => pk_le 6 s (fun z => by omega) (fun _ => ⟨pk_in (2 * s + 1) 12 (by omega), pk_le (cnt (2 * s + 1)) 0 (fun z => nm_r (nI_1 s) ?_) (fun z => nm_e (nm_r (nI_1 s) ?_))⟩))
      · have e2 : tw cnt (s + 1) = tw cnt s := if_neg (by omega)
        rw [e2] at hk; exact hk
      · have e2 : tw cnt (s + 1) = tw cnt s ||| 2 ^ s := if_pos z
        rw [e2] at hk; exact hk
  exact ⟨n + 1, key n 0 (by omega)⟩
/-- a / b is the extreme of the plans below P with bits of states with two actions alone, for t -/
def ye (n : Nat) (cnt nxt shr : Nat → Nat) (Γ : Nat) (best : Bool) (P t : Nat) (a b : Int64) : Prop :=
  ∃ q, q < P ∧ a = lN (gn n cnt nxt shr Γ q t) ∧ b = lN (dn n cnt nxt shr Γ q) ∧ ∀ p, p < P → p &&& tw cnt n = p → pl n cnt nxt shr Γ best p q t
def yx (n : Nat) (cnt nxt shr : Nat → Nat) (Γ : Nat) (best : Bool) (t : Nat) (a b : Int64) : Prop :=
  ∃ q, q < 2 ^ n ∧ a = lN (gn n cnt nxt shr Γ q t) ∧ b = lN (dn n cnt nxt shr Γ q) ∧ ∀ p, p < 2 ^ n → pl n cnt nxt shr Γ best p q t
theorem gn_tw {p t : Nat} (hp : p < 2 ^ n) : gn n cnt nxt shr Γ (p &&& tw cnt n) t = gn n cnt nxt shr Γ p t ∧ dn n cnt nxt shr Γ (p &&& tw cnt n) = dn n cnt nxt shr Γ p := by
  unfold gn dn
  rw [tw_ch hp]
  exact ⟨rfl, rfl⟩
theorem ye_x {best : Bool} {t : Nat} {a b : Int64} (h : ye n cnt nxt shr Γ best (2 ^ n) t a b) : yx n cnt nxt shr Γ best t a b := by
  obtain ⟨q, hq, ha, hb, hm⟩ := h
  refine ⟨q, hq, ha, hb, fun p hp => ?_⟩
  have hle : p &&& tw cnt n ≤ p := Nat.and_le_left
  have h1 := hm (p &&& tw cnt n) (by omega) (by rw [Nat.and_assoc, Nat.and_self])
  have e := gn_tw (cnt := cnt) (nxt := nxt) (shr := shr) (Γ := Γ) (t := t) hp
  unfold pl at h1 ⊢
  rw [e.1, e.2] at h1
  exact h1
/-- the flag as the reference says it -/
def yf (best : Bool) : Int32 := if best = true then 1 else 0
theorem y_take {post : SY → Prop} (hc : cf_ok n cnt nxt shr) (best : Bool) {P s : Nat} (hs : s < n) (hal : al = lN (dn n cnt nxt shr Γ P)) (hgd : gd s = lN (gn n cnt nxt shr Γ P s)) (hE : ¬ P = 0 → ye n cnt nxt shr Γ best P s (tp s) (bt s))
    (h : ∀ tp' bt', ye n cnt nxt shr Γ best (P + 1) s (tp' s) (bt' s) → (∀ t, ¬ t = s → tp' t = tp t ∧ bt' t = bt t) → post ((nI n, nI Γ, mv, al, xc cnt, xc nxt, xc shr, pk, gd, tp', bt') : SY)) {fst : Int32} (hf : fst = if P = 0 then 1 else 0) : wpY_take post ((nI n, nI Γ, mv, al, xc cnt, xc nxt, xc shr, pk, gd, tp, bt) : SY) (nI s) (yf best) fst := by
  have h6 := hc.2.1
  have hin : vp_in (nI s) 6 := pk_in s 6 (by omega)
  have htake : (∀ p, p < P → p &&& tw cnt n = p → pl n cnt nxt shr Γ best p P s) → wY_take_55 post (nI s) (nI n) (nI Γ) mv al (xc cnt) (xc nxt) (xc shr) pk gd tp bt := by
    intro hm
    unfold wY_take_55
    rw [nI_clamp (n := s) (by omega), hgd]
    refine ⟨hin, hin, nm_e ⟨hin, nm_e (h _ _ ?_ (fun t ht => ⟨pk_uLn ht, pk_uLn ht⟩))⟩⟩
    rw [pk_uLs, pk_uLs, hal]
    refine ⟨P, by omega, rfl, rfl, fun p hp hpt => ?_⟩
    by_cases e : p = P
    · subst e; exact pl_refl _ _ _
    · exact hm p (by omega) hpt
  unfold wpY_take
  dsimp only
  by_cases hP : P = 0
  · rw [if_pos hP] at hf
    subst hf
    refine ⟨hin, hin, nm_e ⟨hin, nm_e (br_f (by decide) (htake (fun p hp => by omega)))⟩⟩
  · rw [if_neg hP] at hf
    subst hf
    obtain ⟨q, hq, e1, e2, hm⟩ := hE hP
    have b1 := dn_b (Γ := Γ) (p := P) hc
    have b2 := dn_b (Γ := Γ) (p := q) hc
    have b3 := gn_b (Γ := Γ) (p := P) hc hs
    have b4 := gn_b (Γ := Γ) (p := q) hc hs
    have m1 := nm_60 (a := gn n cnt nxt shr Γ P s) (d := dn n cnt nxt shr Γ q) (by omega) (by omega)
    have m2 := nm_60 (a := gn n cnt nxt shr Γ q s) (d := dn n cnt nxt shr Γ P) (by omega) (by omega)
    have hstay : pl n cnt nxt shr Γ best P q s → post ((nI n, nI Γ, mv, al, xc cnt, xc nxt, xc shr, pk, gd, tp, bt) : SY) := by
      intro hPq
      refine h tp bt ⟨q, by omega, e1, e2, fun p hp hpt => ?_⟩ (fun t _ => ⟨rfl, rfl⟩)
      by_cases e : p = P
      · subst e; exact hPq
      · exact hm p (by omega) hpt
    have hmove : pl n cnt nxt shr Γ best q P s → wY_take_55 post (nI s) (nI n) (nI Γ) mv al (xc cnt) (xc nxt) (xc shr) pk gd tp bt := fun hqP => htake (fun p hp hpt => pl_trans hc (hm p hp hpt) hqP)
    rw [nI_clamp (n := s) (by omega), e1, e2, hgd]
    have ea : lN (gn n cnt nxt shr Γ q s) * al = lN (gn n cnt nxt shr Γ q s * dn n cnt nxt shr Γ P) := by rw [hal, lN_mul]
    refine ⟨hin, hin, nm_r (lN_mul _ _) ⟨hin, nm_r ea (br_t rfl ?_)⟩⟩
    rw [pk_lLE (by omega) (by omega), pk_lLE (by omega) (by omega)]
    cases best with
    | true =>
      refine br_f (by decide) (br_c (fun z => hstay ?_) (fun z => hmove ?_))
      · unfold pl; rw [if_pos rfl]; exact z
      · unfold pl; rw [if_pos rfl]; omega
    | false =>
      refine br_t rfl (br_c (fun z => hstay ?_) (fun z => hmove ?_))
      · unfold pl; rw [if_neg (by decide)]; exact z
      · unfold pl; rw [if_neg (by decide)]; omega
theorem y_try {post : SY → Prop} (hc : cf_ok n cnt nxt shr) (hΓ : Γ < 64) (best : Bool) {P : Nat} (hP : P < 64) (hE : ¬ P = 0 → ∀ t, t < n → ye n cnt nxt shr Γ best P t (tp t) (bt t))
    (h : ∀ mv' al' pk' gd' tp' bt', (∀ t, t < n → ye n cnt nxt shr Γ best (P + 1) t (tp' t) (bt' t)) → post ((nI n, nI Γ, mv', al', xc cnt, xc nxt, xc shr, pk', gd', tp', bt') : SY)) : wpY_tryPlan post ((nI n, nI Γ, mv, al, xc cnt, xc nxt, xc shr, pk, gd, tp, bt) : SY) (nI P) (yf best) := by
  have h6 := hc.2.1
  refine y_work hc hΓ hP (fun mv1 pk1 gd1 hgd1 => ⟨n + 1, ?_⟩)
  have key : ∀ (d s : Nat) (tp' bt' : Nat → Int64), s + d = n → (∀ t, t < s → t < n → ye n cnt nxt shr Γ best (P + 1) t (tp' t) (bt' t)) → (¬ P = 0 → ∀ t, s ≤ t → t < n → ye n cnt nxt shr Γ best P t (tp' t) (bt' t)) → wY_tryPlan_7 post (nI P) (yf best) (d + 1) (nI s) (nI n) (nI Γ) mv1 (lN (dn n cnt nxt shr Γ P)) (xc cnt) (xc nxt) (xc shr) pk1 gd1 tp' bt' := by
    intro d
    induction d with
    | zero =>
      intro s tp' bt' hs hA hB
      have e : s = n := by omega
      subst e
      rw [wY_tryPlan_7]
      exact pk_le s s (fun _ => h _ _ _ _ _ _ (fun t ht => hA t ht ht)) (fun z => by omega)
    | succ d ih =>
      intro s tp' bt' hs hA hB
      have hsn : s < n := by omega
      have hnext : ∀ tp2 bt2 : Nat → Int64, ye n cnt nxt shr Γ best (P + 1) s (tp2 s) (bt2 s) → (∀ t, ¬ t = s → tp2 t = tp' t ∧ bt2 t = bt' t) → wY_tryPlan_7 post (nI P) (yf best) (d + 1) (nI (s + 1)) (nI n) (nI Γ) mv1 (lN (dn n cnt nxt shr Γ P)) (xc cnt) (xc nxt) (xc shr) pk1 gd1 tp2 bt2 := by
        intro tp2 bt2 h1 h2
        refine ih (s + 1) tp2 bt2 (by omega) (fun t ht htn => ?_) (fun hP0 t ht htn => ?_)
        · by_cases e : t = s
          · subst e; exact h1
          · rw [(h2 t e).1, (h2 t e).2]; exact hA t (by omega) htn
        · have e : ¬ t = s := by omega
          rw [(h2 t e).1, (h2 t e).2]; exact hB hP0 t (by omega) htn
      rw [wY_tryPlan_7]
      refine pk_le n s (fun z => by omega) (fun _ => pk_le 6 s (fun z => by omega) (fun _ => pk_eq P 0 (fun z => ?_) (fun z => ?_)))
      · unfold wY_tryPlan_33
        exact y_take hc best hsn rfl (hgd1 s hsn) (fun hz => absurd z hz) (fun tp2 bt2 h1 h2 => nm_r (nI_1 s) (hnext tp2 bt2 h1 h2)) (by rw [if_pos z])
      · unfold wY_tryPlan_33
        exact y_take hc best hsn rfl (hgd1 s hsn) (fun hz => hB hz s (Nat.le_refl _) hsn) (fun tp2 bt2 h1 h2 => nm_r (nI_1 s) (hnext tp2 bt2 h1 h2)) (by rw [if_neg z])
  exact key n 0 tp bt (by omega) (fun t ht => by omega) (fun hP0 t _ htn => hE hP0 t htn)
theorem y_gather {post : SY → Prop} (hc : cf_ok n cnt nxt shr) (hΓ : Γ < 64) (best : Bool)
    (h : ∀ mv' al' pk' gd' tp' bt', (∀ t, t < n → yx n cnt nxt shr Γ best t (tp' t) (bt' t)) → post ((nI n, nI Γ, mv', al', xc cnt, xc nxt, xc shr, pk', gd', tp', bt') : SY)) : wpY_gather post ((nI n, nI Γ, mv, al, xc cnt, xc nxt, xc shr, pk, gd, tp, bt) : SY) (yf best) := by
  have h6 := hc.2.1
  have h64 := bi_pow_le h6
  have htl := tw_lt (cnt := cnt) n h6
  refine y_twofold hc ⟨2 ^ n + 1, ?_⟩
  have key : ∀ (d P : Nat) (mv' : Int32) (al' : Int64) (pk' : Nat → Int32) (gd' tp' bt' : Nat → Int64), P + d = 2 ^ n → (¬ P = 0 → ∀ t, t < n → ye n cnt nxt shr Γ best P t (tp' t) (bt' t)) → wY_gather_7 post (yf best) (nI (tw cnt n)) (d + 1) (nI P) (nI n) (nI Γ) mv' al' (xc cnt) (xc nxt) (xc shr) pk' gd' tp' bt' := by
    intro d
    induction d with
    | zero =>
      intro P mv' al' pk' gd' tp' bt' hP hE
      have e : P = 2 ^ n := by omega
      have hpos := Nat.two_pow_pos n
      rw [wY_gather_7]
      dsimp only
      rw [bi_5 n (by omega)]
      refine pk_le (2 ^ n) P (fun _ => h _ _ _ _ _ _ (fun t ht => ye_x ?_)) (fun z => by omega)
      rw [← e]
      exact hE (by omega) t ht
    | succ d ih =>
      intro P mv' al' pk' gd' tp' bt' hP hE
      rw [wY_gather_7]
      dsimp only
      rw [bi_5 n (by omega), bi_6 P (by omega) _ htl]
      have hal : P &&& tw cnt n < 64 := bi_and_lt (by omega)
      refine pk_le (2 ^ n) P (fun z => by omega) (fun _ => pk_eq (P &&& tw cnt n) P (fun z => ?_) (fun z => nm_r (nI_1 P) (ih (P + 1) _ _ _ _ _ _ (by omega) (fun _ t ht => ?_))))
      · exact y_try hc hΓ best (by omega) hE (fun mv2 al2 pk2 gd2 tp2 bt2 hE2 => nm_r (nI_1 P) (ih (P + 1) _ _ _ _ _ _ (by omega) (fun _ => hE2)))
      · have hP0 : ¬ P = 0 := fun e => z (by rw [e, Nat.zero_and])
        obtain ⟨q, hq, e1, e2, hm⟩ := hE hP0 t ht
        refine ⟨q, by omega, e1, e2, fun p hp hpt => ?_⟩
        by_cases e : p = P
        · subst e; exact absurd hpt z
        · exact hm p (by omega) hpt
  exact key (2 ^ n) 0 _ _ _ _ _ _ (by omega) (fun z => absurd rfl z)
end
