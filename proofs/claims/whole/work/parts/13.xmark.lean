section
variable {n : Nat} {cnt nxt shr : Nat → Nat} {Γ : Nat} {eq pt pb et eb : Nat → Int64}
theorem x_cell {post : Int32 → Prop} {cr : Nat → Int32} {s p : Nat} (hs : s < 6) (hp : p < 64) (h0 : cnt (2 * s) = 0 → cnt (2 * s + 1) = 0) (h : post (nI (2 * s + cf_ch cnt p s))) : wpX_chosenCell post ((nI n, nI (2 ^ n), xa cnt, xc cnt, xc nxt, xc shr, xg Γ, cr, eq, pt, pb, et, eb) : SX) (nI s) (nI p) := by
  unfold wpX_chosenCell
  refine ⟨pk_in s 6 hs, ?_⟩
  rw [xa_at hs]
  have e2 := xn_le cnt s
  refine pk_eq (xn cnt s) 2 (fun e => nm_r (bi_1 p hp s hs) ?_) (fun e => ?_)
  · have hpos : 0 < cnt (2 * s + 1) := by
      unfold xn at e
      split at e
      · omega
      · split at e <;> omega
    by_cases hb : p.testBit s = true
    · rw [if_pos hb]
      have e1 : cf_ch cnt p s = 1 := if_pos ⟨hb, hpos⟩
      rw [e1] at h
      exact (ix_2 s 1).symm ▸ h
    · rw [if_neg hb]
      have e1 : cf_ch cnt p s = 0 := if_neg (fun z => hb z.1)
      rw [e1] at h
      exact (ix_2 s 0).symm ▸ h
  · have hz : cnt (2 * s + 1) = 0 := by
      unfold xn at e
      split at e
      · rename_i z; exact h0 z
      · split at e
        · rename_i z; exact z
        · omega
    have e1 : cf_ch cnt p s = 0 := if_neg (fun z => by omega)
    rw [e1] at h
    exact (ix_2 s 0).symm ▸ h
/-- the marks -/
def x_S (cr : Nat → Int32) : Nat → Bool := fun s => decide (¬ cr s = 0)
theorem x_S_t {cr : Nat → Int32} {s : Nat} : x_S cr s = true ↔ ¬ cr s = 0 := by
  unfold x_S
  exact decide_eq_true_iff
/-- what holds within a round, the states below s being done -/
def mk_Q (n : Nat) (m : Nat → Nat) (nx : Nat → Nat → Nat) (G : Nat → Bool) (S0 : Nat → Bool) (s : Nat) (cr : Nat → Int32) : Prop :=
  (∀ t, t < n → S0 t = true → ¬ cr t = 0) ∧ (∀ t, t < n → ¬ cr t = 0 → cf_RS n m nx G t) ∧ (∀ t k, t < s → t < n → k < m t → S0 (nx t k) = true → ¬ cr t = 0)
theorem x_mark59 {post : SX → Prop} {J30 J40 : Int32 → (Nat → Int32) → (Nat → Int32) → (Nat → Int32) → (Nat → Int32) → (Nat → Int32) → (Nat → Int32) → (Nat → Int64) → (Nat → Int64) → (Nat → Int64) → (Nat → Int64) → (Nat → Int64) → Prop} (hc : cf_ok n cnt nxt shr) {p r s : Nat} {S0 : Nat → Bool} (hs : s < n)
    (hJ : ∀ cr', mk_Q n (cf_m cnt (cf_ch cnt p)) (cf_nx nxt (cf_ch cnt p)) (fun t => Γ.testBit t) S0 (s + 1) cr' → J40 (nI (s + 1)) (xa cnt) (xc cnt) (xc nxt) (xc shr) (xg Γ) cr' eq pt pb et eb) :
    ∀ (d i : Nat) (cr : Nat → Int32), i + d = cnt (2 * s + cf_ch cnt p s) → mk_Q n (cf_m cnt (cf_ch cnt p)) (cf_nx nxt (cf_ch cnt p)) (fun t => Γ.testBit t) S0 s cr → (∀ k, k < i → S0 (cf_nx nxt (cf_ch cnt p) s k) = true → ¬ cr s = 0) →
    wX_markReachingStates_59 post J30 J40 (nI p) (nI r) (nI s) (nI (2 * s + cf_ch cnt p s)) (nI n) (nI (2 ^ n)) (d + 1) (nI i) (xa cnt) (xc cnt) (xc nxt) (xc shr) (xg Γ) cr eq pt pb et eb := by
  have HC := hc
  obtain ⟨h2, h6, hc3, hn, hr, hp, h0⟩ := HC
  have hch := cf_ch_le cnt p s
  have hcc := hc3 (2 * s + cf_ch cnt p s)
  intro d
  induction d with
  | zero =>
    intro i cr hi hQ hI
    rw [wX_markReachingStates_59]
    refine ⟨pk_in (2 * s + cf_ch cnt p s) 12 (by omega), ?_⟩
    rw [xc_at rfl (by omega)]
    refine pk_le (cnt (2 * s + cf_ch cnt p s)) i (fun _ => nm_r (nI_1 s) (hJ cr ⟨hQ.1, hQ.2.1, fun t k ht htn hk hS => ?_⟩)) (fun z => by omega)
    by_cases e : t = s
    · subst e
      exact hI k (by have : k < cnt (2 * t + cf_ch cnt p t) := hk
                     omega) hS
    · exact hQ.2.2 t k (by omega) htn hk hS
  | succ d ih =>
    intro i cr hi hQ hI
    rw [wX_markReachingStates_59]
    refine ⟨pk_in (2 * s + cf_ch cnt p s) 12 (by omega), ?_⟩
    rw [xc_at rfl (by omega)]
    refine pk_le (cnt (2 * s + cf_ch cnt p s)) i (fun z => by omega) (fun _ => ?_)
    rw [ix_3, xc_at rfl (by omega)]
    have hnx := hn (3 * (2 * s + cf_ch cnt p s) + i)
    have enx : nxt (3 * (2 * s + cf_ch cnt p s) + i) = cf_nx nxt (cf_ch cnt p) s i := by
      unfold cf_nx
      exact congrArg nxt (by omega)
    rw [enx] at hnx ⊢
    refine ⟨pk_in (3 * (2 * s + cf_ch cnt p s) + i) 36 (by omega), pk_in (cf_nx nxt (cf_ch cnt p) s i) 6 (by omega), ?_⟩
    rw [nI_clamp (n := cf_nx nxt (cf_ch cnt p) s i) (by omega), nI_clamp (n := s) (by omega), vn_1]
    refine br_c (fun hz => nm_r (nI_1 i) (ih (i + 1) cr (by omega) hQ (fun k hk hS => ?_))) (fun hz => ⟨pk_in s 6 (by omega), nm_e (nm_r (nI_1 i) (ih (i + 1) _ (by omega) ⟨fun t ht hS => ?_, fun t ht hS => ?_, fun t k ht htn hk hS => ?_⟩ (fun k hk hS => ?_)))⟩)
    · by_cases e : k = i
      · subst e
        exact absurd hz (hQ.1 _ hnx hS)
      · exact hI k (by omega) hS
    · unfold upd
      split
      · decide
      · exact hQ.1 t ht hS
    · by_cases e : t = s
      · subst e
        exact cf_RS_s (k := i) ht (by show i < cnt (2 * t + cf_ch cnt p t); omega) (hQ.2.1 _ hnx hz)
      · have : upd cr s 1 t = cr t := pk_un e
        rw [this] at hS
        exact hQ.2.1 t ht hS
    · unfold upd
      split
      · decide
      · exact hQ.2.2 t k ht htn hk hS
    · rw [pk_us]; decide
theorem x_mark40 {post : SX → Prop} {J30 : Int32 → (Nat → Int32) → (Nat → Int32) → (Nat → Int32) → (Nat → Int32) → (Nat → Int32) → (Nat → Int32) → (Nat → Int64) → (Nat → Int64) → (Nat → Int64) → (Nat → Int64) → (Nat → Int64) → Prop} (hc : cf_ok n cnt nxt shr) {p r : Nat} (hp64 : p < 64) {S0 : Nat → Bool}
    (hJ : ∀ cr', mk_Q n (cf_m cnt (cf_ch cnt p)) (cf_nx nxt (cf_ch cnt p)) (fun t => Γ.testBit t) S0 n cr' → J30 (nI (r + 1)) (xa cnt) (xc cnt) (xc nxt) (xc shr) (xg Γ) cr' eq pt pb et eb) :
    ∀ (d s : Nat) (cr : Nat → Int32), s + d = n → mk_Q n (cf_m cnt (cf_ch cnt p)) (cf_nx nxt (cf_ch cnt p)) (fun t => Γ.testBit t) S0 s cr →
    wX_markReachingStates_40 post J30 (nI p) (nI r) (nI n) (nI (2 ^ n)) (d + 1) (nI s) (xa cnt) (xc cnt) (xc nxt) (xc shr) (xg Γ) cr eq pt pb et eb := by
  have h6 := hc.2.1
  intro d
  induction d with
  | zero =>
    intro s cr hi hQ
    have e : s = n := by omega
    subst e
    rw [wX_markReachingStates_40]
    exact pk_le s s (fun _ => nm_r (nI_1 r) (hJ cr hQ)) (fun z => by omega)
  | succ d ih =>
    intro s cr hi hQ
    rw [wX_markReachingStates_40]
    refine pk_le n s (fun z => by omega) (fun _ => ?_)
    refine x_cell (by omega) hp64 (hc.2.2.2.2.2.2 s) ⟨cnt (2 * s + cf_ch cnt p s) + 1, ?_⟩
    exact x_mark59 hc (by omega) (fun cr' hQ' => ih (s + 1) cr' (by omega) hQ') (cnt (2 * s + cf_ch cnt p s)) 0 cr (by omega) hQ (fun k hk => by omega)
theorem x_mark30 {post : SX → Prop} (hc : cf_ok n cnt nxt shr) {p : Nat} (hp64 : p < 64)
    (hJ : ∀ cr', mk_I n (cf_m cnt (cf_ch cnt p)) (cf_nx nxt (cf_ch cnt p)) (fun t => Γ.testBit t) (n - 1) (x_S cr') → post ((nI n, nI (2 ^ n), xa cnt, xc cnt, xc nxt, xc shr, xg Γ, cr', eq, pt, pb, et, eb) : SX)) :
    ∀ (d r : Nat) (cr : Nat → Int32), r + 1 + d = n → mk_I n (cf_m cnt (cf_ch cnt p)) (cf_nx nxt (cf_ch cnt p)) (fun t => Γ.testBit t) r (x_S cr) →
    wX_markReachingStates_30 post (nI p) (nI n) (nI (2 ^ n)) (d + 1) (nI (r + 1)) (xa cnt) (xc cnt) (xc nxt) (xc shr) (xg Γ) cr eq pt pb et eb := by
  have h6 := hc.2.1
  have hx : ∀ s k, cf_nx nxt (cf_ch cnt p) s k < n := fun s k => hc.2.2.2.1 _
  intro d
  induction d with
  | zero =>
    intro r cr hi hI
    have e : r = n - 1 := by omega
    subst e
    rw [wX_markReachingStates_30]
    exact pk_le n (n - 1 + 1) (fun _ => hJ cr hI) (fun z => by omega)
  | succ d ih =>
    intro r cr hi hI
    rw [wX_markReachingStates_30]
    refine pk_le n (r + 1) (fun z => by omega) (fun _ => ⟨n + 1, ?_⟩)
    refine x_mark40 hc hp64 (S0 := x_S cr) (fun cr' hQ => ?_) n 0 cr (by omega) ⟨fun t ht h => x_S_t.mp h, fun t ht h => hI.2.1 t ht (x_S_t.mpr h), fun t k ht => by omega⟩
    exact ih (r + 1) cr' (by omega) (mk_I1 hx hI (fun t ht h => x_S_t.mpr (hQ.1 t ht h)) (fun t ht h => hQ.2.1 t ht (x_S_t.mp h)) (fun t k ht hk h => x_S_t.mpr (hQ.2.2 t k ht ht hk h)))
theorem xg_nar (Γ s : Nat) : vp_nar .boolean (xg Γ s) = xg Γ s := by
  unfold xg
  split
  · exact vn_1
  · exact vn_0
theorem x_mark2 {post : SX → Prop} (hc : cf_ok n cnt nxt shr) {p : Nat}
    (hJ : ∀ cr', (∀ t, t < n → cr' t = xg Γ t) → ∃ q, wX_markReachingStates_30 post (nI p) (nI n) (nI (2 ^ n)) q 1 (xa cnt) (xc cnt) (xc nxt) (xc shr) (xg Γ) cr' eq pt pb et eb) :
    ∀ (d i : Nat) (cr : Nat → Int32), i + d = n → (∀ t, t < i → cr t = xg Γ t) →
    wX_markReachingStates_2 post (nI p) (nI n) (nI (2 ^ n)) (d + 1) (nI i) (xa cnt) (xc cnt) (xc nxt) (xc shr) (xg Γ) cr eq pt pb et eb := by
  have h6 := hc.2.1
  intro d
  induction d with
  | zero =>
    intro i cr hi hI
    have e : i = n := by omega
    subst e
    rw [wX_markReachingStates_2]
    exact pk_le i i (fun _ => hJ cr hI) (fun z => by omega)
  | succ d ih =>
    intro i cr hi hI
    rw [wX_markReachingStates_2]
    refine pk_le n i (fun z => by omega) (fun _ => ⟨pk_in i 6 (by omega), pk_in i 6 (by omega), ?_⟩)
    rw [nI_clamp (by omega), xg_nar]
    refine nm_e (nm_r (nI_1 i) (ih (i + 1) _ (by omega) (fun t ht => ?_)))
    by_cases e : t = i
    · subst e; exact pk_us
    · rw [pk_un e]; exact hI t (by omega)
theorem x_mark {post : SX → Prop} {cr : Nat → Int32} (hc : cf_ok n cnt nxt shr) {p : Nat} (hp64 : p < 64)
    (h : ∀ cr', (∀ t, t < n → (¬ cr' t = 0 ↔ cf_RS n (cf_m cnt (cf_ch cnt p)) (cf_nx nxt (cf_ch cnt p)) (fun t => Γ.testBit t) t)) → post ((nI n, nI (2 ^ n), xa cnt, xc cnt, xc nxt, xc shr, xg Γ, cr', eq, pt, pb, et, eb) : SX)) : wpX_markReachingStates post ((nI n, nI (2 ^ n), xa cnt, xc cnt, xc nxt, xc shr, xg Γ, cr, eq, pt, pb, et, eb) : SX) (nI p) := by
  have hx : ∀ s k, cf_nx nxt (cf_ch cnt p) s k < n := fun s k => hc.2.2.2.1 _
  have h2 := hc.1
  refine ⟨n + 1, ?_⟩
  refine x_mark2 hc (fun cr1 h1 => ⟨n - 1 + 1, ?_⟩) n 0 cr (by omega) (fun t ht => by omega)
  refine x_mark30 hc hp64 (fun cr' hI => h cr' (fun t ht => ?_)) (n - 1) 0 cr1 (by omega) (mk_I0 hx (fun s hs => ?_))
  · rw [← x_S_t]
    exact mk_IE hI (by omega) t ht
  · unfold x_S
    rw [h1 s hs]
    unfold xg
    cases Γ.testBit s <;> decide
end
