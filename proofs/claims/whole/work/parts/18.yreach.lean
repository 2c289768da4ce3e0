section
variable {n : Nat} {cnt nxt shr : Nat → Nat} {Γ : Nat} {mv : Int32} {al : Int64} {pk : Nat → Int32} {gd tp bt : Nat → Int64}
theorem y_chosen {post : Int32 → Prop} {s p : Nat} (hs : s < 6) (hp : p < 64) (hc : ∀ c, cnt c ≤ 3) (h : post (nI (cf_ch cnt p s))) : wpY_chosen post ((nI n, nI Γ, mv, al, xc cnt, xc nxt, xc shr, pk, gd, tp, bt) : SY) (nI s) (nI p) := by
  unfold wpY_chosen
  dsimp only
  have e1 : (2 * nI s) + 1 = nI (2 * s + 1) := ix_2 s 1
  have h3 := hc (2 * s + 1)
  rw [bi_1 p hp s hs, e1, xc_at rfl (by omega)]
  unfold cf_ch at h
  by_cases hb : p.testBit s = true
  · rw [if_pos hb]
    refine br_t rfl ⟨pk_in (2 * s + 1) 12 (by omega), pk_le (cnt (2 * s + 1)) 0 (fun z => ?_) (fun z => ?_)⟩
    · rw [if_neg (by omega)] at h; exact h
    · rw [if_pos ⟨hb, by omega⟩] at h; exact h
  · rw [if_neg hb]
    refine br_f (by decide) ?_
    rw [if_neg (fun z => hb z.1)] at h
    exact h
theorem y_leads {post : Int32 → Prop} (hc : cf_ok n cnt nxt shr) {s p S : Nat} (hs : s < n) (hp : p < 64) (hS : S < 64)
    (h1 : ∀ k, k < cf_m cnt (cf_ch cnt p) s → S.testBit (cf_nx nxt (cf_ch cnt p) s k) = true → post 1)
    (h0 : (∀ k, k < cf_m cnt (cf_ch cnt p) s → ¬ S.testBit (cf_nx nxt (cf_ch cnt p) s k) = true) → post 0) : wpY_leads post ((nI n, nI Γ, mv, al, xc cnt, xc nxt, xc shr, pk, gd, tp, bt) : SY) (nI s) (nI p) (nI S) := by
  have HC := hc
  obtain ⟨h2, h6, hc3, hn, hr, hpp, hz⟩ := HC
  have hch := cf_ch_le cnt p s
  have hcc := hc3 (2 * s + cf_ch cnt p s)
  have em : cf_m cnt (cf_ch cnt p) s = cnt (2 * s + cf_ch cnt p s) := rfl
  unfold wpY_leads
  refine y_chosen (by omega) hp hc3 ⟨cnt (2 * s + cf_ch cnt p s) + 1, ?_⟩
  have key : ∀ (d i : Nat), i + d = cnt (2 * s + cf_ch cnt p s) → (∀ k, k < i → ¬ S.testBit (cf_nx nxt (cf_ch cnt p) s k) = true) → wY_leads_11 post (nI s) (nI S) (nI (cf_ch cnt p s)) (nI n) (nI Γ) mv al (xc cnt) (xc nxt) (xc shr) pk gd tp bt (d + 1) (nI i) := by
    intro d
    induction d with
    | zero =>
      intro i hi hI
      rw [wY_leads_11, ix_2, xc_at rfl (by omega)]
      exact ⟨pk_in (2 * s + cf_ch cnt p s) 12 (by omega), pk_le (cnt (2 * s + cf_ch cnt p s)) i (fun _ => h0 (fun k hk => hI k (by omega))) (fun z => by omega)⟩
    | succ d ih =>
      intro i hi hI
      rw [wY_leads_11]
      dsimp only
      rw [ix_2, xc_at rfl (by omega), ix_63, xc_at rfl (by omega)]
      have hnx := hn (6 * s + 3 * cf_ch cnt p s + i)
      rw [bi_1 S hS _ (by omega)]
      refine ⟨pk_in (2 * s + cf_ch cnt p s) 12 (by omega), pk_le (cnt (2 * s + cf_ch cnt p s)) i (fun z => by omega) (fun _ => pk_le 3 i (fun z => by omega) (fun _ => ⟨pk_in (6 * s + 3 * cf_ch cnt p s + i) 36 (by omega), ?_⟩))⟩
      by_cases hb : S.testBit (nxt (6 * s + 3 * cf_ch cnt p s + i)) = true
      · rw [if_pos hb]
        exact br_t rfl (h1 i (by omega) hb)
      · rw [if_neg hb]
        refine br_f (by decide) (nm_r (nI_1 i) (ih (i + 1) (by omega) (fun k hk => ?_)))
        by_cases e : k = i
        · subst e; exact hb
        · exact hI k (by omega)
  exact key _ 0 (by omega) (fun k hk => by omega)
/-- what holds within a round of the reference -/
def mk_R (n : Nat) (m : Nat → Nat) (nx : Nat → Nat → Nat) (G : Nat → Bool) (S0 s S : Nat) : Prop :=
  (∀ t, t < n → S0.testBit t = true → S.testBit t = true) ∧ (∀ t, t < n → S.testBit t = true → cf_RS n m nx G t) ∧ (∀ t k, t < s → t < n → k < m t → S0.testBit (nx t k) = true → S.testBit t = true)
theorem y_reach16 {post : SY → Prop} {J7 : Int32 → Int32 → Prop} (hc : cf_ok n cnt nxt shr) {p r S0 : Nat} (hp : p < 64)
    (hJ : ∀ S, S < 64 → mk_R n (cf_m cnt (cf_ch cnt p)) (cf_nx nxt (cf_ch cnt p)) (fun t => Γ.testBit t) S0 n S → J7 (nI S) (nI (r + 1))) :
    ∀ (d s S : Nat), s + d = n → S < 64 → mk_R n (cf_m cnt (cf_ch cnt p)) (cf_nx nxt (cf_ch cnt p)) (fun t => Γ.testBit t) S0 s S → wY_reach_16 post J7 (nI p) (nI r) (nI n) (nI Γ) mv al (xc cnt) (xc nxt) (xc shr) pk gd tp bt (d + 1) (nI S) (nI s) := by
  have h6 := hc.2.1
  intro d
  induction d with
  | zero =>
    intro s S hs hS hQ
    have e : s = n := by omega
    subst e
    rw [wY_reach_16]
    exact pk_le s s (fun _ => nm_r (nI_1 r) (hJ S hS hQ)) (fun z => by omega)
  | succ d ih =>
    intro s S hs hS hQ
    rw [wY_reach_16]
    refine pk_le n s (fun z => by omega) (fun _ => pk_le 6 s (fun z => by omega) (fun _ => ?_))
    refine y_leads hc (by omega) hp hS (fun k hk hb => ?_) (fun hno => ?_)
    · refine br_f (by decide) (nm_r (bi_2 S hS s (by omega)) (nm_r (nI_1 s) (ih (s + 1) _ (by omega) (bi_or_lt hS (by omega)) ⟨fun t ht h => ?_, fun t ht h => ?_, fun t k ht htn hk h => ?_⟩)))
      · rw [bi_or_t]
        split
        · rfl
        · exact hQ.1 t ht h
      · rw [bi_or_t] at h
        by_cases e : t = s
        · subst e
          exact cf_RS_s ht hk (hQ.2.1 _ (hc.2.2.2.1 _) hb)
        · rw [if_neg e] at h
          exact hQ.2.1 t ht h
      · rw [bi_or_t]
        by_cases e : t = s
        · rw [if_pos e]
        · rw [if_neg e]; exact hQ.2.2 t k (by omega) htn hk h
    · refine br_t rfl (nm_r (nI_1 s) (ih (s + 1) S (by omega) hS ⟨hQ.1, hQ.2.1, fun t k ht htn hk h => ?_⟩))
      by_cases e : t = s
      · subst e
        exact absurd (hQ.1 _ (hc.2.2.2.1 _) h) (hno k hk)
      · exact hQ.2.2 t k (by omega) htn hk h
theorem y_reach {post : SY → Prop} (hc : cf_ok n cnt nxt shr) (hΓ : Γ < 64) {p : Nat} (hp : p < 64)
    (h : ∀ μ, μ < 64 → (∀ t, t < n → μ.testBit t = cf_M n (cf_m cnt (cf_ch cnt p)) (cf_nx nxt (cf_ch cnt p)) (fun t => Γ.testBit t) t) → post ((nI n, nI Γ, (nI μ), al, xc cnt, xc nxt, xc shr, pk, gd, tp, bt) : SY)) : wpY_reach post ((nI n, nI Γ, mv, al, xc cnt, xc nxt, xc shr, pk, gd, tp, bt) : SY) (nI p) := by
  have h6 := hc.2.1
  have hx : ∀ s k, cf_nx nxt (cf_ch cnt p) s k < n := fun s k => hc.2.2.2.1 _
  refine ⟨6 + 1, ?_⟩
  have key : ∀ (d r S : Nat), r + d = 6 → S < 64 → mk_I n (cf_m cnt (cf_ch cnt p)) (cf_nx nxt (cf_ch cnt p)) (fun t => Γ.testBit t) r (fun t => S.testBit t) → wY_reach_7 post (nI p) (nI n) (nI Γ) mv al (xc cnt) (xc nxt) (xc shr) pk gd tp bt (d + 1) (nI S) (nI r) := by
    intro d
    induction d with
    | zero =>
      intro r S hr hS hI
      rw [wY_reach_7]
      refine pk_le 6 r (fun _ => nm_r (bi_4 S hS Γ hΓ) (h _ (bi_and_lt hS) (fun t ht => ?_))) (fun z => by omega)
      rw [bi_and_t (by omega)]
      have h1 : S.testBit t = true ↔ _ := mk_IE hI (by omega) t ht
      have h2 := @cf_M_t n (cf_m cnt (cf_ch cnt p)) (cf_nx nxt (cf_ch cnt p)) (fun t => Γ.testBit t) t
      cases hG : Γ.testBit t with
      | true =>
        cases hM : cf_M n (cf_m cnt (cf_ch cnt p)) (cf_nx nxt (cf_ch cnt p)) (fun t => Γ.testBit t) t with
        | true =>
          have := (h2.mp hM).2
          rw [hG] at this
          exact absurd this (by decide)
        | false => simp
      | false =>
        cases hM : cf_M n (cf_m cnt (cf_ch cnt p)) (cf_nx nxt (cf_ch cnt p)) (fun t => Γ.testBit t) t with
        | true =>
          rw [h1.mpr (h2.mp hM).1]; rfl
        | false =>
          cases hb : S.testBit t with
          | false => rfl
          | true =>
            have := h2.mpr ⟨h1.mp hb, hG⟩
            rw [hM] at this
            exact absurd this (by decide)
    | succ d ih =>
      intro r S hr hS hI
      rw [wY_reach_7]
      refine pk_le 6 r (fun z => by omega) (fun _ => ⟨n + 1, ?_⟩)
      refine y_reach16 hc hp (S0 := S) (fun S' hS' hQ => ?_) n 0 S (by omega) hS ⟨fun t _ h => h, fun t ht h => hI.2.1 t ht h, fun t k ht => by omega⟩
      exact ih (r + 1) S' (by omega) hS' (mk_I1 hx hI (fun t ht h => hQ.1 t ht h) (fun t ht h => hQ.2.1 t ht h) (fun t k ht hk h => hQ.2.2 t k ht ht hk h))
  exact key 6 0 Γ (by omega) hΓ (mk_I0 hx (fun s hs => rfl))
end
