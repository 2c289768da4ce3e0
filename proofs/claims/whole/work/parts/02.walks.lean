/-- one step: an active state goes to the chosen way's next state, any other stays -/
def fs_st (nx : Nat → Nat → Nat) (act : Nat → Bool) (c : Nat → Nat) (t : Nat) : Nat := if act t = true then nx t (c t) else t
/-- N steps -/
def fs_it (nx : Nat → Nat → Nat) (act : Nat → Bool) (c : Nat → Nat) : Nat → Nat → Nat
  | 0, t => t
  | N + 1, t => fs_it nx act c N (fs_st nx act c t)
theorem fs_st_t {nx : Nat → Nat → Nat} {act : Nat → Bool} {c : Nat → Nat} {t : Nat} (h : act t = true) : fs_st nx act c t = nx t (c t) := if_pos h
theorem fs_st_f {nx : Nat → Nat → Nat} {act : Nat → Bool} {c : Nat → Nat} {t : Nat} (h : act t = false) : fs_st nx act c t = t := if_neg (by rw [h]; decide)
theorem fs_it_s (nx : Nat → Nat → Nat) (act : Nat → Bool) (c : Nat → Nat) (N t : Nat) : fs_it nx act c (N + 1) t = fs_it nx act c N (fs_st nx act c t) := rfl
theorem fs_it_add (nx : Nat → Nat → Nat) (act : Nat → Bool) (c : Nat → Nat) (b : Nat) : ∀ a t : Nat, fs_it nx act c (a + b) t = fs_it nx act c b (fs_it nx act c a t) := by
  intro a
  induction a with
  | zero => intro t; rw [Nat.zero_add]; rfl
  | succ a ih =>
    intro t
    have e : a + 1 + b = (a + b) + 1 := by omega
    rw [e, fs_it_s, fs_it_s]
    exact ih _
theorem fs_it_stop {nx : Nat → Nat → Nat} {act : Nat → Bool} {c : Nat → Nat} {t : Nat} (h : act t = false) : ∀ N : Nat, fs_it nx act c N t = t := by
  intro N
  induction N with
  | zero => rfl
  | succ N ih => rw [fs_it_s, fs_st_f h]; exact ih
theorem fs_it_stay {nx : Nat → Nat → Nat} {act : Nat → Bool} {c : Nat → Nat} {t N : Nat} (h : act (fs_it nx act c N t) = false) {K : Nat} (hK : N ≤ K) : fs_it nx act c K t = fs_it nx act c N t := by
  have e : K = N + (K - N) := by omega
  rw [e, fs_it_add]
  exact fs_it_stop h _
theorem fs_it_lt {n : Nat} {nx : Nat → Nat → Nat} {act : Nat → Bool} {c : Nat → Nat} (hx : ∀ s k, nx s k < n) : ∀ N t : Nat, t < n → fs_it nx act c N t < n := by
  intro N
  induction N with
  | zero => intro t h; exact h
  | succ N ih =>
    intro t h
    rw [fs_it_s]
    apply ih
    unfold fs_st
    split
    · exact hx _ _
    · exact h
theorem fs_pig : ∀ (n : Nat) (f : Nat → Nat), (∀ j, j ≤ n → f j < n) → ∃ a b, a < b ∧ b ≤ n ∧ f a = f b := by
  intro n
  induction n with
  | zero => intro f h; have := h 0 (Nat.le_refl _); omega
  | succ n ih =>
    intro f h
    by_cases hj : ∃ j, j ≤ n ∧ f j = f (n + 1)
    · obtain ⟨j, h1, h2⟩ := hj
      exact ⟨j, n + 1, by omega, by omega, h2⟩
    · have hg : ∀ j, j ≤ n → (if f j = n then f (n + 1) else f j) < n := by
        intro j hjn
        have h1 := h j (by omega)
        have h2 := h (n + 1) (by omega)
        have h3 : ¬ f j = f (n + 1) := fun z => hj ⟨j, hjn, z⟩
        split <;> omega
      obtain ⟨a, b, hab, hb, he⟩ := ih (fun j => if f j = n then f (n + 1) else f j) hg
      refine ⟨a, b, hab, by omega, ?_⟩
      have h3 : ¬ f a = f (n + 1) := fun z => hj ⟨a, by omega, z⟩
      have h4 : ¬ f b = f (n + 1) := fun z => hj ⟨b, hb, z⟩
      have he' : (if f a = n then f (n + 1) else f a) = (if f b = n then f (n + 1) else f b) := he
      by_cases ea : f a = n
      · by_cases eb : f b = n
        · omega
        · rw [if_pos ea, if_neg eb] at he'; omega
      · by_cases eb : f b = n
        · rw [if_neg ea, if_pos eb] at he'; omega
        · rw [if_neg ea, if_neg eb] at he'; exact he'
theorem fs_end {n : Nat} {nx : Nat → Nat → Nat} {act : Nat → Bool} {c : Nat → Nat} (hn : n ≤ 6) (hx : ∀ s k, nx s k < n) {t : Nat} (ht : t < n) : ∀ N : Nat, act (fs_it nx act c N t) = false → act (fs_it nx act c 6 t) = false := by
  intro N
  induction N using Nat.strongRecOn with
  | ind N ih =>
    intro h
    by_cases h6 : N ≤ 6
    · rw [fs_it_stay h h6]; exact h
    · obtain ⟨a, b, hab, hb, he⟩ := fs_pig 6 (fun j => fs_it nx act c j t) (fun j _ => by
        have := fs_it_lt (act := act) (c := c) hx j t ht
        show fs_it nx act c j t < 6
        omega)
      have he' : fs_it nx act c a t = fs_it nx act c b t := he
      have e1 : N = b + (N - b) := by omega
      have e2 : fs_it nx act c N t = fs_it nx act c (a + (N - b)) t := by
        rw [fs_it_add, he', ← fs_it_add, ← e1]
      refine ih (a + (N - b)) (by omega) ?_
      rw [← e2]; exact h
theorem fs_end_eq {n : Nat} {nx : Nat → Nat → Nat} {act : Nat → Bool} {c : Nat → Nat} (hn : n ≤ 6) (hx : ∀ s k, nx s k < n) {t : Nat} (ht : t < n) {N : Nat} (h : act (fs_it nx act c N t) = false) : fs_it nx act c 6 t = fs_it nx act c N t := by
  by_cases h6 : N ≤ 6
  · exact fs_it_stay h h6
  · exact (fs_it_stay (fs_end hn hx ht N h) (by omega)).symm
/-- no circle: within six steps every state is at one that is not active -/
def fs_ac (n : Nat) (nx : Nat → Nat → Nat) (act : Nat → Bool) (c : Nat → Nat) : Prop := ∀ t, t < n → act (fs_it nx act c 6 t) = false
/-- act without i -/
def fs_off (act : Nat → Bool) (i : Nat) : Nat → Bool := fun t => if t = i then false else act t
theorem fs_off_i (act : Nat → Bool) (i : Nat) : fs_off act i i = false := if_pos rfl
theorem fs_off_t {act : Nat → Bool} {i t : Nat} (h : fs_off act i t = true) : ¬ t = i ∧ act t = true := by
  unfold fs_off at h
  by_cases e : t = i
  · rw [if_pos e] at h; exact absurd h (by decide)
  · rw [if_neg e] at h; exact ⟨e, h⟩
theorem fs_off_ne {act : Nat → Bool} {i t : Nat} (h : ¬ t = i) : fs_off act i t = act t := if_neg h
theorem fs_follow (nx : Nat → Nat → Nat) (act : Nat → Bool) (c : Nat → Nat) (i r : Nat) : ∀ N t : Nat, ∃ N', fs_it nx act (fs_set c i r) N' t = fs_it nx (fs_off act i) c N t := by
  intro N
  induction N with
  | zero => intro t; exact ⟨0, rfl⟩
  | succ N ih =>
    intro t
    cases ha : fs_off act i t with
    | false =>
      obtain ⟨N', h⟩ := ih t
      exact ⟨N', by rw [h, fs_it_s, fs_st_f ha]⟩
    | true =>
      obtain ⟨h1, h2⟩ := fs_off_t ha
      obtain ⟨N', h⟩ := ih (nx t (c t))
      refine ⟨N' + 1, ?_⟩
      rw [fs_it_s, fs_it_s, fs_st_t ha, fs_st_t h2, fs_set_ne c r h1]
      exact h
theorem fs_same {nx : Nat → Nat → Nat} {act : Nat → Bool} {c : Nat → Nat} (i r : Nat) : ∀ N t : Nat, (∀ K, fs_off act i (fs_it nx (fs_off act i) c K t) = true) → fs_it nx act (fs_set c i r) N t = fs_it nx (fs_off act i) c N t := by
  intro N
  induction N with
  | zero => intro t _; rfl
  | succ N ih =>
    intro t h
    have ha : fs_off act i t = true := h 0
    obtain ⟨h1, h2⟩ := fs_off_t ha
    rw [fs_it_s, fs_it_s, fs_st_t ha, fs_st_t h2, fs_set_ne c r h1]
    apply ih
    intro K
    have := h (K + 1)
    rw [fs_it_s, fs_st_t ha] at this
    exact this
theorem fs_cyc {nx : Nat → Nat → Nat} {act : Nat → Bool} {c : Nat → Nat} {i p : Nat} (h : fs_it nx act c p i = i) : ∀ q : Nat, fs_it nx act c (q * p) i = i := by
  intro q
  induction q with
  | zero => rw [Nat.zero_mul]; rfl
  | succ q ih => rw [Nat.succ_mul, fs_it_add, ih, h]
theorem fs_ac_1 {n : Nat} {nx : Nat → Nat → Nat} {act : Nat → Bool} {c : Nat → Nat} {i r : Nat} (hn : n ≤ 6) (hx : ∀ s k, nx s k < n) (h : fs_ac n nx act (fs_set c i r)) : fs_ac n nx (fs_off act i) c := by
  intro t ht
  cases ha : fs_off act i (fs_it nx (fs_off act i) c 6 t) with
  | false => rfl
  | true =>
    have hall : ∀ K, fs_off act i (fs_it nx (fs_off act i) c K t) = true := by
      intro K
      cases hb : fs_off act i (fs_it nx (fs_off act i) c K t) with
      | true => rfl
      | false =>
        have := fs_end hn hx ht K hb
        rw [ha] at this; exact this.symm
    have h1 := h t ht
    rw [fs_same i r 6 t hall] at h1
    have h2 := (fs_off_t ha).2
    rw [h1] at h2; exact h2.symm
theorem fs_ac_2 {n : Nat} {nx : Nat → Nat → Nat} {act : Nat → Bool} {c : Nat → Nat} {i r : Nat} (hi : i < n) (ai : act i = true) (h : fs_ac n nx act (fs_set c i r)) : ¬ fs_it nx (fs_off act i) c 6 (nx i r) = i := by
  intro he
  obtain ⟨N', h1⟩ := fs_follow nx act c i r 6 (nx i r)
  have h2 : fs_it nx act (fs_set c i r) (N' + 1) i = i := by
    rw [fs_it_s, fs_st_t ai, fs_set_eq, h1, he]
  have h3 := fs_cyc h2 6
  have h4 := h i hi
  have h5 := fs_it_stay (K := 6 * (N' + 1)) h4 (by omega)
  rw [h3] at h5
  rw [← h5, ai] at h4
  exact absurd h4 (by decide)
theorem fs_ac_3 {n : Nat} {nx : Nat → Nat → Nat} {act : Nat → Bool} {c : Nat → Nat} {i r : Nat} (hn : n ≤ 6) (hx : ∀ s k, nx s k < n) (ai : act i = true) (h : fs_ac n nx (fs_off act i) c) (hr : ¬ fs_it nx (fs_off act i) c 6 (nx i r) = i) {x : Nat} (hxn : x < n) : act (fs_it nx act (fs_set c i r) 6 x) = false ∧ fs_it nx act (fs_set c i r) 6 x = if fs_it nx (fs_off act i) c 6 x = i then fs_it nx (fs_off act i) c 6 (nx i r) else fs_it nx (fs_off act i) c 6 x := by
  have key : ∀ y, (∃ N, fs_it nx act (fs_set c i r) N x = y) → act y = false → act (fs_it nx act (fs_set c i r) 6 x) = false ∧ fs_it nx act (fs_set c i r) 6 x = y := by
    intro y ⟨N, hN⟩ hy
    have h0 : act (fs_it nx act (fs_set c i r) N x) = false := by rw [hN]; exact hy
    exact ⟨fs_end hn hx hxn N h0, by rw [fs_end_eq hn hx hxn h0, hN]⟩
  obtain ⟨N1, h1⟩ := fs_follow nx act c i r 6 x
  by_cases e : fs_it nx (fs_off act i) c 6 x = i
  · rw [if_pos e]
    obtain ⟨N2, h2⟩ := fs_follow nx act c i r 6 (nx i r)
    refine key _ ⟨N1 + (N2 + 1), ?_⟩ ?_
    · rw [fs_it_add, h1, e, fs_it_s, fs_st_t ai, fs_set_eq, h2]
    · have h3 := h (nx i r) (hx _ _)
      rw [fs_off_ne hr] at h3
      exact h3
  · rw [if_neg e]
    refine key _ ⟨N1, h1⟩ ?_
    have h3 := h x hxn
    rw [fs_off_ne e] at h3
    exact h3
theorem fs_ac_iso {n : Nat} {nx : Nat → Nat → Nat} {act : Nat → Bool} {c : Nat → Nat} {i r : Nat} (hn : n ≤ 6) (hx : ∀ s k, nx s k < n) (hi : i < n) (ai : act i = true) : fs_ac n nx act (fs_set c i r) ↔ (fs_ac n nx (fs_off act i) c ∧ ¬ fs_it nx (fs_off act i) c 6 (nx i r) = i) :=
  ⟨fun h => ⟨fs_ac_1 hn hx h, fs_ac_2 hi ai h⟩, fun h t ht => (fs_ac_3 hn hx ai h.1 h.2 ht).1⟩
