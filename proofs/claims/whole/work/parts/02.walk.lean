/-- the component's walk under way: found, foundSlots, foundCount; R is what can be come to -/
def ph_W (R : Nat → Prop) (fd fs : Nat → Int32) (c : Nat) : Prop :=
  fd 0 = 0 ∧ c = ph_c fd 25 ∧ (∀ m, m < 24 → ¬ fd (m + 1) = 0 → R m) ∧ (∀ i, i < c → ∃ m, m < 24 ∧ fs i = nI (m + 1) ∧ ¬ fd (m + 1) = 0) ∧ (∀ m, m < 24 → ¬ fd (m + 1) = 0 → ∃ i, i < c ∧ fs i = nI (m + 1))
/-- a later state of the same walk -/
def ph_X (fd fs : Nat → Int32) (c : Nat) (fd' fs' : Nat → Int32) (c' : Nat) : Prop :=
  c ≤ c' ∧ (∀ j, ¬ fd j = 0 → ¬ fd' j = 0) ∧ (∀ i, i < c → fs' i = fs i)
theorem ph_X_r {fd fs : Nat → Int32} {c : Nat} : ph_X fd fs c fd fs c := ⟨Nat.le_refl c, fun _ h => h, fun _ _ => rfl⟩
theorem ph_X_t {fd fs fd' fs' fd'' fs'' : Nat → Int32} {c c' c'' : Nat} (h : ph_X fd fs c fd' fs' c') (g : ph_X fd' fs' c' fd'' fs'' c'') : ph_X fd fs c fd'' fs'' c'' :=
  ⟨Nat.le_trans h.1 g.1, fun j hj => g.2.1 j (h.2.1 j hj), fun i hi => (g.2.2 i (Nat.lt_of_lt_of_le hi h.1)).trans (h.2.2 i hi)⟩
theorem ph_W_c {R : Nat → Prop} {fd fs : Nat → Int32} {c : Nat} (h : ph_W R fd fs c) : c ≤ 24 := by
  have := ph_c_lt 25 0 (by omega) h.1
  have := h.2.1
  omega
theorem ph_W_0 {R : Nat → Prop} {fd fs : Nat → Int32} (h : ∀ j, j < 25 → fd j = 0) : ph_W R fd fs 0 := by
  refine ⟨h 0 (by omega), ?_, fun m hm z => absurd (h (m + 1) (by omega)) z, fun i hi => absurd hi (by omega), fun m hm z => absurd (h (m + 1) (by omega)) z⟩
  have e : ph_c fd 25 = ph_c (fun _ => 0) 25 := ph_c_congr 25 (fun j hj => by rw [h j hj])
  rw [e]; rfl
theorem ph_W_f {R : Nat → Prop} {fd fs : Nat → Int32} {c m : Nat} {x : Int32} (h : ph_W R fd fs c) (hm : m < 24) (hR : R m) (z : fd (m + 1) = 0) (hx : ¬ x = 0) : ph_W R (upd fd (m + 1) x) (upd fs c (nI (m + 1))) (c + 1) ∧ ph_X fd fs c (upd fd (m + 1) x) (upd fs c (nI (m + 1))) (c + 1) ∧ ¬ upd fd (m + 1) x (m + 1) = 0 := by
  obtain ⟨h0, hc, hr, hl, hf⟩ := h
  have us : upd fd (m + 1) x (m + 1) = x := if_pos rfl
  have un : ∀ j, ¬ j = m + 1 → upd fd (m + 1) x j = fd j := fun j hj => if_neg hj
  have ls : upd fs c (nI (m + 1)) c = nI (m + 1) := if_pos rfl
  have ln : ∀ i, ¬ i = c → upd fs c (nI (m + 1)) i = fs i := fun j hj => if_neg hj
  have mo : ∀ j, ¬ fd j = 0 → ¬ upd fd (m + 1) x j = 0 := by
    intro j hj
    by_cases e : j = m + 1
    · rw [e, us]; exact hx
    · rw [un j e]; exact hj
  refine ⟨⟨?_, ?_, ?_, ?_, ?_⟩, ⟨by omega, mo, fun i hi => ln i (by omega)⟩, by rw [us]; exact hx⟩
  · rw [un 0 (by omega)]; exact h0
  · rw [ph_c_upd z hx 25 (by omega), hc]
  · intro k hk hz
    by_cases e : k = m
    · rw [e]; exact hR
    · rw [un (k + 1) (by omega)] at hz; exact hr k hk hz
  · intro i hi
    by_cases e : i = c
    · rw [e, ls]; exact ⟨m, hm, rfl, by rw [us]; exact hx⟩
    · obtain ⟨k, hk, e1, e2⟩ := hl i (by omega)
      exact ⟨k, hk, (ln i e).trans e1, mo _ e2⟩
  · intro k hk hz
    by_cases e : k = m
    · rw [e]; exact ⟨c, by omega, ls⟩
    · rw [un (k + 1) (by omega)] at hz
      obtain ⟨i, hi, e1⟩ := hf k hk hz
      exact ⟨i, by omega, (ln i (by omega)).trans e1⟩
/-- the list's positions below at have all their followers found -/
def ph_D (E : Nat → Nat → Prop) (fd fs : Nat → Int32) (at' : Nat) : Prop := ∀ i m b, i < at' → m < 24 → fs i = nI (m + 1) → E m b → b < 24 → ¬ fd (b + 1) = 0
theorem ph_D_x {E : Nat → Nat → Prop} {fd fs fd' fs' : Nat → Int32} {c c' a : Nat} (h : ph_D E fd fs a) (x : ph_X fd fs c fd' fs' c') (ha : a ≤ c) : ph_D E fd' fs' a := by
  intro i m b hi hm e hE hb
  rw [x.2.2 i (by omega)] at e
  exact x.2.1 _ (h i m b hi hm e hE hb)
/-- at the walk's end the found slots are the least set -/
theorem ph_end {S : Nat → Prop} {E : Nat → Nat → Prop} {fd fs : Nat → Int32} {c : Nat} (hE : ∀ a b, E a b → b < 24) (hS : ∀ a, S a → a < 24 ∧ ¬ fd (a + 1) = 0) (h : ph_W (ph_R S E) fd fs c) (d : ph_D E fd fs c) : ∀ m, m < 24 → (¬ fd (m + 1) = 0 ↔ ph_R S E m) := by
  intro m hm
  refine ⟨h.2.2.1 m hm, fun r => ?_⟩
  have := r (fun a => a < 24 ∧ ¬ fd (a + 1) = 0) hS (fun a b ha e => by
    obtain ⟨i, hi, e1⟩ := h.2.2.2.2 a ha.1 ha.2
    exact ⟨hE a b e, d i a b hi ha.1 e1 e (hE a b e)⟩)
  exact this.2
/-- one round of the reference: t holds s and all followers of s -/
theorem ph_round {S : Nat → Prop} {E : Nat → Nat → Prop} {s t : Nat → Int32} {i : Nat} (hE : ∀ a b, E a b → b < 24) (hS : ∀ a, S a → a < 24 ∧ ¬ s a = 0) (hst : ∀ j, j < 24 → ¬ s j = 0 → ¬ t j = 0) (hf : ∀ a b, a < 24 → ¬ s a = 0 → E a b → ¬ t b = 0) (h : (∀ m, m < 24 → ph_R S E m → ¬ s m = 0) ∨ i ≤ ph_c s 24) : (∀ m, m < 24 → ph_R S E m → ¬ t m = 0) ∨ i + 1 ≤ ph_c t 24 := by
  have st : ∀ j, j < 24 → t j = 0 → s j = 0 := fun j hj z => Classical.byContradiction (fun n => hst j hj n z)
  rcases h with h | h
  · exact Or.inl (fun m hm r => hst m hm (h m hm r))
  · by_cases g : ph_c t 24 ≤ ph_c s 24
    · have sm := ph_c_same 24 st g
      refine Or.inl (fun m hm r => ?_)
      have := r (fun a => a < 24 ∧ ¬ t a = 0) (fun a ha => ⟨(hS a ha).1, hst a (hS a ha).1 (hS a ha).2⟩) (fun a b ha e => ⟨hE a b e, hf a b ha.1 (fun z => ha.2 (sm a ha.1 z)) e⟩)
      exact this.2
    · exact Or.inr (by omega)
theorem ph_rounds {S : Nat → Prop} {E : Nat → Nat → Prop} {s : Nat → Int32} (h : (∀ m, m < 24 → ph_R S E m → ¬ s m = 0) ∨ 24 ≤ ph_c s 24) : ∀ m, m < 24 → ph_R S E m → ¬ s m = 0 := by
  rcases h with h | h
  · exact h
  · intro m hm _ z
    have := ph_c_lt 24 m hm z
    omega
