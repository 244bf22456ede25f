section
/-- how many of the first n cells are not 0 -/
def ph_c (s : Nat → Int32) : Nat → Nat
  | 0 => 0
  | n + 1 => ph_c s n + (if s n = 0 then 0 else 1)
theorem ph_c_s (s : Nat → Int32) (n : Nat) : ph_c s (n + 1) = ph_c s n + (if s n = 0 then 0 else 1) := rfl
theorem ph_c_le (s : Nat → Int32) : ∀ n, ph_c s n ≤ n := by
  intro n
  induction n with
  | zero => exact Nat.le_refl 0
  | succ n ih => rw [ph_c_s]; split <;> omega
theorem ph_c_lt {s : Nat → Int32} : ∀ n j, j < n → s j = 0 → ph_c s n < n := by
  intro n
  induction n with
  | zero => intro j h; omega
  | succ n ih =>
    intro j h z
    rw [ph_c_s]
    by_cases e : j = n
    · subst e; rw [if_pos z]; have := ph_c_le s j; omega
    · have := ih j (by omega) z; split <;> omega
theorem ph_c_full {s : Nat → Int32} : ∀ n, (∀ j, j < n → ¬ s j = 0) → ph_c s n = n := by
  intro n
  induction n with
  | zero => intro _; rfl
  | succ n ih =>
    intro h
    rw [ph_c_s, if_neg (h n (by omega)), ih (fun j hj => h j (by omega))]
theorem ph_c_congr {s t : Nat → Int32} : ∀ n, (∀ j, j < n → (s j = 0 ↔ t j = 0)) → ph_c s n = ph_c t n := by
  intro n
  induction n with
  | zero => intro _; rfl
  | succ n ih =>
    intro h
    rw [ph_c_s, ph_c_s, ih (fun j hj => h j (by omega))]
    by_cases z : s n = 0
    · rw [if_pos z, if_pos ((h n (by omega)).mp z)]
    · rw [if_neg z, if_neg (fun y => z ((h n (by omega)).mpr y))]
theorem ph_c_upd {s : Nat → Int32} {k : Nat} {x : Int32} (z : s k = 0) (hx : ¬ x = 0) : ∀ n, k < n → ph_c (upd s k x) n = ph_c s n + 1 := by
  intro n
  induction n with
  | zero => intro h; omega
  | succ n ih =>
    intro h
    rw [ph_c_s, ph_c_s]
    by_cases e : k = n
    · subst e
      have h1 : ph_c (upd s k x) k = ph_c s k := ph_c_congr k (fun j hj => by
        have : upd s k x j = s j := if_neg (by omega)
        rw [this])
      have h2 : upd s k x k = x := if_pos rfl
      rw [h1, h2, if_neg hx, if_pos z]
    · have h2 : upd s k x n = s n := if_neg (fun y => e y.symm)
      rw [ih (by omega), h2]; omega
theorem ph_c_mono {s t : Nat → Int32} : ∀ n, (∀ j, j < n → t j = 0 → s j = 0) → ph_c s n ≤ ph_c t n := by
  intro n
  induction n with
  | zero => intro _; exact Nat.le_refl 0
  | succ n ih =>
    intro h
    have i := ih (fun j hj => h j (by omega))
    rw [ph_c_s, ph_c_s]
    by_cases z : t n = 0
    · rw [if_pos z, if_pos (h n (by omega) z)]; omega
    · rw [if_neg z]; split <;> omega
theorem ph_c_same {s t : Nat → Int32} : ∀ n, (∀ j, j < n → t j = 0 → s j = 0) → ph_c t n ≤ ph_c s n → ∀ j, j < n → s j = 0 → t j = 0 := by
  intro n
  induction n with
  | zero => intro _ _ j hj; omega
  | succ n ih =>
    intro h hle j hj z
    have m := ph_c_mono n (fun j hj => h j (by omega))
    rw [ph_c_s, ph_c_s] at hle
    by_cases y : t n = 0
    · by_cases e : j = n
      · subst e; exact y
      · rw [if_pos y, if_pos (h n (by omega) y)] at hle
        exact ih (fun j hj => h j (by omega)) (by omega) j (by omega) z
    · rw [if_neg y] at hle
      by_cases w : s n = 0
      · rw [if_pos w] at hle; omega
      · rw [if_neg w] at hle
        by_cases e : j = n
        · subst e; exact absurd z w
        · exact ih (fun j hj => h j (by omega)) (by omega) j (by omega) z
theorem ph_c_shift {f s : Nat → Int32} (h0 : f 0 = 0) : ∀ n, (∀ j, j < n → (f (j + 1) = 0 ↔ s j = 0)) → ph_c f (n + 1) = ph_c s n := by
  intro n
  induction n with
  | zero => intro _; show ph_c f 0 + (if f 0 = 0 then 0 else 1) = 0; rw [if_pos h0]; rfl
  | succ n ih =>
    intro h
    rw [ph_c_s f (n + 1), ph_c_s s n, ih (fun j hj => h j (by omega))]
    by_cases z : s n = 0
    · rw [if_pos z, if_pos ((h n (by omega)).mpr z)]
    · rw [if_neg z, if_neg (fun y => z ((h n (by omega)).mp y))]
/-- the least set that holds the seeds S and is closed under E -/
def ph_R (S : Nat → Prop) (E : Nat → Nat → Prop) (x : Nat) : Prop := ∀ P : Nat → Prop, (∀ a, S a → P a) → (∀ a b, P a → E a b → P b) → P x
theorem ph_R_s {S : Nat → Prop} {E : Nat → Nat → Prop} {a : Nat} (h : S a) : ph_R S E a := fun _ hS _ => hS a h
theorem ph_R_e {S : Nat → Prop} {E : Nat → Nat → Prop} {a b : Nat} (h : ph_R S E a) (e : E a b) : ph_R S E b := fun P hS hE => hE a b (h P hS hE) e
/-- slot 24 of the reference (nothing) is slot 0 of the component; any other is one further -/
def ph_f (m : Nat) : Nat := if m = 24 then 0 else m + 1
theorem ph_f24 : ph_f 24 = 0 := rfl
theorem ph_fl {m : Nat} (h : m < 24) : ph_f m = m + 1 := if_neg (by omega)
theorem ph_fle {m : Nat} (h : m ≤ 24) : ph_f m ≤ 24 := by unfold ph_f; split <;> omega
theorem ph_f0 {m : Nat} : ph_f m = 0 ↔ m = 24 := by unfold ph_f; split <;> omega
theorem ph_finj {m n : Nat} (h : ph_f m = ph_f n) : m = n := by
  unfold ph_f at h; split at h <;> split at h <;> omega
/-- x in the component refers to what y in the reference refers to -/
def ph_P (x y : Int32) : Prop := ∃ m, m ≤ 24 ∧ x = nI (ph_f m) ∧ y = nI m
end
section
/-- the component's walk under way: found, foundSlots, foundCount; R is what can be come to -/
def ph_W (R : Nat → Prop) (fd fs : Nat → Int32) (c : Nat) : Prop :=
  fd 0 = 0 ∧ c = ph_c fd 25 ∧ (∀ m, m < 24 → ¬ fd (m + 1) = 0 → R m) ∧ (∀ i, i < c → ∃ m, m < 24 ∧ fs i = nI (m + 1) ∧ ¬ fd (m + 1) = 0) ∧ (∀ m, m < 24 → ¬ fd (m + 1) = 0 → ∃ i, i < c ∧ fs i = nI (m + 1))
/-- a later state of the same walk -/
def ph_X (fd fs : Nat → Int32) (c : Nat) (fd' fs' : Nat → Int32) (c' : Nat) : Prop :=
  c ≤ c' ∧ (∀ j, ¬ fd j = 0 → ¬ fd' j = 0) ∧ (∀ i, i < c → fs' i = fs i)
theorem ph_X_r {fd fs : Nat → Int32} {c : Nat} : ph_X fd fs c fd fs c := ⟨Nat.le_refl c, fun _ h => h, fun _ _ => rfl⟩
theorem ph_X_t {fd fs fd' fs' fd'' fs'' : Nat → Int32} {c c' c'' : Nat} (h : ph_X fd fs c fd' fs' c') (g : ph_X fd' fs' c' fd'' fs'' c'') : ph_X fd fs c fd'' fs'' c'' :=
  ⟨Nat.le_trans h.1 g.1, fun j hj => g.2.1 j (h.2.1 j hj), fun i hi => (g.2.2 i (Nat.lt_of_lt_of_le hi h.1)).trans (h.2.2 i hi)⟩
theorem ph_W_c {R : Nat → Prop} {fd fs : Nat → Int32} {c : Nat} (h : ph_W R fd fs c) : c ≤ 24 := by
  have := ph_c_lt 25 0 (by omega) h.1
  have := h.2.1
  omega
theorem ph_W_0 {R : Nat → Prop} {fd fs : Nat → Int32} (h : ∀ j, j < 25 → fd j = 0) : ph_W R fd fs 0 := by
  refine ⟨h 0 (by omega), ?_, fun m hm z => absurd (h (m + 1) (by omega)) z, fun i hi => absurd hi (by omega), fun m hm z => absurd (h (m + 1) (by omega)) z⟩
  have e : ph_c fd 25 = ph_c (fun _ => 0) 25 := ph_c_congr 25 (fun j hj => by rw [h j hj])
  rw [e]; rfl
theorem ph_W_f {R : Nat → Prop} {fd fs : Nat → Int32} {c m : Nat} {x : Int32} (h : ph_W R fd fs c) (hm : m < 24) (hR : R m) (z : fd (m + 1) = 0) (hx : ¬ x = 0) : ph_W R (upd fd (m + 1) x) (upd fs c (nI (m + 1))) (c + 1) ∧ ph_X fd fs c (upd fd (m + 1) x) (upd fs c (nI (m + 1))) (c + 1) ∧ ¬ upd fd (m + 1) x (m + 1) = 0 := by
  obtain ⟨h0, hc, hr, hl, hf⟩ := h
  have us : upd fd (m + 1) x (m + 1) = x := if_pos rfl
  have un : ∀ j, ¬ j = m + 1 → upd fd (m + 1) x j = fd j := fun j hj => if_neg hj
  have ls : upd fs c (nI (m + 1)) c = nI (m + 1) := if_pos rfl
  have ln : ∀ i, ¬ i = c → upd fs c (nI (m + 1)) i = fs i := fun j hj => if_neg hj
  have mo : ∀ j, ¬ fd j = 0 → ¬ upd fd (m + 1) x j = 0 := by
    intro j hj
    by_cases e : j = m + 1
    · rw [e, us]; exact hx
    · rw [un j e]; exact hj
  refine ⟨⟨?_, ?_, ?_, ?_, ?_⟩, ⟨by omega, mo, fun i hi => ln i (by omega)⟩, by rw [us]; exact hx⟩
  · rw [un 0 (by omega)]; exact h0
  · rw [ph_c_upd z hx 25 (by omega), hc]
  · intro k hk hz
    by_cases e : k = m
    · rw [e]; exact hR
    · rw [un (k + 1) (by omega)] at hz; exact hr k hk hz
  · intro i hi
    by_cases e : i = c
    · rw [e, ls]; exact ⟨m, hm, rfl, by rw [us]; exact hx⟩
    · obtain ⟨k, hk, e1, e2⟩ := hl i (by omega)
      exact ⟨k, hk, (ln i e).trans e1, mo _ e2⟩
  · intro k hk hz
    by_cases e : k = m
    · rw [e]; exact ⟨c, by omega, ls⟩
    · rw [un (k + 1) (by omega)] at hz
      obtain ⟨i, hi, e1⟩ := hf k hk hz
      exact ⟨i, by omega, (ln i (by omega)).trans e1⟩
/-- the list's positions below at have all their followers found -/
def ph_D (E : Nat → Nat → Prop) (fd fs : Nat → Int32) (at' : Nat) : Prop := ∀ i m b, i < at' → m < 24 → fs i = nI (m + 1) → E m b → b < 24 → ¬ fd (b + 1) = 0
theorem ph_D_x {E : Nat → Nat → Prop} {fd fs fd' fs' : Nat → Int32} {c c' a : Nat} (h : ph_D E fd fs a) (x : ph_X fd fs c fd' fs' c') (ha : a ≤ c) : ph_D E fd' fs' a := by
  intro i m b hi hm e hE hb
  rw [x.2.2 i (by omega)] at e
  exact x.2.1 _ (h i m b hi hm e hE hb)
/-- at the walk's end the found slots are the least set -/
theorem ph_end {S : Nat → Prop} {E : Nat → Nat → Prop} {fd fs : Nat → Int32} {c : Nat} (hE : ∀ a b, E a b → b < 24) (hS : ∀ a, S a → a < 24 ∧ ¬ fd (a + 1) = 0) (h : ph_W (ph_R S E) fd fs c) (d : ph_D E fd fs c) : ∀ m, m < 24 → (¬ fd (m + 1) = 0 ↔ ph_R S E m) := by
  intro m hm
  refine ⟨h.2.2.1 m hm, fun r => ?_⟩
  have := r (fun a => a < 24 ∧ ¬ fd (a + 1) = 0) hS (fun a b ha e => by
    obtain ⟨i, hi, e1⟩ := h.2.2.2.2 a ha.1 ha.2
    exact ⟨hE a b e, d i a b hi ha.1 e1 e (hE a b e)⟩)
  exact this.2
/-- one round of the reference: t holds s and all followers of s -/
theorem ph_round {S : Nat → Prop} {E : Nat → Nat → Prop} {s t : Nat → Int32} {i : Nat} (hE : ∀ a b, E a b → b < 24) (hS : ∀ a, S a → a < 24 ∧ ¬ s a = 0) (hst : ∀ j, j < 24 → ¬ s j = 0 → ¬ t j = 0) (hf : ∀ a b, a < 24 → ¬ s a = 0 → E a b → ¬ t b = 0) (h : (∀ m, m < 24 → ph_R S E m → ¬ s m = 0) ∨ i ≤ ph_c s 24) : (∀ m, m < 24 → ph_R S E m → ¬ t m = 0) ∨ i + 1 ≤ ph_c t 24 := by
  have st : ∀ j, j < 24 → t j = 0 → s j = 0 := fun j hj z => Classical.byContradiction (fun n => hst j hj n z)
  rcases h with h | h
  · exact Or.inl (fun m hm r => hst m hm (h m hm r))
  · by_cases g : ph_c t 24 ≤ ph_c s 24
    · have sm := ph_c_same 24 st g
      refine Or.inl (fun m hm r => ?_)
      have := r (fun a => a < 24 ∧ ¬ t a = 0) (fun a ha => ⟨(hS a ha).1, hst a (hS a ha).1 (hS a ha).2⟩) (fun a b ha e => ⟨hE a b e, hf a b ha.1 (fun z => ha.2 (sm a ha.1 z)) e⟩)
      exact this.2
    · exact Or.inr (by omega)
theorem ph_rounds {S : Nat → Prop} {E : Nat → Nat → Prop} {s : Nat → Int32} (h : (∀ m, m < 24 → ph_R S E m → ¬ s m = 0) ∨ 24 ≤ ph_c s 24) : ∀ m, m < 24 → ph_R S E m → ¬ s m = 0 := by
  rcases h with h | h
  · exact h
  · intro m hm _ z
    have := ph_c_lt 24 m hm z
    omega
end
section
theorem pk_us {f : Nat → Int32} {k : Nat} {x : Int32} : upd f k x k = x := if_pos rfl
theorem pk_un {f : Nat → Int32} {k j : Nat} {x : Int32} (h : j ≠ k) : upd f k x j = f j := if_neg h
theorem pk_m1 (n : Nat) : nI (n + 1) + (-1) = nI n := by
  rw [← nI_1, Int32.add_assoc, show (1 : Int32) + (-1) = 0 from rfl, Int32.add_zero]
theorem pk_mul (a b : Nat) : nI a * nI b = nI (a * b) := (Int32.ofNat_mul a b).symm
theorem pk_div {a d : Nat} (ha : a < 2 ^ 31) (h0 : 0 < d) (hd : d < 2 ^ 31) : nI a / nI d = nI (a / d) := by
  apply Int32.toInt_inj.mp
  rw [lg_idiv_nonneg (by rw [nI_toInt ha]; omega) (by rw [nI_toInt hd]; omega), nI_toInt ha, nI_toInt hd, nI_toInt (Nat.lt_of_le_of_lt (Nat.div_le_self a d) ha)]
  first | rfl | exact (Int.natCast_ediv _ _).symm
theorem pk_ix (x : Int32) {n : Nat} (hn : n < 2 ^ 31) : x < 0 ∨ nI n ≤ x ∨ ∃ j : Nat, j < n ∧ x = nI j := by
  by_cases h : x < 0
  · exact Or.inl h
  · obtain ⟨j, hj, rfl⟩ := nI_of h
    by_cases h2 : j < n
    · exact Or.inr (Or.inr ⟨j, h2, rfl⟩)
    · exact Or.inr (Or.inl (nI_le (by omega) hj))
theorem pk_loop {σ : Type} (W : Nat → Nat → σ → Prop) (I : Nat → σ → Prop) (e i0 : Nat) (s : σ) (hi : i0 ≤ e) (h0 : I i0 s) (hx : ∀ n s, I e s → W (n + 1) e s)
    (hs : ∀ n i s, i < e → I i s → (∀ s', I (i + 1) s' → W n (i + 1) s') → W (n + 1) i s) : ∃ n, W n i0 s :=
  ⟨e + 1, loop_i W I e hx hs (e + 1) i0 s hi (by omega) h0⟩
theorem ph_n1 : vp_nar .boolean 1 = 1 := by decide +kernel
theorem ph_n0 : vp_nar .boolean 0 = 0 := by decide +kernel
theorem ph_n1z : ¬ vp_nar .boolean 1 = 0 := by rw [ph_n1]; decide
/-- one cell written: what holds of the cell and of all others holds of all -/
theorem ph_u {f : Nat → Int32} {k : Nat} {x : Int32} {Q : Nat → Int32 → Prop} (hk : Q k x) (h : ∀ j, ¬ j = k → Q j (f j)) : ∀ j, Q j (upd f k x j) := by
  intro j
  by_cases e : j = k
  · subst e; rw [pk_us]; exact hk
  · rw [pk_un e]; exact h j e
theorem ph_i2 (m i : Nat) : nI m * 2 + nI i = nI (m * 2 + i) := by
  rw [show (2 : Int32) = nI 2 from rfl, pk_mul, nI_add]
theorem ph_2i (m i : Nat) : 2 * nI m + nI i = nI (2 * m + i) := by
  rw [show (2 : Int32) = nI 2 from rfl, pk_mul, nI_add]
theorem ph_2m (m : Nat) : 2 * nI m = nI (2 * m) := by
  rw [show (2 : Int32) = nI 2 from rfl, pk_mul]
theorem ph_h2 {k : Nat} (h : k < 2 ^ 31) : nI k / 2 = nI (k / 2) := pk_div h (by decide) (by decide)
theorem ph_finj2 {m n : Nat} (hm : m ≤ 24) (hn : n ≤ 24) (h : nI (ph_f m) = nI (ph_f n)) : m = n := by
  have a := ph_fle hm
  have b := ph_fle hn
  exact ph_finj ((nI_eq (by omega) (by omega)).mp h)
theorem ph_niq {m n : Nat} (hm : m ≤ 50) (hn : n ≤ 50) (h : nI m = nI n) : m = n := (nI_eq (by omega) (by omega)).mp h
end
section
theorem ph_find {R : Nat → Prop} {post : SX → Prop} {c m : Nat} {rg ro nu fi sr sn sf iS fd fs : Nat → Int32} (w : ph_W R fd fs c) (hm : m ≤ 24) (hR : m < 24 → R m) (hp : ∀ c' fd' fs', ph_W R fd' fs' c' → ph_X fd fs c fd' fs' c' → (m < 24 → ¬ fd' (m + 1) = 0) → post (nI c', rg, ro, nu, fi, sr, sn, sf, iS, fd', fs')) : wpX_find post (nI c, rg, ro, nu, fi, sr, sn, sf, iS, fd, fs) (nI (ph_f m)) := by
  by_cases e : m = 24
  · subst e
    exact br_t (by rw [ph_f24]; exact nI_0) (hp c fd fs w ph_X_r (fun h => absurd h (by omega)))
  · have hl : m < 24 := by omega
    have hc := ph_W_c w
    have cl : (nI (m + 1)).toNatClampNeg = m + 1 := nI_clamp (by omega)
    have cc : (nI c).toNatClampNeg = c := nI_clamp (by omega)
    rw [ph_fl hl]
    refine br_f (nI_ne0 (by omega) (by omega)) ⟨vp_in_nI (by omega) (by omega), ?_⟩
    rw [cl]
    by_cases z : fd (m + 1) = 0
    · refine br_t z ⟨vp_in_nI (by omega) (by omega), ?_⟩
      intro a ea
      refine ⟨vp_in_nI (by omega) (by omega), ?_⟩
      intro b eb d ed
      rw [cc] at eb
      rw [nI_1] at ed
      obtain ⟨h1, h2, h3⟩ := ph_W_f w hl (hR hl) z ph_n1z
      rw [ea, eb, ed]
      exact hp _ _ _ h1 h2 (fun _ => h3)
    · exact br_f z (hp c fd fs w ph_X_r (fun _ => z))
theorem ph_fr_roots {R : Nat → Prop} {post : SX → Prop} {c : Nat} {rg ro nu fi sr sn sf iS fd fs : Nat → Int32} (w : ph_W R fd fs c) (hr : ∀ r, r < 3 → ∃ m, m ≤ 24 ∧ ro r = nI (ph_f m) ∧ (m < 24 → R m)) (hp : ∀ c' fd' fs', ph_W R fd' fs' c' → ph_X fd fs c fd' fs' c' → (∀ r m, r < 3 → m < 24 → ro r = nI (ph_f m) → ¬ fd' (m + 1) = 0) → post (nI c', rg, ro, nu, fi, sr, sn, sf, iS, fd', fs')) : wpX_findRoots__roots post (nI c, rg, ro, nu, fi, sr, sn, sf, iS, fd, fs) := by
  refine loop_0 (fun n i (s : Nat × (Nat → Int32) × (Nat → Int32)) => wX_findRoots__roots_2 post n (nI i) (nI s.1) rg ro nu fi sr sn sf iS s.2.1 s.2.2) (fun i s => ph_W R s.2.1 s.2.2 s.1 ∧ ph_X fd fs c s.2.1 s.2.2 s.1 ∧ (∀ r m, r < i → m < 24 → ro r = nI (ph_f m) → ¬ s.2.1 (m + 1) = 0)) 3 (c, fd, fs) ⟨w, ph_X_r, fun r _ h => absurd h (by omega)⟩ ?_ ?_
  · intro n s h
    exact br_t (nI_le (a := 3) (b := 3) (by decide) (by decide)) (hp s.1 s.2.1 s.2.2 h.1 h.2.1 h.2.2)
  · intro n i s hi h k
    obtain ⟨m, hm, e, hR⟩ := hr i hi
    refine br_f (nI_ge (b := 3) hi (by decide)) ⟨vp_in_nI hi (by decide), ?_⟩
    rw [nI_clamp (n := i) (by omega), e]
    refine ph_find h.1 hm hR (fun c' fd' fs' w' x' f' => ?_)
    refine nm_r (nI_1 i) (k (c', fd', fs') ⟨w', ph_X_t h.2.1 x', fun r q hr' hq e' => ?_⟩)
    by_cases er : r = i
    · subst er
      have := ph_finj2 (by omega) hm (e'.symm.trans e)
      subst this
      exact f' hq
    · exact x'.2.1 _ (h.2.2 r q (by omega) hq e')
theorem ph_fr_savedRoots {R : Nat → Prop} {post : SX → Prop} {c : Nat} {rg ro nu fi sr sn sf iS fd fs : Nat → Int32} (w : ph_W R fd fs c) (hr : ∀ r, r < 3 → ∃ m, m ≤ 24 ∧ sr r = nI (ph_f m) ∧ (m < 24 → R m)) (hp : ∀ c' fd' fs', ph_W R fd' fs' c' → ph_X fd fs c fd' fs' c' → (∀ r m, r < 3 → m < 24 → sr r = nI (ph_f m) → ¬ fd' (m + 1) = 0) → post (nI c', rg, ro, nu, fi, sr, sn, sf, iS, fd', fs')) : wpX_findRoots__savedRoots post (nI c, rg, ro, nu, fi, sr, sn, sf, iS, fd, fs) := by
  refine loop_0 (fun n i (s : Nat × (Nat → Int32) × (Nat → Int32)) => wX_findRoots__savedRoots_2 post n (nI i) (nI s.1) rg ro nu fi sr sn sf iS s.2.1 s.2.2) (fun i s => ph_W R s.2.1 s.2.2 s.1 ∧ ph_X fd fs c s.2.1 s.2.2 s.1 ∧ (∀ r m, r < i → m < 24 → sr r = nI (ph_f m) → ¬ s.2.1 (m + 1) = 0)) 3 (c, fd, fs) ⟨w, ph_X_r, fun r _ h => absurd h (by omega)⟩ ?_ ?_
  · intro n s h
    exact br_t (nI_le (a := 3) (b := 3) (by decide) (by decide)) (hp s.1 s.2.1 s.2.2 h.1 h.2.1 h.2.2)
  · intro n i s hi h k
    obtain ⟨m, hm, e, hR⟩ := hr i hi
    refine br_f (nI_ge (b := 3) hi (by decide)) ⟨vp_in_nI hi (by decide), ?_⟩
    rw [nI_clamp (n := i) (by omega), e]
    refine ph_find h.1 hm hR (fun c' fd' fs' w' x' f' => ?_)
    refine nm_r (nI_1 i) (k (c', fd', fs') ⟨w', ph_X_t h.2.1 x', fun r q hr' hq e' => ?_⟩)
    by_cases er : r = i
    · subst er
      have := ph_finj2 (by omega) hm (e'.symm.trans e)
      subst this
      exact f' hq
    · exact x'.2.1 _ (h.2.2 r q (by omega) hq e')
theorem ph_ff_fields {R : Nat → Prop} {post : SX → Prop} {c j : Nat} {rg ro nu fi sr sn sf iS fd fs : Nat → Int32} (w : ph_W R fd fs c) (hj : j < 24) (hr : ∀ r, r < 2 → ∃ m, m ≤ 24 ∧ fi (2 * j + r + 2) = nI (ph_f m) ∧ (m < 24 → R m)) (hp : ∀ c' fd' fs', ph_W R fd' fs' c' → ph_X fd fs c fd' fs' c' → (∀ r m, r < 2 → m < 24 → fi (2 * j + r + 2) = nI (ph_f m) → ¬ fd' (m + 1) = 0) → post (nI c', rg, ro, nu, fi, sr, sn, sf, iS, fd', fs')) : wpX_findFields__fields post (nI c, rg, ro, nu, fi, sr, sn, sf, iS, fd, fs) (nI (j + 1)) := by
  refine loop_0 (fun n i (s : Nat × (Nat → Int32) × (Nat → Int32)) => wX_findFields__fields_2 post (nI (j + 1)) n (nI i) (nI s.1) rg ro nu fi sr sn sf iS s.2.1 s.2.2) (fun i s => ph_W R s.2.1 s.2.2 s.1 ∧ ph_X fd fs c s.2.1 s.2.2 s.1 ∧ (∀ r m, r < i → m < 24 → fi (2 * j + r + 2) = nI (ph_f m) → ¬ s.2.1 (m + 1) = 0)) 2 (c, fd, fs) ⟨w, ph_X_r, fun r _ h => absurd h (by omega)⟩ ?_ ?_
  · intro n s h
    exact br_t (nI_le (a := 2) (b := 2) (by decide) (by decide)) (hp s.1 s.2.1 s.2.2 h.1 h.2.1 h.2.2)
  · intro n i s hi h k
    obtain ⟨m, hm, e, hR⟩ := hr i hi
    have ix : nI (j + 1) * 2 + nI i = nI (2 * j + i + 2) := (ph_i2 (j + 1) i).trans (congrArg nI (by omega))
    refine br_f (nI_ge (b := 2) hi (by decide)) ⟨by rw [ix]; exact vp_in_nI (by omega) (by decide), ?_⟩
    rw [ix, nI_clamp (n := 2 * j + i + 2) (by omega), e]
    refine ph_find h.1 hm hR (fun c' fd' fs' w' x' f' => ?_)
    refine nm_r (nI_1 i) (k (c', fd', fs') ⟨w', ph_X_t h.2.1 x', fun r q hr' hq e' => ?_⟩)
    by_cases er : r = i
    · subst er
      have := ph_finj2 (by omega) hm (e'.symm.trans e)
      subst this
      exact f' hq
    · exact x'.2.1 _ (h.2.2 r q (by omega) hq e')
theorem ph_ff_savedFields {R : Nat → Prop} {post : SX → Prop} {c j : Nat} {rg ro nu fi sr sn sf iS fd fs : Nat → Int32} (w : ph_W R fd fs c) (hj : j < 24) (hr : ∀ r, r < 2 → ∃ m, m ≤ 24 ∧ sf (2 * j + r + 2) = nI (ph_f m) ∧ (m < 24 → R m)) (hp : ∀ c' fd' fs', ph_W R fd' fs' c' → ph_X fd fs c fd' fs' c' → (∀ r m, r < 2 → m < 24 → sf (2 * j + r + 2) = nI (ph_f m) → ¬ fd' (m + 1) = 0) → post (nI c', rg, ro, nu, fi, sr, sn, sf, iS, fd', fs')) : wpX_findFields__savedFields post (nI c, rg, ro, nu, fi, sr, sn, sf, iS, fd, fs) (nI (j + 1)) := by
  refine loop_0 (fun n i (s : Nat × (Nat → Int32) × (Nat → Int32)) => wX_findFields__savedFields_2 post (nI (j + 1)) n (nI i) (nI s.1) rg ro nu fi sr sn sf iS s.2.1 s.2.2) (fun i s => ph_W R s.2.1 s.2.2 s.1 ∧ ph_X fd fs c s.2.1 s.2.2 s.1 ∧ (∀ r m, r < i → m < 24 → sf (2 * j + r + 2) = nI (ph_f m) → ¬ s.2.1 (m + 1) = 0)) 2 (c, fd, fs) ⟨w, ph_X_r, fun r _ h => absurd h (by omega)⟩ ?_ ?_
  · intro n s h
    exact br_t (nI_le (a := 2) (b := 2) (by decide) (by decide)) (hp s.1 s.2.1 s.2.2 h.1 h.2.1 h.2.2)
  · intro n i s hi h k
    obtain ⟨m, hm, e, hR⟩ := hr i hi
    have ix : nI (j + 1) * 2 + nI i = nI (2 * j + i + 2) := (ph_i2 (j + 1) i).trans (congrArg nI (by omega))
    refine br_f (nI_ge (b := 2) hi (by decide)) ⟨by rw [ix]; exact vp_in_nI (by omega) (by decide), ?_⟩
    rw [ix, nI_clamp (n := 2 * j + i + 2) (by omega), e]
    refine ph_find h.1 hm hR (fun c' fd' fs' w' x' f' => ?_)
    refine nm_r (nI_1 i) (k (c', fd', fs') ⟨w', ph_X_t h.2.1 x', fun r q hr' hq e' => ?_⟩)
    by_cases er : r = i
    · subst er
      have := ph_finj2 (by omega) hm (e'.symm.trans e)
      subst this
      exact f' hq
    · exact x'.2.1 _ (h.2.2 r q (by omega) hq e')
theorem ph_start {post : SX → Prop} {c : Int32} {rg ro nu fi sr sn sf iS fd fs : Nat → Int32} (hp : ∀ fd', (∀ j, j < 25 → fd' j = 0) → post (nI 0, rg, ro, nu, fi, sr, sn, sf, iS, fd', fs)) : wpX_startWalk post (c, rg, ro, nu, fi, sr, sn, sf, iS, fd, fs) := by
  refine loop_0 (fun n i s => wX_startWalk_7 post 0 n (nI i) rg ro nu fi sr sn sf iS s fs) (fun i s => ∀ j, j < i → s j = 0) 25 fd (fun j h => absurd h (by omega)) ?_ ?_
  · intro n s h
    exact br_t (nI_le (a := 25) (b := 25) (by decide) (by decide)) (hp s h)
  · intro n i s hi h k
    refine br_f (nI_ge (b := 25) hi (by decide)) ⟨vp_in_nI hi (by decide), ?_⟩
    intro a ea
    rw [nI_clamp (n := i) (by omega), ph_n0] at ea
    refine nm_r (nI_1 i) (k a (fun j hj => ?_))
    rw [ea]
    by_cases e : j = i
    · subst e; exact pk_us
    · rw [pk_un e]; exact h j (by omega)
end
section
/-- the edges: of the present fields, and with bo of the saved ones of the slots that were saved -/
def ph_E (bo : Int32) (fl og sv : Nat → Int32) (m b : Nat) : Prop := b < 24 ∧ ∃ k, k < 48 ∧ k / 2 = m ∧ (fl k = nI b ∨ (¬ bo = 0 ∧ ¬ sv m = 0 ∧ og k = nI b))
/-- component references a at positions below n, all among T -/
def ph_in (a : Nat → Int32) (n : Nat) (T : Nat → Prop) : Prop := ∀ r, r < n → ∃ m, m ≤ 24 ∧ a r = nI (ph_f m) ∧ (m < 24 → T m)
/-- the fields of the component's slots lead along E -/
def ph_fin (a : Nat → Int32) (E : Nat → Nat → Prop) : Prop := ∀ m r, m < 24 → r < 2 → ∃ b, b ≤ 24 ∧ a (2 * m + r + 2) = nI (ph_f b) ∧ (b < 24 → E m b)
theorem ph_wp {S : Nat → Prop} {E : Nat → Nat → Prop} {post : SX → Prop} {c : Nat} {rg ro nu fi sr sn sf iS fd fs : Nat → Int32} (w : ph_W (ph_R S E) fd fs c) (h1 : ph_fin fi E) (h2 : ∀ m b, m < 24 → E m b → b < 24 → ∃ r, r < 2 ∧ fi (2 * m + r + 2) = nI (ph_f b)) (hp : ∀ c' fd' fs', ph_W (ph_R S E) fd' fs' c' → ph_X fd fs c fd' fs' c' → ph_D E fd' fs' c' → post (nI c', rg, ro, nu, fi, sr, sn, sf, iS, fd', fs')) : wpX_walkPresentFields post (nI c, rg, ro, nu, fi, sr, sn, sf, iS, fd, fs) := by
  refine loop_0 (fun n i (s : Nat × (Nat → Int32) × (Nat → Int32)) => wX_walkPresentFields_2 post n (nI i) (nI s.1) rg ro nu fi sr sn sf iS s.2.1 s.2.2) (fun i s => i ≤ s.1 ∧ ph_W (ph_R S E) s.2.1 s.2.2 s.1 ∧ ph_X fd fs c s.2.1 s.2.2 s.1 ∧ ph_D E s.2.1 s.2.2 i) 25 (c, fd, fs) ⟨Nat.zero_le _, w, ph_X_r, fun r _ _ h => absurd h (by omega)⟩ ?_ ?_
  · intro n s h
    have := ph_W_c h.2.1
    have := h.1
    omega
  · intro n i s hi h k
    obtain ⟨hl, w1, x1, d1⟩ := h
    have hc := ph_W_c w1
    refine br_f (nI_ge (b := 25) hi (by decide)) ?_
    by_cases hcc : s.1 ≤ i
    · have e : s.1 = i := by omega
      exact br_t (nI_le hcc (by omega)) (hp s.1 s.2.1 s.2.2 w1 x1 (by rw [e]; exact d1))
    · refine br_f (nI_ge (by omega) (by omega)) ⟨vp_in_nI hi (by decide), ?_⟩
      obtain ⟨m, hm, em, zm⟩ := w1.2.2.2.1 i (by omega)
      rw [nI_clamp (n := i) (by omega), em]
      refine ph_ff_fields w1 hm (fun r hr => ?_) (fun c' fd' fs' w' x' f' => ?_)
      · obtain ⟨b, hb, e1, e2⟩ := h1 m r hm hr
        exact ⟨b, hb, e1, fun hb' => ph_R_e (w1.2.2.1 m hm zm) (e2 hb')⟩
      · have xl := x'.1
        refine nm_r (nI_1 i) (k (c', fd', fs') ⟨by show i + 1 ≤ c'; omega, w', ph_X_t x1 x', ?_⟩)
        have d2 := ph_D_x d1 x' hl
        intro j q b hj hq eq hE hb
        by_cases e : j = i
        · subst e
          have e3 : fs' j = nI (m + 1) := (x'.2.2 j (by omega)).trans em
          have e4 : q = m := by
            have := ph_niq (by omega) (by omega) (eq.symm.trans e3)
            omega
          subst e4
          obtain ⟨r, hr, er⟩ := h2 q b hm hE hb
          exact f' r b hr hb er
        · exact d2 j q b (by omega) hq eq hE hb
theorem ph_wps {S : Nat → Prop} {E : Nat → Nat → Prop} {post : SX → Prop} {c : Nat} {rg ro nu fi sr sn sf iS fd fs : Nat → Int32} (w : ph_W (ph_R S E) fd fs c) (h1 : ph_fin fi E) (h1s : ph_fin sf E) (h2 : ∀ m b, m < 24 → E m b → b < 24 → (∃ r, r < 2 ∧ fi (2 * m + r + 2) = nI (ph_f b)) ∨ (∃ r, r < 2 ∧ sf (2 * m + r + 2) = nI (ph_f b))) (hp : ∀ c' fd' fs', ph_W (ph_R S E) fd' fs' c' → ph_X fd fs c fd' fs' c' → ph_D E fd' fs' c' → post (nI c', rg, ro, nu, fi, sr, sn, sf, iS, fd', fs')) : wpX_walkPresentAndSavedFields post (nI c, rg, ro, nu, fi, sr, sn, sf, iS, fd, fs) := by
  refine loop_0 (fun n i (s : Nat × (Nat → Int32) × (Nat → Int32)) => wX_walkPresentAndSavedFields_2 post n (nI i) (nI s.1) rg ro nu fi sr sn sf iS s.2.1 s.2.2) (fun i s => i ≤ s.1 ∧ ph_W (ph_R S E) s.2.1 s.2.2 s.1 ∧ ph_X fd fs c s.2.1 s.2.2 s.1 ∧ ph_D E s.2.1 s.2.2 i) 25 (c, fd, fs) ⟨Nat.zero_le _, w, ph_X_r, fun r _ _ h => absurd h (by omega)⟩ ?_ ?_
  · intro n s h
    have := ph_W_c h.2.1
    have := h.1
    omega
  · intro n i s hi h k
    obtain ⟨hl, w1, x1, d1⟩ := h
    have hc := ph_W_c w1
    refine br_f (nI_ge (b := 25) hi (by decide)) ?_
    by_cases hcc : s.1 ≤ i
    · have e : s.1 = i := by omega
      exact br_t (nI_le hcc (by omega)) (hp s.1 s.2.1 s.2.2 w1 x1 (by rw [e]; exact d1))
    · refine br_f (nI_ge (by omega) (by omega)) ⟨vp_in_nI hi (by decide), ?_⟩
      obtain ⟨m, hm, em, zm⟩ := w1.2.2.2.1 i (by omega)
      refine nm_r ((congrArg s.2.2 (nI_clamp (n := i) (by omega))).trans em) ?_
      refine ph_ff_fields w1 hm (fun r hr => ?_) (fun c2 fd2 fs2 w2 x2 f2 => ?_)
      · obtain ⟨b, hb, e1, e2⟩ := h1 m r hm hr
        exact ⟨b, hb, e1, fun hb' => ph_R_e (w1.2.2.1 m hm zm) (e2 hb')⟩
      refine ph_ff_savedFields w2 hm (fun r hr => ?_) (fun c' fd' fs' w' x3 f' => ?_)
      · obtain ⟨b, hb, e1, e2⟩ := h1s m r hm hr
        exact ⟨b, hb, e1, fun hb' => ph_R_e (w1.2.2.1 m hm zm) (e2 hb')⟩
      · have x' := ph_X_t x2 x3
        have xl := x'.1
        refine nm_r (nI_1 i) (k (c', fd', fs') ⟨by show i + 1 ≤ c'; omega, w', ph_X_t x1 x', ?_⟩)
        have d2 := ph_D_x d1 x' hl
        intro j q b hj hq eq hE hb
        by_cases e : j = i
        · subst e
          have e3 : fs' j = nI (m + 1) := (x'.2.2 j (by omega)).trans em
          have e4 : q = m := by
            have := ph_niq (by omega) (by omega) (eq.symm.trans e3)
            omega
          subst e4
          rcases h2 q b hm hE hb with ⟨r, hr, er⟩ | ⟨r, hr, er⟩
          · exact x3.2.1 _ (f2 r b hr hb er)
          · exact f' r b hr hb er
        · exact d2 j q b (by omega) hq eq hE hb
/-- what a walk has found at its end -/
def ph_F (S : Nat → Prop) (E : Nat → Nat → Prop) (fd : Nat → Int32) : Prop := fd 0 = 0 ∧ ∀ m, m < 24 → (¬ fd (m + 1) = 0 ↔ ph_R S E m)
theorem ph_walkNeeded {S : Nat → Prop} {E : Nat → Nat → Prop} {post : SX → Prop} {c : Int32} {rg ro nu fi sr sn sf iS fd fs : Nat → Int32} (hE : ∀ a b, E a b → b < 24) (h1 : ph_fin fi E) (h1s : ph_fin sf E) (h2 : ∀ m b, m < 24 → E m b → b < 24 → (∃ r, r < 2 ∧ fi (2 * m + r + 2) = nI (ph_f b)) ∨ (∃ r, r < 2 ∧ sf (2 * m + r + 2) = nI (ph_f b))) (s1 : ph_in rg 4 S) (s2 : ph_in ro 3 S) (s3 : ph_in sr 3 S) (hS : ∀ a, S a → a < 24 ∧ ((∃ g, g < 4 ∧ rg g = nI (ph_f a)) ∨ (∃ r, r < 3 ∧ ro r = nI (ph_f a)) ∨ (∃ r, r < 3 ∧ sr r = nI (ph_f a)))) (hp : ∀ fd' fs', ph_F S E fd' → post (nI (ph_c fd' 25), rg, ro, nu, fi, sr, sn, sf, iS, fd', fs')) : wpX_walkNeeded post (c, rg, ro, nu, fi, sr, sn, sf, iS, fd, fs) := by
  unfold wpX_walkNeeded
  refine ph_start (fun fd0 z0 => ?_)
  refine loop_0 (fun n i (s : Nat × (Nat → Int32) × (Nat → Int32)) => wX_walkNeeded_6 post n (nI i) (nI s.1) rg ro nu fi sr sn sf iS s.2.1 s.2.2) (fun i s => ph_W (ph_R S E) s.2.1 s.2.2 s.1 ∧ (∀ r m, r < i → m < 24 → rg r = nI (ph_f m) → ¬ s.2.1 (m + 1) = 0)) 4 (0, fd0, fs) ⟨ph_W_0 z0, fun r _ h => absurd h (by omega)⟩ ?_ ?_
  · intro n s h
    have h4 := h.2
    refine br_t (nI_le (a := 4) (b := 4) (by decide) (by decide)) ?_
    refine ph_fr_roots h.1 (fun r hr => ?_) (fun c1 fd1 fs1 w1 x1 f1 => ?_)
    · obtain ⟨m, hm, e, hs⟩ := s2 r hr
      exact ⟨m, hm, e, fun l => ph_R_s (hs l)⟩
    refine ph_fr_savedRoots w1 (fun r hr => ?_) (fun c2 fd2 fs2 w2 x2 f2 => ?_)
    · obtain ⟨m, hm, e, hs⟩ := s3 r hr
      exact ⟨m, hm, e, fun l => ph_R_s (hs l)⟩
    refine ph_wps w2 h1 h1s h2 (fun c3 fd3 fs3 w3 x3 d3 => ?_)
    have en := ph_end hE (fun a ha => by
      obtain ⟨la, h⟩ := hS a ha
      refine ⟨la, x3.2.1 _ ?_⟩
      rcases h with ⟨g, hg, e⟩ | ⟨g, hg, e⟩ | ⟨g, hg, e⟩
      · exact x2.2.1 _ (x1.2.1 _ (h4 g a hg la e))
      · exact x2.2.1 _ (f1 g a hg la e)
      · exact f2 g a hg la e) w3 d3
    have := hp fd3 fs3 ⟨w3.1, en⟩
    rw [← w3.2.1] at this
    exact this
  · intro n i s hi h k
    obtain ⟨m, hm, e, hR⟩ := s1 i hi
    refine br_f (nI_ge (b := 4) hi (by decide)) ⟨vp_in_nI hi (by decide), ?_⟩
    rw [nI_clamp (n := i) (by omega), e]
    refine ph_find h.1 hm (fun l => ph_R_s (hR l)) (fun c' fd' fs' w' x' f' => ?_)
    refine nm_r (nI_1 i) (k (c', fd', fs') ⟨w', fun r q hr' hq e' => ?_⟩)
    by_cases er : r = i
    · subst er
      have := ph_finj2 (by omega) hm (e'.symm.trans e)
      subst this
      exact f' hq
    · exact x'.2.1 _ (h.2 r q (by omega) hq e')
theorem ph_cfr {S : Nat → Prop} {E : Nat → Nat → Prop} {post : Int32 → SX → Prop} {c : Int32} {rg ro nu fi sr sn sf iS fd fs : Nat → Int32} (hE : ∀ a b, E a b → b < 24) (h1 : ph_fin fi E) (h2 : ∀ m b, m < 24 → E m b → b < 24 → ∃ r, r < 2 ∧ fi (2 * m + r + 2) = nI (ph_f b)) (s2 : ph_in ro 3 S) (hS : ∀ a, S a → a < 24 ∧ (∃ r, r < 3 ∧ ro r = nI (ph_f a))) (hp : ∀ fd' fs', ph_F S E fd' → post (nI (ph_c fd' 25)) (nI (ph_c fd' 25), rg, ro, nu, fi, sr, sn, sf, iS, fd', fs')) : wpX_countFromRoots post (c, rg, ro, nu, fi, sr, sn, sf, iS, fd, fs) := by
  unfold wpX_countFromRoots
  refine ph_start (fun fd0 z0 => ?_)
  refine ph_fr_roots (ph_W_0 (R := ph_R S E) z0) (fun r hr => ?_) (fun c1 fd1 fs1 w1 x1 f1 => ?_)
  · obtain ⟨m, hm, e, hs⟩ := s2 r hr
    exact ⟨m, hm, e, fun l => ph_R_s (hs l)⟩
  refine ph_wp w1 h1 h2 (fun c3 fd3 fs3 w3 x3 d3 => ?_)
  have en := ph_end hE (fun a ha => by
    obtain ⟨la, g, hg, e⟩ := hS a ha
    exact ⟨la, x3.2.1 _ (f1 g a hg la e)⟩) w3 d3
  have := hp fd3 fs3 ⟨w3.1, en⟩
  rw [← w3.2.1] at this
  exact this
theorem ph_reach1 {S : Nat → Prop} {E : Nat → Nat → Prop} {post : SX → Prop} {c : Int32} {rg ro nu fi sr sn sf iS fd fs : Nat → Int32} {m : Nat} {x : Int32} (hE : ∀ a b, E a b → b < 24) (h1 : ph_fin fi E) (h2 : ∀ m b, m < 24 → E m b → b < 24 → ∃ r, r < 2 ∧ fi (2 * m + r + 2) = nI (ph_f b)) (hm : m ≤ 24) (s1 : m < 24 → S m) (hS : ∀ a, S a → a < 24 ∧ a = m) (hx : x = nI (ph_f m)) (hp : ∀ fd' fs', ph_F S E fd' → post (nI (ph_c fd' 25), rg, ro, nu, fi, sr, sn, sf, iS, fd', fs')) (z0 : ∀ j, j < 25 → fd j = 0) : wpX_find (fun u => wpX_walkPresentFields post u) (nI 0, rg, ro, nu, fi, sr, sn, sf, iS, fd, fs) x := by
  rw [hx]
  refine ph_find (ph_W_0 (R := ph_R S E) z0) hm (fun l => ph_R_s (s1 l)) (fun c1 fd1 fs1 w1 x1 f1 => ?_)
  refine ph_wp w1 h1 h2 (fun c3 fd3 fs3 w3 x3 d3 => ?_)
  have en := ph_end hE (fun a ha => by
    obtain ⟨la, e⟩ := hS a ha
    subst e
    exact ⟨la, x3.2.1 _ (f1 la)⟩) w3 d3
  have := hp fd3 fs3 ⟨w3.1, en⟩
  rw [← w3.2.1] at this
  exact this
theorem ph_snf {post : Int32 → Prop} {c : Int32} {rg ro nu fi sr sn sf iS fd fs : Nat → Int32} (ha : (∀ m, m < 24 → ¬ fd (m + 1) = 0) → post 0) (hm : ∀ m, m < 24 → fd (m + 1) = 0 → (∀ j, j < m → ¬ fd (j + 1) = 0) → post (nI (m + 1))) : wpX_slotNotFound post (c, rg, ro, nu, fi, sr, sn, sf, iS, fd, fs) := by
  refine pk_loop (σ := Unit) (fun n i _ => wX_slotNotFound_2 post c rg ro nu fi sr sn sf iS fd fs n (nI i)) (fun i _ => 1 ≤ i ∧ ∀ j, j + 1 < i → ¬ fd (j + 1) = 0) 25 1 () (by omega) ⟨by omega, fun j h => absurd h (by omega)⟩ ?_ ?_
  · intro n _ h
    exact br_t (nI_le (a := 25) (b := 25) (by decide) (by decide)) (ha (fun m hm => h.2 m (by omega)))
  · intro n i _ hi h k
    refine br_f (nI_ge (b := 25) hi (by decide)) ⟨vp_in_nI hi (by decide), ?_⟩
    rw [nI_clamp (n := i) (by omega)]
    obtain ⟨q, rfl⟩ : ∃ q, i = q + 1 := ⟨i - 1, by have := h.1; omega⟩
    by_cases z : fd (q + 1) = 0
    · exact br_t z (hm q (by omega) z (fun j hj => h.2 j (by omega)))
    · refine br_f z (nm_r (nI_1 (q + 1)) (k () ⟨by omega, fun j hj => ?_⟩))
      by_cases e : j = q
      · subst e; exact z
      · exact h.2 j (by omega)
end
section
/-- all that is seen is among R -/
def ph_so (R : Nat → Prop) (t : Nat → Int32) : Prop := ∀ j, j < 24 → ¬ t j = 0 → R j
theorem ph_so_u {R : Nat → Prop} {t : Nat → Int32} {b : Nat} {x : Int32} (h : ph_so R t) (hb : b < 24 → R b) : ph_so R (upd t b x) := by
  intro j hj z
  by_cases e : j = b
  · subst e; exact hb hj
  · rw [pk_un e] at z; exact h j hj z
theorem ph_mo_u {t : Nat → Int32} {b : Nat} {x : Int32} (hx : ¬ x = 0) : ∀ j, ¬ t j = 0 → ¬ upd t b x j = 0 := by
  intro j z
  by_cases e : j = b
  · subst e; rw [pk_us]; exact hx
  · rw [pk_un e]; exact z
theorem ph_at_u {t : Nat → Int32} {b : Nat} {x : Int32} (hx : ¬ x = 0) : ¬ upd t b x b = 0 := by rw [pk_us]; exact hx
/-- reference slots a at positions below n, all among T -/
def ph_iy (a : Nat → Int32) (n : Nat) (T : Nat → Prop) : Prop := ∀ r, r < n → ∃ m, m ≤ 24 ∧ a r = nI m ∧ (m < 24 → T m)
theorem ph_forget {post : SY → Prop} {nw th fl og sv rt ot ry se : Nat → Int32} (hp : ∀ se', (∀ j, j < 25 → se' j = 0) → post (nw, th, fl, og, sv, rt, ot, ry, se')) : wpY_forget post (nw, th, fl, og, sv, rt, ot, ry, se) := by
  refine loop_0 (fun n i s => wY_forget_2 post n (nI i) nw th fl og sv rt ot ry s) (fun i s => ∀ j, j < i → s j = 0) 25 se (fun j h => absurd h (by omega)) ?_ ?_
  · intro n s h
    exact br_t (nI_lt (a := 24) (b := 25) (by decide) (by decide)) (hp s h)
  · intro n i s hi h k
    refine br_f (nI_nlt (a := 24) (b := i) (by omega) (by decide)) ⟨vp_in_nI hi (by decide), ?_⟩
    intro a ea
    rw [nI_clamp (n := i) (by omega), ph_n0] at ea
    refine nm_r (nI_1 i) (k a (fun j hj => ?_))
    rw [ea]
    by_cases e : j = i
    · subst e; exact pk_us
    · rw [pk_un e]; exact h j (by omega)
theorem ph_count {post : Int32 → SY → Prop} {nw th fl og sv rt ot ry se : Nat → Int32} (hp : post (nI (ph_c se 24)) (nw, th, fl, og, sv, rt, ot, ry, se)) : ∃ n, wY_follow_93 post nw th fl og sv rt ot ry se n 0 0 := by
  refine loop_0 (fun n i (s : Nat) => wY_follow_93 post nw th fl og sv rt ot ry se n (nI s) (nI i)) (fun i s => s = ph_c se i) 24 0 rfl ?_ ?_
  · intro n s h
    subst h
    exact br_t (nI_le (a := 24) (b := 24) (by decide) (by decide)) hp
  · intro n i s hi h k
    have hc := ph_c_s se i
    refine br_f (nI_ge (b := 24) hi (by decide)) ⟨vp_in_nI (by omega) (by decide), ?_⟩
    rw [nI_clamp (n := i) (by omega)]
    by_cases z : se i = 0
    · rw [if_pos z] at hc
      exact br_t z (nm_r (nI_1 i) (k s (by omega)))
    · rw [if_neg z] at hc
      exact br_f z (nm_r (nI_1 s) (nm_r (nI_1 i) (k (s + 1) (by omega))))
theorem ph_f39 {post : Int32 → SY → Prop} {J2 J10 : Int32 → (Nat → Int32) → (Nat → Int32) → (Nat → Int32) → (Nat → Int32) → (Nat → Int32) → (Nat → Int32) → (Nat → Int32) → (Nat → Int32) → (Nat → Int32) → Prop} {bo x2 : Int32} {k : Nat} {nw th fl og sv rt ot ry se : Nat → Int32} (hk : k < 48) (hog : ∀ k, k < 48 → ¬ sv (k / 2) = 0 → ∃ b, b ≤ 24 ∧ og k = nI b) (h0 : se (k / 2) = 0 → J10 (nI (k + 1)) nw th fl og sv rt ot ry se) (h1 : ¬ se (k / 2) = 0 → (bo = 0 ∨ sv (k / 2) = 0) → J10 (nI (k + 1)) nw th fl og sv rt ot ry se) (h2 : ¬ se (k / 2) = 0 → ¬ bo = 0 → ¬ sv (k / 2) = 0 → ∀ b, b ≤ 24 → og k = nI b → J10 (nI (k + 1)) nw th fl og sv rt ot ry (upd se b (vp_nar .boolean 1))) : wY_follow_39 post J2 J10 bo x2 (nI k) nw th fl og sv rt ot ry se := by
  have d : nI k / 2 = nI (k / 2) := ph_h2 (by omega)
  have cd : (nI k / 2).toNatClampNeg = k / 2 := by rw [d]; exact nI_clamp (by omega)
  have ck : (nI k).toNatClampNeg = k := nI_clamp (by omega)
  unfold wY_follow_39
  rw [cd, ck]
  refine ⟨by decide, by rw [d]; exact vp_in_nI (by omega) (by decide), ?_⟩
  by_cases z : se (k / 2) = 0
  · exact br_t z (nm_r (nI_1 k) (h0 z))
  · refine br_f z ?_
    by_cases zb : bo = 0
    · exact br_t zb (nm_r (nI_1 k) (h1 z (Or.inl zb)))
    · refine br_f zb ⟨by decide, by rw [d]; exact vp_in_nI (by omega) (by decide), ?_⟩
      by_cases zs : sv (k / 2) = 0
      · exact br_t zs (nm_r (nI_1 k) (h1 z (Or.inr zs)))
      · obtain ⟨b, hb, e⟩ := hog k hk zs
        refine br_f zs ⟨vp_in_nI hk (by decide), ?_⟩
        rw [e, nI_clamp (n := b) (by omega)]
        exact ⟨vp_in_nI (by omega) (by decide), nm_e (nm_r (nI_1 k) (h2 z zb zs b hb e))⟩
theorem ph_follow {S : Nat → Prop} {post : Int32 → SY → Prop} {bo : Int32} {nw th fl og sv rt ot ry se : Nat → Int32} (hfl : ∀ k, k < 48 → ∃ b, b ≤ 24 ∧ fl k = nI b) (hog : ∀ k, k < 48 → ¬ sv (k / 2) = 0 → ∃ b, b ≤ 24 ∧ og k = nI b) (so : ph_so (ph_R S (ph_E bo fl og sv)) se) (hS : ∀ a, S a → a < 24 ∧ ¬ se a = 0) (hp : ∀ se', (∀ m, m < 24 → (¬ se' m = 0 ↔ ph_R S (ph_E bo fl og sv) m)) → post (nI (ph_c se' 24)) (nw, th, fl, og, sv, rt, ot, ry, se')) : wpY_follow post (nw, th, fl, og, sv, rt, ot, ry, se) bo := by
  refine loop_0 (fun n i t => wY_follow_2 post bo n (nI i) nw th fl og sv rt ot ry t) (fun i t => ph_so (ph_R S (ph_E bo fl og sv)) t ∧ (∀ a, S a → a < 24 ∧ ¬ t a = 0) ∧ ((∀ m, m < 24 → ph_R S (ph_E bo fl og sv) m → ¬ t m = 0) ∨ i ≤ ph_c t 24)) 24 se ⟨so, hS, Or.inr (Nat.zero_le _)⟩ ?_ ?_
  · intro n t h
    have cm := ph_rounds h.2.2
    exact br_t (nI_le (a := 24) (b := 24) (by decide) (by decide)) (ph_count (hp t (fun m hm => ⟨h.1 m hm, cm m hm⟩)))
  · intro n i t hi h k
    refine br_f (nI_ge (b := 24) hi (by decide)) ?_
    refine loop_0 (fun n' q t' => wY_follow_10 post (wY_follow_2 post bo n) bo (nI i) n' (nI q) nw th fl og sv rt ot ry t') (fun q t' => ph_so (ph_R S (ph_E bo fl og sv)) t' ∧ (∀ j, ¬ t j = 0 → ¬ t' j = 0) ∧ (∀ q' b, q' < q → ¬ t (q' / 2) = 0 → b < 24 → (fl q' = nI b ∨ (¬ bo = 0 ∧ ¬ sv (q' / 2) = 0 ∧ og q' = nI b)) → ¬ t' b = 0)) 48 t ⟨h.1, fun _ z => z, fun q' _ hq => absurd hq (by omega)⟩ ?_ ?_
    · intro n' t' h'
      refine br_t (nI_le (a := 48) (b := 48) (by decide) (by decide)) (nm_r (nI_1 i) (k t' ⟨h'.1, fun a ha => ⟨(h.2.1 a ha).1, h'.2.1 a (h.2.1 a ha).2⟩, ?_⟩))
      refine ph_round (s := t) (fun a b e => e.1) h.2.1 (fun j _ => h'.2.1 j) ?_ h.2.2
      intro a b la za he
      obtain ⟨lb, q, hq, eq, hh⟩ := he
      subst eq
      exact h'.2.2 q b hq za lb hh
    · intro n' q t' hq h' k'
      obtain ⟨b, hb, eb⟩ := hfl q hq
      have d : nI q / 2 = nI (q / 2) := ph_h2 (by omega)
      have cd : (nI q / 2).toNatClampNeg = q / 2 := by rw [d]; exact nI_clamp (by omega)
      have fin : ∀ t3, ph_so (ph_R S (ph_E bo fl og sv)) t3 → (∀ j, ¬ t' j = 0 → ¬ t3 j = 0) → (∀ b', b' < 24 → (fl q = nI b' ∨ (¬ bo = 0 ∧ ¬ sv (q / 2) = 0 ∧ og q = nI b')) → ¬ t (q / 2) = 0 → ¬ t3 b' = 0) → wY_follow_10 post (wY_follow_2 post bo n) bo (nI i) n' (nI (q + 1)) nw th fl og sv rt ot ry t3 := by
        intro t3 s3 m3 f3
        refine k' t3 ⟨s3, fun j z => m3 j (h'.2.1 j z), fun q' b' hq' z lb hh => ?_⟩
        by_cases e : q' = q
        · subst e; exact f3 b' lb hh z
        · exact m3 _ (h'.2.2 q' b' (by omega) z lb hh)
      refine br_f (nI_ge (b := 48) hq (by decide)) ⟨by decide, by rw [d]; exact vp_in_nI (by omega) (by decide), ?_⟩
      rw [cd]
      by_cases z : t' (q / 2) = 0
      · refine br_t z ?_
        exact ph_f39 hq hog (fun _ => fin t' h'.1 (fun _ y => y) (fun b' _ _ nz => absurd z (h'.2.1 _ nz))) (fun nz => absurd z nz) (fun nz => absurd z nz)
      · refine br_f z ⟨vp_in_nI hq (by decide), ?_⟩
        rw [nI_clamp (n := q) (by omega), eb, nI_clamp (n := b) (by omega)]
        refine ⟨vp_in_nI (by omega) (by decide), nm_e ?_⟩
        have rq : ph_R S (ph_E bo fl og sv) (q / 2) := h'.1 (q / 2) (by omega) z
        have s2 : ph_so (ph_R S (ph_E bo fl og sv)) (upd t' b (vp_nar .boolean 1)) := ph_so_u h'.1 (fun lb => ph_R_e rq ⟨lb, q, hq, rfl, Or.inl eb⟩)
        have m2 := ph_mo_u (t := t') (b := b) ph_n1z
        have f2 := ph_at_u (t := t') (b := b) ph_n1z
        refine ph_f39 hq hog (fun y => absurd y (m2 _ z)) (fun _ hh => ?_) (fun _ nb ns b2 hb2 e2 => ?_)
        · refine fin _ s2 m2 (fun b' lb ho _ => ?_)
          rcases ho with ho | ⟨n1, n2, _⟩
          · have := ph_niq (by omega) (by omega) (ho.symm.trans eb)
            subst this
            exact f2
          · rcases hh with hh | hh
            · exact absurd hh n1
            · exact absurd hh n2
        · have m3 := ph_mo_u (t := upd t' b (vp_nar .boolean 1)) (b := b2) ph_n1z
          refine fin _ (ph_so_u s2 (fun lb => ph_R_e rq ⟨lb, q, hq, rfl, Or.inr ⟨nb, ns, e2⟩⟩)) (fun j y => m3 j (m2 j y)) (fun b' lb ho _ => ?_)
          rcases ho with ho | ⟨_, _, ho⟩
          · have := ph_niq (by omega) (by omega) (ho.symm.trans eb)
            subst this
            exact m3 _ f2
          · have := ph_niq (by omega) (by omega) (ho.symm.trans e2)
            subst this
            exact ph_at_u ph_n1z
theorem ph_l_need_6 {R : Nat → Prop} {post : Int32 → SY → Prop} {nw th fl og sv rt ot ry se : Nat → Int32} (so : ph_so R se) (hr : ph_iy rt 3 R) (ex : ∀ n t, ph_so R t → (∀ j, ¬ se j = 0 → ¬ t j = 0) → (∀ r m, r < 3 → m < 24 → rt r = nI m → ¬ t m = 0) → wY_need_6 post (n + 1) (nI 3) nw th fl og sv rt ot ry t) : ∃ n, wY_need_6 post n 0 nw th fl og sv rt ot ry se := by
  refine loop_0 (fun n i t => wY_need_6 post n (nI i) nw th fl og sv rt ot ry t) (fun i t => ph_so R t ∧ (∀ j, ¬ se j = 0 → ¬ t j = 0) ∧ (∀ r m, r < i → m < 24 → rt r = nI m → ¬ t m = 0)) 3 se ⟨so, fun _ z => z, fun r _ h => absurd h (by omega)⟩ ?_ ?_
  · intro n t h
    exact ex n t h.1 h.2.1 h.2.2
  · intro n i t hi h k
    obtain ⟨m, hm, e, hR⟩ := hr i hi
    refine br_f (nI_ge (b := 3) hi (by decide)) ⟨vp_in_nI hi (by decide), ?_⟩
    rw [nI_clamp (n := i) (by omega), e, nI_clamp (n := m) (by omega)]
    have m2 := ph_mo_u (t := t) (b := m) ph_n1z
    refine ⟨vp_in_nI (by omega) (by decide), nm_e (nm_r (nI_1 i) (k _ ⟨ph_so_u h.1 hR, fun j z => m2 j (h.2.1 j z), fun r q hr' hq e' => ?_⟩))⟩
    by_cases er : r = i
    · subst er
      have := ph_niq (by omega) (by omega) (e'.symm.trans e)
      subst this
      exact ph_at_u ph_n1z
    · exact m2 _ (h.2.2 r q (by omega) hq e')
theorem ph_l_need_31 {R : Nat → Prop} {post : Int32 → SY → Prop} {nw th fl og sv rt ot ry se : Nat → Int32} (so : ph_so R se) (hr : ph_iy ot 3 R) (ex : ∀ n t, ph_so R t → (∀ j, ¬ se j = 0 → ¬ t j = 0) → (∀ r m, r < 3 → m < 24 → ot r = nI m → ¬ t m = 0) → wY_need_31 post (n + 1) (nI 3) nw th fl og sv rt ot ry t) : ∃ n, wY_need_31 post n 0 nw th fl og sv rt ot ry se := by
  refine loop_0 (fun n i t => wY_need_31 post n (nI i) nw th fl og sv rt ot ry t) (fun i t => ph_so R t ∧ (∀ j, ¬ se j = 0 → ¬ t j = 0) ∧ (∀ r m, r < i → m < 24 → ot r = nI m → ¬ t m = 0)) 3 se ⟨so, fun _ z => z, fun r _ h => absurd h (by omega)⟩ ?_ ?_
  · intro n t h
    exact ex n t h.1 h.2.1 h.2.2
  · intro n i t hi h k
    obtain ⟨m, hm, e, hR⟩ := hr i hi
    refine br_f (nI_ge (b := 3) hi (by decide)) ⟨vp_in_nI hi (by decide), ?_⟩
    rw [nI_clamp (n := i) (by omega), e, nI_clamp (n := m) (by omega)]
    have m2 := ph_mo_u (t := t) (b := m) ph_n1z
    refine ⟨vp_in_nI (by omega) (by decide), nm_e (nm_r (nI_1 i) (k _ ⟨ph_so_u h.1 hR, fun j z => m2 j (h.2.1 j z), fun r q hr' hq e' => ?_⟩))⟩
    by_cases er : r = i
    · subst er
      have := ph_niq (by omega) (by omega) (e'.symm.trans e)
      subst this
      exact ph_at_u ph_n1z
    · exact m2 _ (h.2.2 r q (by omega) hq e')
theorem ph_l_need_56 {R : Nat → Prop} {post : Int32 → SY → Prop} {nw th fl og sv rt ot ry se : Nat → Int32} (so : ph_so R se) (hr : ph_iy ry 4 R) (ex : ∀ n t, ph_so R t → (∀ j, ¬ se j = 0 → ¬ t j = 0) → (∀ r m, r < 4 → m < 24 → ry r = nI m → ¬ t m = 0) → wY_need_56 post (n + 1) (nI 4) nw th fl og sv rt ot ry t) : ∃ n, wY_need_56 post n 0 nw th fl og sv rt ot ry se := by
  refine loop_0 (fun n i t => wY_need_56 post n (nI i) nw th fl og sv rt ot ry t) (fun i t => ph_so R t ∧ (∀ j, ¬ se j = 0 → ¬ t j = 0) ∧ (∀ r m, r < i → m < 24 → ry r = nI m → ¬ t m = 0)) 4 se ⟨so, fun _ z => z, fun r _ h => absurd h (by omega)⟩ ?_ ?_
  · intro n t h
    exact ex n t h.1 h.2.1 h.2.2
  · intro n i t hi h k
    obtain ⟨m, hm, e, hR⟩ := hr i hi
    refine br_f (nI_ge (b := 4) hi (by decide)) ⟨vp_in_nI hi (by decide), ?_⟩
    rw [nI_clamp (n := i) (by omega), e, nI_clamp (n := m) (by omega)]
    have m2 := ph_mo_u (t := t) (b := m) ph_n1z
    refine ⟨vp_in_nI (by omega) (by decide), nm_e (nm_r (nI_1 i) (k _ ⟨ph_so_u h.1 hR, fun j z => m2 j (h.2.1 j z), fun r q hr' hq e' => ?_⟩))⟩
    by_cases er : r = i
    · subst er
      have := ph_niq (by omega) (by omega) (e'.symm.trans e)
      subst this
      exact ph_at_u ph_n1z
    · exact m2 _ (h.2.2 r q (by omega) hq e')
theorem ph_l_fromRoots_6 {R : Nat → Prop} {post : Int32 → SY → Prop} {nw th fl og sv rt ot ry se : Nat → Int32} (so : ph_so R se) (hr : ph_iy rt 3 R) (ex : ∀ n t, ph_so R t → (∀ j, ¬ se j = 0 → ¬ t j = 0) → (∀ r m, r < 3 → m < 24 → rt r = nI m → ¬ t m = 0) → wY_fromRoots_6 post (n + 1) (nI 3) nw th fl og sv rt ot ry t) : ∃ n, wY_fromRoots_6 post n 0 nw th fl og sv rt ot ry se := by
  refine loop_0 (fun n i t => wY_fromRoots_6 post n (nI i) nw th fl og sv rt ot ry t) (fun i t => ph_so R t ∧ (∀ j, ¬ se j = 0 → ¬ t j = 0) ∧ (∀ r m, r < i → m < 24 → rt r = nI m → ¬ t m = 0)) 3 se ⟨so, fun _ z => z, fun r _ h => absurd h (by omega)⟩ ?_ ?_
  · intro n t h
    exact ex n t h.1 h.2.1 h.2.2
  · intro n i t hi h k
    obtain ⟨m, hm, e, hR⟩ := hr i hi
    refine br_f (nI_ge (b := 3) hi (by decide)) ⟨vp_in_nI hi (by decide), ?_⟩
    rw [nI_clamp (n := i) (by omega), e, nI_clamp (n := m) (by omega)]
    have m2 := ph_mo_u (t := t) (b := m) ph_n1z
    refine ⟨vp_in_nI (by omega) (by decide), nm_e (nm_r (nI_1 i) (k _ ⟨ph_so_u h.1 hR, fun j z => m2 j (h.2.1 j z), fun r q hr' hq e' => ?_⟩))⟩
    by_cases er : r = i
    · subst er
      have := ph_niq (by omega) (by omega) (e'.symm.trans e)
      subst this
      exact ph_at_u ph_n1z
    · exact m2 _ (h.2.2 r q (by omega) hq e')
theorem ph_so_0 {R : Nat → Prop} {t : Nat → Int32} (h : ∀ j, j < 25 → t j = 0) : ph_so R t := fun j hj z => absurd (h j (by omega)) z
theorem ph_iy_R {a : Nat → Int32} {n : Nat} {S : Nat → Prop} {E : Nat → Nat → Prop} (h : ph_iy a n S) : ph_iy a n (ph_R S E) := by
  intro r hr
  obtain ⟨m, hm, e, hs⟩ := h r hr
  exact ⟨m, hm, e, fun l => ph_R_s (hs l)⟩
theorem ph_need {S : Nat → Prop} {post : Int32 → SY → Prop} {nw th fl og sv rt ot ry se : Nat → Int32} (hfl : ∀ k, k < 48 → ∃ b, b ≤ 24 ∧ fl k = nI b) (hog : ∀ k, k < 48 → ¬ sv (k / 2) = 0 → ∃ b, b ≤ 24 ∧ og k = nI b) (s1 : ph_iy rt 3 S) (s2 : ph_iy ot 3 S) (s3 : ph_iy ry 4 S) (hS : ∀ a, S a → a < 24 ∧ ((∃ r, r < 3 ∧ rt r = nI a) ∨ (∃ r, r < 3 ∧ ot r = nI a) ∨ (∃ g, g < 4 ∧ ry g = nI a))) (hp : ∀ se', (∀ m, m < 24 → (¬ se' m = 0 ↔ ph_R S (ph_E 1 fl og sv) m)) → post (nI (ph_c se' 24)) (nw, th, fl, og, sv, rt, ot, ry, se')) : wpY_need post (nw, th, fl, og, sv, rt, ot, ry, se) := by
  unfold wpY_need
  refine ph_forget (fun se0 z0 => ?_)
  refine ph_l_need_6 (R := ph_R S (ph_E 1 fl og sv)) (ph_so_0 z0) (ph_iy_R s1) (fun n1 t1 o1 _ f1 => ?_)
  refine br_t (nI_le (a := 3) (b := 3) (by decide) (by decide)) ?_
  refine ph_l_need_31 o1 (ph_iy_R s2) (fun n2 t2 o2 m2 f2 => ?_)
  refine br_t (nI_le (a := 3) (b := 3) (by decide) (by decide)) ?_
  refine ph_l_need_56 o2 (ph_iy_R s3) (fun n3 t3 o3 m3 f3 => ?_)
  refine br_t (nI_le (a := 4) (b := 4) (by decide) (by decide)) ?_
  refine ph_follow hfl hog o3 (fun a ha => ?_) hp
  obtain ⟨la, h⟩ := hS a ha
  refine ⟨la, ?_⟩
  rcases h with ⟨g, hg, e⟩ | ⟨g, hg, e⟩ | ⟨g, hg, e⟩
  · exact m3 _ (m2 _ (f1 g a hg la e))
  · exact m3 _ (f2 g a hg la e)
  · exact f3 g a hg la e
theorem ph_fromRoots {S : Nat → Prop} {post : Int32 → SY → Prop} {nw th fl og sv rt ot ry se : Nat → Int32} (hfl : ∀ k, k < 48 → ∃ b, b ≤ 24 ∧ fl k = nI b) (hog : ∀ k, k < 48 → ¬ sv (k / 2) = 0 → ∃ b, b ≤ 24 ∧ og k = nI b) (s1 : ph_iy rt 3 S) (hS : ∀ a, S a → a < 24 ∧ (∃ r, r < 3 ∧ rt r = nI a)) (hp : ∀ se', (∀ m, m < 24 → (¬ se' m = 0 ↔ ph_R S (ph_E 0 fl og sv) m)) → post (nI (ph_c se' 24)) (nw, th, fl, og, sv, rt, ot, ry, se')) : wpY_fromRoots post (nw, th, fl, og, sv, rt, ot, ry, se) := by
  unfold wpY_fromRoots
  refine ph_forget (fun se0 z0 => ?_)
  refine ph_l_fromRoots_6 (R := ph_R S (ph_E 0 fl og sv)) (ph_so_0 z0) (ph_iy_R s1) (fun n1 t1 o1 _ f1 => ?_)
  refine br_t (nI_le (a := 3) (b := 3) (by decide) (by decide)) ?_
  refine ph_follow hfl hog o1 (fun a ha => ?_) hp
  obtain ⟨la, g, hg, e⟩ := hS a ha
  exact ⟨la, f1 g a hg la e⟩
end
section
theorem ph_k60 {post : SX → Prop} {c : Int32} {rg ro nu fi sr sn sf iS fd fs : Nat → Int32} (hp : ∀ sf', (∀ k, k < 50 → sf' k = fi k) → post (c, rg, ro, nu, fi, sr, sn, sf', iS, fd, fs)) : ∃ n, wX_keepPresentState_60 post c n 0 rg ro nu fi sr sn sf iS fd fs := by
  refine loop_0 (fun n i s => wX_keepPresentState_60 post c n (nI i) rg ro nu fi sr sn s iS fd fs) (fun i s => ∀ k, k < i → s k = fi k) 50 sf (fun k h => absurd h (by omega)) ?_ ?_
  · intro n s h
    exact br_t (nI_le (a := 50) (b := 50) (by decide) (by decide)) (hp s h)
  · intro n i s hi h k
    refine br_f (nI_ge (b := 50) hi (by decide)) ⟨vp_in_nI hi (by decide), vp_in_nI hi (by decide), ?_⟩
    rw [nI_clamp (n := i) (by omega)]
    refine nm_e (nm_r (nI_1 i) (k _ (fun j hj => ?_)))
    by_cases e : j = i
    · subst e; exact pk_us
    · rw [pk_un e]; exact h j (by omega)
theorem ph_k27 {post : SX → Prop} {c : Int32} {rg ro nu fi sr sn sf iS fd fs : Nat → Int32} (hp : ∀ sn' iS', (∀ m, m < 24 → sn' (m + 1) = nu (m + 1)) → (∀ m, m < 24 → iS' (m + 1) = 1) → ∃ n, wX_keepPresentState_60 post c n 0 rg ro nu fi sr sn' sf iS' fd fs) : ∃ n, wX_keepPresentState_27 post c n 1 rg ro nu fi sr sn sf iS fd fs := by
  refine pk_loop (fun n i (s : (Nat → Int32) × (Nat → Int32)) => wX_keepPresentState_27 post c n (nI i) rg ro nu fi sr s.1 sf s.2 fd fs) (fun i s => ∀ m, m + 1 < i → s.1 (m + 1) = nu (m + 1) ∧ s.2 (m + 1) = 1) 25 1 (sn, iS) (by omega) (fun k h => absurd h (by omega)) ?_ ?_
  · intro n s h
    exact br_t (nI_le (a := 25) (b := 25) (by decide) (by decide)) (hp s.1 s.2 (fun m hm => (h m (by omega)).1) (fun m hm => (h m (by omega)).2))
  · intro n i s hi h k
    refine br_f (nI_ge (b := 25) hi (by decide)) ⟨vp_in_nI hi (by decide), vp_in_nI hi (by decide), ?_⟩
    rw [nI_clamp (n := i) (by omega), ph_n1]
    refine nm_e ⟨vp_in_nI hi (by decide), nm_e (nm_r (nI_1 i) (k (upd s.1 i (nu i), upd s.2 i 1) (fun j hj => ?_)))⟩
    show upd s.1 i (nu i) (j + 1) = nu (j + 1) ∧ upd s.2 i 1 (j + 1) = 1
    by_cases e : j + 1 = i
    · subst e; exact ⟨pk_us, pk_us⟩
    · rw [pk_un e, pk_un e]; exact h j (by omega)
theorem ph_keep {post : SX → Prop} {c : Int32} {rg ro nu fi sr sn sf iS fd fs : Nat → Int32} (hp : ∀ sr' sn' iS' sf', (∀ r, r < 3 → sr' r = ro r) → (∀ m, m < 24 → sn' (m + 1) = nu (m + 1)) → (∀ m, m < 24 → iS' (m + 1) = 1) → (∀ k, k < 50 → sf' k = fi k) → post (c, rg, ro, nu, fi, sr', sn', sf', iS', fd, fs)) : wpX_keepPresentState post (c, rg, ro, nu, fi, sr, sn, sf, iS, fd, fs) := by
  refine loop_0 (fun n i s => wX_keepPresentState_2 post c n (nI i) rg ro nu fi s sn sf iS fd fs) (fun i s => ∀ k, k < i → s k = ro k) 3 sr (fun k h => absurd h (by omega)) ?_ ?_
  · intro n s h
    exact br_t (nI_le (a := 3) (b := 3) (by decide) (by decide)) (ph_k27 (fun sn' iS' h1 h2 => ph_k60 (fun sf' h3 => hp s sn' iS' sf' h h1 h2 h3)))
  · intro n i s hi h k
    refine br_f (nI_ge (b := 3) hi (by decide)) ⟨vp_in_nI hi (by decide), vp_in_nI hi (by decide), ?_⟩
    rw [nI_clamp (n := i) (by omega)]
    refine nm_e (nm_r (nI_1 i) (k _ (fun j hj => ?_)))
    by_cases e : j = i
    · subst e; exact pk_us
    · rw [pk_un e]; exact h j (by omega)
theorem ph_rslot {post : SX → Prop} {c : Int32} {rg ro nu fi sr sn sf iS fd fs : Nat → Int32} {m : Nat} (hm : m < 24) (hp : ∀ fi', (∀ r, r < 2 → fi' (2 * m + r + 2) = sf (2 * m + r + 2)) → (∀ j, j < 2 * m + 2 ∨ 2 * m + 4 ≤ j → fi' j = fi j) → post (c, rg, ro, upd nu (m + 1) (sn (m + 1)), fi', sr, sn, sf, iS, fd, fs)) : wpX_restoreSlot post (c, rg, ro, nu, fi, sr, sn, sf, iS, fd, fs) (nI (m + 1)) := by
  have cl : (nI (m + 1)).toNatClampNeg = m + 1 := nI_clamp (by omega)
  unfold wpX_restoreSlot
  dsimp only
  rw [cl]
  refine ⟨vp_in_nI (by omega) (by decide), vp_in_nI (by omega) (by decide), nm_e ?_⟩
  refine loop_0 (fun n i s => wX_restoreSlot_14 post (nI (m + 1)) c n (nI i) rg ro (upd nu (m + 1) (sn (m + 1))) s sr sn sf iS fd fs) (fun i s => (∀ r, r < i → s (2 * m + r + 2) = sf (2 * m + r + 2)) ∧ (∀ j, j < 2 * m + 2 ∨ 2 * m + 2 + i ≤ j → s j = fi j)) 2 fi ⟨fun k h => absurd h (by omega), fun _ _ => rfl⟩ ?_ ?_
  · intro n s h
    exact br_t (nI_le (a := 2) (b := 2) (by decide) (by decide)) (hp s h.1 (fun j hj => h.2 j (by omega)))
  · intro n i s hi h k
    have ix : nI (m + 1) * 2 + nI i = nI (2 * m + i + 2) := (ph_i2 (m + 1) i).trans (congrArg nI (by omega))
    refine br_f (nI_ge (b := 2) hi (by decide)) ?_
    rw [ix, nI_clamp (n := 2 * m + i + 2) (by omega)]
    refine ⟨vp_in_nI (by omega) (by decide), vp_in_nI (by omega) (by decide), nm_e (nm_r (nI_1 i) (k _ ⟨fun r hr => ?_, fun j hj => ?_⟩))⟩
    · by_cases e : r = i
      · subst e; exact pk_us
      · rw [pk_un (by omega)]; exact h.1 r (by omega)
    · rw [pk_un (by omega)]; exact h.2 j (by omega)
theorem ph_r27 {post : SX → Prop} {c : Int32} {rg ro nu fi sr sn sf iS fd fs : Nat → Int32} (hp : ∀ nu' fi', nu' 0 = nu 0 → (∀ m, m < 24 → nu' (m + 1) = if iS (m + 1) = 0 then nu (m + 1) else sn (m + 1)) → (∀ k, k < 48 → fi' (k + 2) = if iS (k / 2 + 1) = 0 then fi (k + 2) else sf (k + 2)) → post (c, rg, ro, nu', fi', sr, sn, sf, iS, fd, fs)) : ∃ n, wX_restoreSavedState_27 post n 1 c rg ro nu fi sr sn sf iS fd fs := by
  refine pk_loop (fun n i (s : (Nat → Int32) × (Nat → Int32)) => wX_restoreSavedState_27 post n (nI i) c rg ro s.1 s.2 sr sn sf iS fd fs) (fun i s => 1 ≤ i ∧ s.1 0 = nu 0 ∧ (∀ m, m + 1 < i → s.1 (m + 1) = if iS (m + 1) = 0 then nu (m + 1) else sn (m + 1)) ∧ (∀ m, i ≤ m + 1 → s.1 (m + 1) = nu (m + 1)) ∧ (∀ k, k / 2 + 1 < i → s.2 (k + 2) = if iS (k / 2 + 1) = 0 then fi (k + 2) else sf (k + 2)) ∧ (∀ k, i ≤ k / 2 + 1 → s.2 (k + 2) = fi (k + 2))) 25 1 (nu, fi) (by omega) ⟨by omega, rfl, fun k h => absurd h (by omega), fun _ _ => rfl, fun k h => absurd h (by omega), fun _ _ => rfl⟩ ?_ ?_
  · intro n s h
    obtain ⟨_, h0, h1, _, h2, _⟩ := h
    exact br_t (nI_le (a := 25) (b := 25) (by decide) (by decide)) (hp s.1 s.2 h0 (fun m hm => h1 m (by omega)) (fun k hk => h2 k (by omega)))
  · intro n i s hi h k
    obtain ⟨hl, h0, h1, h2, h3, h4⟩ := h
    obtain ⟨q, rfl⟩ : ∃ q, i = q + 1 := ⟨i - 1, by omega⟩
    refine br_f (nI_ge (b := 25) hi (by decide)) ⟨vp_in_nI hi (by decide), ?_⟩
    rw [nI_clamp (n := q + 1) (by omega)]
    by_cases z : iS (q + 1) = 0
    · refine br_t z (nm_r (nI_1 (q + 1)) (k s ⟨by omega, h0, fun m hm => ?_, fun m hm => h2 m (by omega), fun j hj => ?_, fun j hj => h4 j (by omega)⟩))
      · by_cases e : m = q
        · subst e; rw [if_pos z]; exact h2 m (by omega)
        · exact h1 m (by omega)
      · by_cases e : j / 2 = q
        · rw [e, if_pos z]; exact h4 j (by omega)
        · exact h3 j (by omega)
    · refine br_f z ?_
      refine ph_rslot (by omega) (fun fi' f1 f2 => ?_)
      refine nm_r (nI_1 (q + 1)) (k (upd s.1 (q + 1) (sn (q + 1)), fi') ⟨by omega, (pk_un (f := s.1) (k := q + 1) (j := 0) (x := sn (q + 1)) (by omega)).trans h0, fun m hm => ?_, fun m hm => (pk_un (f := s.1) (k := q + 1) (j := m + 1) (x := sn (q + 1)) (by omega)).trans (h2 m (by omega)), fun j hj => ?_, fun j hj => (f2 (j + 2) (by omega)).trans (h4 j (by omega))⟩)
      · show upd s.1 (q + 1) (sn (q + 1)) (m + 1) = _
        by_cases e : m = q
        · subst e; rw [if_neg z]; exact pk_us
        · rw [pk_un (by omega)]; exact h1 m (by omega)
      · show fi' (j + 2) = _
        by_cases e : j / 2 = q
        · have ej : j + 2 = 2 * q + j % 2 + 2 := by omega
          rw [e, if_neg z, ej]; exact f1 (j % 2) (by omega)
        · exact (f2 (j + 2) (by omega)).trans (h3 j (by omega))
theorem ph_rest {post : SX → Prop} {c : Int32} {rg ro nu fi sr sn sf iS fd fs : Nat → Int32} (hp : ∀ ro' nu' fi', (∀ r, r < 3 → ro' r = sr r) → nu' 0 = nu 0 → (∀ m, m < 24 → nu' (m + 1) = if iS (m + 1) = 0 then nu (m + 1) else sn (m + 1)) → (∀ k, k < 48 → fi' (k + 2) = if iS (k / 2 + 1) = 0 then fi (k + 2) else sf (k + 2)) → post (c, rg, ro', nu', fi', sr, sn, sf, iS, fd, fs)) : wpX_restoreSavedState post (c, rg, ro, nu, fi, sr, sn, sf, iS, fd, fs) := by
  refine loop_0 (fun n i s => wX_restoreSavedState_2 post c n (nI i) rg s nu fi sr sn sf iS fd fs) (fun i s => ∀ k, k < i → s k = sr k) 3 ro (fun k h => absurd h (by omega)) ?_ ?_
  · intro n s h
    exact br_t (nI_le (a := 3) (b := 3) (by decide) (by decide)) (ph_r27 (fun nu' fi' h0 h1 h2 => hp s nu' fi' h h0 h1 h2))
  · intro n i s hi h k
    refine br_f (nI_ge (b := 3) hi (by decide)) ⟨vp_in_nI hi (by decide), vp_in_nI hi (by decide), ?_⟩
    rw [nI_clamp (n := i) (by omega)]
    refine nm_e (nm_r (nI_1 i) (k _ (fun j hj => ?_)))
    by_cases e : j = i
    · subst e; exact pk_us
    · rw [pk_un e]; exact h j (by omega)
theorem ph_lose {post : SX → Prop} {c : Int32} {rg ro nu fi sr sn sf iS fd fs : Nat → Int32} (hp : ∀ rg' ro' nu' fi', (∀ g, g < 4 → rg' g = 0) → (∀ r, r < 3 → ro' r = sr r) → nu' 0 = nu 0 → (∀ m, m < 24 → nu' (m + 1) = if iS (m + 1) = 0 then nu (m + 1) else sn (m + 1)) → (∀ k, k < 48 → fi' (k + 2) = if iS (k / 2 + 1) = 0 then fi (k + 2) else sf (k + 2)) → post (c, rg', ro', nu', fi', sr, sn, sf, iS, fd, fs)) : wpX_loseUnsaved post (c, rg, ro, nu, fi, sr, sn, sf, iS, fd, fs) := by
  unfold wpX_loseUnsaved
  refine ph_rest (fun ro' nu' fi' h1 h2 h3 h4 => ?_)
  refine loop_0 (fun n i s => wX_loseUnsaved_6 post c n (nI i) s ro' nu' fi' sr sn sf iS fd fs) (fun i s => ∀ k, k < i → s k = 0) 4 rg (fun k h => absurd h (by omega)) ?_ ?_
  · intro n s h
    exact br_t (nI_le (a := 4) (b := 4) (by decide) (by decide)) (hp s ro' nu' fi' h h1 h2 h3 h4)
  · intro n i s hi h k
    refine br_f (nI_ge (b := 4) hi (by decide)) ⟨vp_in_nI hi (by decide), ?_⟩
    rw [nI_clamp (n := i) (by omega)]
    refine nm_e (nm_r (nI_1 i) (k _ (fun j hj => ?_)))
    by_cases e : j = i
    · subst e; exact pk_us
    · rw [pk_un e]; exact h j (by omega)
theorem ph_fill {post : SX → Prop} {c x : Int32} {rg ro nu fi sr sn sf iS fd fs : Nat → Int32} {m : Nat} (hm : m < 24) (hp : ∀ fi' sf', (∀ r, r < 2 → fi' (2 * m + r + 2) = 0 ∧ sf' (2 * m + r + 2) = 0) → (∀ j, j < 2 * m + 2 ∨ 2 * m + 4 ≤ j → fi' j = fi j ∧ sf' j = sf j) → post (c, rg, ro, upd nu (m + 1) x, fi', sr, sn, sf', upd iS (m + 1) 0, fd, fs)) : wpX_fillSlot post (c, rg, ro, nu, fi, sr, sn, sf, iS, fd, fs) (nI (m + 1)) x := by
  have cl : (nI (m + 1)).toNatClampNeg = m + 1 := nI_clamp (by omega)
  unfold wpX_fillSlot
  dsimp only
  rw [cl, ph_n0]
  refine ⟨vp_in_nI (by omega) (by decide), nm_e ⟨vp_in_nI (by omega) (by decide), nm_e ?_⟩⟩
  refine loop_0 (fun n i (s : (Nat → Int32) × (Nat → Int32)) => wX_fillSlot_16 post (nI (m + 1)) c n (nI i) rg ro (upd nu (m + 1) x) s.1 sr sn s.2 (upd iS (m + 1) 0) fd fs) (fun i s => (∀ r, r < i → s.1 (2 * m + r + 2) = 0 ∧ s.2 (2 * m + r + 2) = 0) ∧ (∀ j, j < 2 * m + 2 ∨ 2 * m + 2 + i ≤ j → s.1 j = fi j ∧ s.2 j = sf j)) 2 (fi, sf) ⟨fun k h => absurd h (by omega), fun _ _ => ⟨rfl, rfl⟩⟩ ?_ ?_
  · intro n s h
    exact br_t (nI_le (a := 2) (b := 2) (by decide) (by decide)) (hp s.1 s.2 h.1 (fun j hj => h.2 j (by omega)))
  · intro n i s hi h k
    have ix : nI (m + 1) * 2 + nI i = nI (2 * m + i + 2) := (ph_i2 (m + 1) i).trans (congrArg nI (by omega))
    refine br_f (nI_ge (b := 2) hi (by decide)) ?_
    rw [ix, nI_clamp (n := 2 * m + i + 2) (by omega)]
    refine ⟨vp_in_nI (by omega) (by decide), nm_e ⟨vp_in_nI (by omega) (by decide), nm_e (nm_r (nI_1 i) (k (upd s.1 (2 * m + i + 2) 0, upd s.2 (2 * m + i + 2) 0) ⟨fun r hr => ?_, fun j hj => ?_⟩))⟩⟩
    · show upd s.1 (2 * m + i + 2) 0 (2 * m + r + 2) = 0 ∧ upd s.2 (2 * m + i + 2) 0 (2 * m + r + 2) = 0
      by_cases e : r = i
      · subst e; exact ⟨pk_us, pk_us⟩
      · rw [pk_un (by omega), pk_un (by omega)]; exact h.1 r (by omega)
    · show upd s.1 (2 * m + i + 2) 0 j = fi j ∧ upd s.2 (2 * m + i + 2) 0 j = sf j
      rw [pk_un (by omega), pk_un (by omega)]; exact h.2 j (by omega)
end
section
theorem ph_init_75 {post : SY → Prop} {nw th fl og sv rt ot ry se : Nat → Int32} (ex : ∀ n s, (∀ k, k < 3 → s k = nI 24) → wY_init_75 post (n + 1) (nI 3) nw th fl og sv s ot ry se) : ∃ n, wY_init_75 post n 0 nw th fl og sv rt ot ry se := by
  refine loop_0 (fun n i s => wY_init_75 post n (nI i) nw th fl og sv s ot ry se) (fun i s => ∀ k, k < i → s k = nI 24) 3 rt (fun k h => absurd h (by omega)) ex ?_
  intro n i s hi h k
  refine br_f (nI_ge (b := 3) hi (by decide)) ⟨vp_in_nI hi (by decide), ?_⟩
  rw [nI_clamp (n := i) (by omega)]
  refine nm_e (nm_r (nI_1 i) (k _ (fun j hj => ?_)))
  by_cases e : j = i
  · subst e; exact pk_us
  · rw [pk_un e]; exact h j (by omega)
theorem ph_init_96 {post : SY → Prop} {nw th fl og sv rt ot ry se : Nat → Int32} (ex : ∀ n s, (∀ k, k < 3 → s k = nI 24) → wY_init_96 post (n + 1) (nI 3) nw th fl og sv rt s ry se) : ∃ n, wY_init_96 post n 0 nw th fl og sv rt ot ry se := by
  refine loop_0 (fun n i s => wY_init_96 post n (nI i) nw th fl og sv rt s ry se) (fun i s => ∀ k, k < i → s k = nI 24) 3 ot (fun k h => absurd h (by omega)) ex ?_
  intro n i s hi h k
  refine br_f (nI_ge (b := 3) hi (by decide)) ⟨vp_in_nI hi (by decide), ?_⟩
  rw [nI_clamp (n := i) (by omega)]
  refine nm_e (nm_r (nI_1 i) (k _ (fun j hj => ?_)))
  by_cases e : j = i
  · subst e; exact pk_us
  · rw [pk_un e]; exact h j (by omega)
theorem ph_init_117 {post : SY → Prop} {nw th fl og sv rt ot ry se : Nat → Int32} (ex : ∀ n s, (∀ k, k < 4 → s k = nI 24) → wY_init_117 post (n + 1) (nI 4) nw th fl og sv rt ot s se) : ∃ n, wY_init_117 post n 0 nw th fl og sv rt ot ry se := by
  refine loop_0 (fun n i s => wY_init_117 post n (nI i) nw th fl og sv rt ot s se) (fun i s => ∀ k, k < i → s k = nI 24) 4 ry (fun k h => absurd h (by omega)) ex ?_
  intro n i s hi h k
  refine br_f (nI_ge (b := 4) hi (by decide)) ⟨vp_in_nI hi (by decide), ?_⟩
  rw [nI_clamp (n := i) (by omega)]
  refine nm_e (nm_r (nI_1 i) (k _ (fun j hj => ?_)))
  by_cases e : j = i
  · subst e; exact pk_us
  · rw [pk_un e]; exact h j (by omega)
theorem ph_init_138 {post : SY → Prop} {nw th fl og sv rt ot ry se : Nat → Int32} (ex : ∀ n s, (∀ k, k < 48 → s k = nI 24) → wY_init_138 post (n + 1) (nI 48) nw th s og sv rt ot ry se) : ∃ n, wY_init_138 post n 0 nw th fl og sv rt ot ry se := by
  refine loop_0 (fun n i s => wY_init_138 post n (nI i) nw th s og sv rt ot ry se) (fun i s => ∀ k, k < i → s k = nI 24) 48 fl (fun k h => absurd h (by omega)) ex ?_
  intro n i s hi h k
  refine br_f (nI_ge (b := 48) hi (by decide)) ⟨vp_in_nI hi (by decide), ?_⟩
  rw [nI_clamp (n := i) (by omega)]
  refine nm_e (nm_r (nI_1 i) (k _ (fun j hj => ?_)))
  by_cases e : j = i
  · subst e; exact pk_us
  · rw [pk_un e]; exact h j (by omega)
theorem ph_init_160 {post : SY → Prop} {nw th fl og sv rt ot ry se : Nat → Int32} (ex : ∀ n s, (∀ k, k < 48 → s k = nI 24) → wY_init_160 post (n + 1) (nI 48) nw th fl s sv rt ot ry se) : ∃ n, wY_init_160 post n 0 nw th fl og sv rt ot ry se := by
  refine loop_0 (fun n i s => wY_init_160 post n (nI i) nw th fl s sv rt ot ry se) (fun i s => ∀ k, k < i → s k = nI 24) 48 og (fun k h => absurd h (by omega)) ex ?_
  intro n i s hi h k
  refine br_f (nI_ge (b := 48) hi (by decide)) ⟨vp_in_nI hi (by decide), ?_⟩
  rw [nI_clamp (n := i) (by omega)]
  refine nm_e (nm_r (nI_1 i) (k _ (fun j hj => ?_)))
  by_cases e : j = i
  · subst e; exact pk_us
  · rw [pk_un e]; exact h j (by omega)
theorem ph_initY {post : SY → Prop} (hp : ∀ rt ot ry fl og : Nat → Int32, (∀ k, k < 3 → rt k = nI 24) → (∀ k, k < 3 → ot k = nI 24) → (∀ k, k < 4 → ry k = nI 24) → (∀ k, k < 48 → fl k = nI 24) → (∀ k, k < 48 → og k = nI 24) → post ((fun _ => 0), (fun _ => 0), fl, og, (fun _ => 0), rt, ot, ry, (fun _ => 0))) : wpY_init post := by
  refine ph_init_75 (fun n1 rt h1 => br_t (nI_le (a := 3) (b := 3) (by decide) (by decide)) ?_)
  refine ph_init_96 (fun n2 ot h2 => br_t (nI_le (a := 3) (b := 3) (by decide) (by decide)) ?_)
  refine ph_init_117 (fun n3 ry h3 => br_t (nI_le (a := 4) (b := 4) (by decide) (by decide)) ?_)
  refine ph_init_138 (fun n4 fl h4 => br_t (nI_le (a := 48) (b := 48) (by decide) (by decide)) ?_)
  refine ph_init_160 (fun n5 og h5 => br_t (nI_le (a := 48) (b := 48) (by decide) (by decide)) ?_)
  exact hp rt ot ry fl og h1 h2 h3 h4 h5
theorem ph_save_61 {post : Int32 → SY → Prop} {nw th fl og sv rt ot ry se : Nat → Int32} (ex : ∀ n s, (∀ k, k < 3 → s k = rt k) → wY_save_61 post (n + 1) (nI 3) nw th fl og sv rt s ry se) : ∃ n, wY_save_61 post n 0 nw th fl og sv rt ot ry se := by
  refine loop_0 (fun n i s => wY_save_61 post n (nI i) nw th fl og sv rt s ry se) (fun i s => ∀ k, k < i → s k = rt k) 3 ot (fun k h => absurd h (by omega)) ex ?_
  intro n i s hi h k
  refine br_f (nI_ge (b := 3) hi (by decide)) ⟨vp_in_nI hi (by decide), vp_in_nI hi (by decide), ?_⟩
  rw [nI_clamp (n := i) (by omega)]
  refine nm_e (nm_r (nI_1 i) (k _ (fun j hj => ?_)))
  by_cases e : j = i
  · subst e; exact pk_us
  · rw [pk_un e]; exact h j (by omega)
theorem ph_save_35 {post : Int32 → SY → Prop} {nw th fl og sv rt ot ry se : Nat → Int32} (ex : ∀ n s, (∀ k, k < 48 → s k = fl k) → wY_save_35 post (n + 1) (nI 48) nw th fl s sv rt ot ry se) : ∃ n, wY_save_35 post n 0 nw th fl og sv rt ot ry se := by
  refine loop_0 (fun n i s => wY_save_35 post n (nI i) nw th fl s sv rt ot ry se) (fun i s => ∀ k, k < i → s k = fl k) 48 og (fun k h => absurd h (by omega)) ex ?_
  intro n i s hi h k
  refine br_f (nI_ge (b := 48) hi (by decide)) ⟨vp_in_nI hi (by decide), vp_in_nI hi (by decide), ?_⟩
  rw [nI_clamp (n := i) (by omega)]
  refine nm_e (nm_r (nI_1 i) (k _ (fun j hj => ?_)))
  by_cases e : j = i
  · subst e; exact pk_us
  · rw [pk_un e]; exact h j (by omega)
theorem ph_back_74 {post : Int32 → SY → Prop} {nw th fl og sv rt ot ry se : Nat → Int32} (ex : ∀ n s, (∀ k, k < 3 → s k = ot k) → wY_back_74 post (n + 1) (nI 3) nw th fl og sv s ot ry se) : ∃ n, wY_back_74 post n 0 nw th fl og sv rt ot ry se := by
  refine loop_0 (fun n i s => wY_back_74 post n (nI i) nw th fl og sv s ot ry se) (fun i s => ∀ k, k < i → s k = ot k) 3 rt (fun k h => absurd h (by omega)) ex ?_
  intro n i s hi h k
  refine br_f (nI_ge (b := 3) hi (by decide)) ⟨vp_in_nI hi (by decide), vp_in_nI hi (by decide), ?_⟩
  rw [nI_clamp (n := i) (by omega)]
  refine nm_e (nm_r (nI_1 i) (k _ (fun j hj => ?_)))
  by_cases e : j = i
  · subst e; exact pk_us
  · rw [pk_un e]; exact h j (by omega)
theorem ph_save_2 {post : Int32 → SY → Prop} {nw th fl og sv rt ot ry se : Nat → Int32} (ex : ∀ n th' sv', (∀ k, k < 24 → th' k = nw k) → (∀ k, k < 24 → sv' k = 1) → wY_save_2 post (n + 1) (nI 24) nw th' fl og sv' rt ot ry se) : ∃ n, wY_save_2 post n 0 nw th fl og sv rt ot ry se := by
  refine loop_0 (fun n i (s : (Nat → Int32) × (Nat → Int32)) => wY_save_2 post n (nI i) nw s.1 fl og s.2 rt ot ry se) (fun i s => ∀ k, k < i → s.1 k = nw k ∧ s.2 k = 1) 24 (th, sv) (fun k h => absurd h (by omega)) (fun n s h => ex n s.1 s.2 (fun k hk => (h k hk).1) (fun k hk => (h k hk).2)) ?_
  intro n i s hi h k
  refine br_f (nI_ge (b := 24) hi (by decide)) ⟨vp_in_nI hi (by decide), vp_in_nI hi (by decide), ?_⟩
  rw [nI_clamp (n := i) (by omega), ph_n1]
  refine nm_e ⟨vp_in_nI hi (by decide), nm_e (nm_r (nI_1 i) (k (upd s.1 i (nw i), upd s.2 i 1) (fun j hj => ?_)))⟩
  show upd s.1 i (nw i) j = nw j ∧ upd s.2 i 1 j = 1
  by_cases e : j = i
  · subst e; exact ⟨pk_us, pk_us⟩
  · rw [pk_un e, pk_un e]; exact h j (by omega)
theorem ph_save {post : Int32 → SY → Prop} {nw th fl og sv rt ot ry se : Nat → Int32} (hp : ∀ th' og' sv' ot', (∀ k, k < 24 → th' k = nw k) → (∀ k, k < 24 → sv' k = 1) → (∀ k, k < 48 → og' k = fl k) → (∀ r, r < 3 → ot' r = rt r) → ∀ P : Int32 → SY → Prop, (∀ r se', post r (nw, th', fl, og', sv', rt, ot', ry, se') → P r (nw, th', fl, og', sv', rt, ot', ry, se')) → wpY_fromRoots P (nw, th', fl, og', sv', rt, ot', ry, se)) : wpY_save post (nw, th, fl, og, sv, rt, ot, ry, se) := by
  refine ph_save_2 (fun n1 th' sv' h1 h2 => br_t (nI_le (a := 24) (b := 24) (by decide) (by decide)) ?_)
  refine ph_save_35 (fun n2 og' h3 => br_t (nI_le (a := 48) (b := 48) (by decide) (by decide)) ?_)
  refine ph_save_61 (fun n3 ot' h4 => br_t (nI_le (a := 3) (b := 3) (by decide) (by decide)) ?_)
  exact hp th' og' sv' ot' h1 h2 h3 h4 _ (fun r se' h => h)
theorem ph_back_2 {post : Int32 → SY → Prop} {nw th fl og sv rt ot ry se : Nat → Int32} (ex : ∀ n s, (∀ k, k < 24 → s k = if sv k = 0 then nw k else th k) → wY_back_2 post (n + 1) (nI 24) s th fl og sv rt ot ry se) : ∃ n, wY_back_2 post n 0 nw th fl og sv rt ot ry se := by
  refine loop_0 (fun n i s => wY_back_2 post n (nI i) s th fl og sv rt ot ry se) (fun i s => (∀ k, k < i → s k = if sv k = 0 then nw k else th k) ∧ (∀ k, i ≤ k → s k = nw k)) 24 nw ⟨fun k h => absurd h (by omega), fun _ _ => rfl⟩ (fun n s h => ex n s h.1) ?_
  intro n i s hi h k
  refine br_f (nI_ge (b := 24) hi (by decide)) ⟨vp_in_nI hi (by decide), ?_⟩
  rw [nI_clamp (n := i) (by omega)]
  by_cases z : sv i = 0
  · refine br_t z (nm_r (nI_1 i) (k s ⟨fun j hj => ?_, fun j hj => h.2 j (by omega)⟩))
    by_cases e : j = i
    · subst e; rw [if_pos z]; exact h.2 j (by omega)
    · exact h.1 j (by omega)
  · refine br_f z ⟨vp_in_nI hi (by decide), vp_in_nI hi (by decide), nm_e (nm_r (nI_1 i) (k _ ⟨fun j hj => ?_, fun j hj => ?_⟩))⟩
    · by_cases e : j = i
      · subst e; rw [if_neg z]; exact pk_us
      · rw [pk_un e]; exact h.1 j (by omega)
    · rw [pk_un (by omega)]; exact h.2 j (by omega)
theorem ph_back_37 {post : Int32 → SY → Prop} {nw th fl og sv rt ot ry se : Nat → Int32} (ex : ∀ n s, (∀ k, k < 48 → s k = if sv (k / 2) = 0 then fl k else og k) → wY_back_37 post (n + 1) (nI 48) nw th s og sv rt ot ry se) : ∃ n, wY_back_37 post n 0 nw th fl og sv rt ot ry se := by
  refine loop_0 (fun n i s => wY_back_37 post n (nI i) nw th s og sv rt ot ry se) (fun i s => (∀ k, k < i → s k = if sv (k / 2) = 0 then fl k else og k) ∧ (∀ k, i ≤ k → s k = fl k)) 48 fl ⟨fun k h => absurd h (by omega), fun _ _ => rfl⟩ (fun n s h => ex n s h.1) ?_
  intro n i s hi h k
  have d : nI i / 2 = nI (i / 2) := ph_h2 (by omega)
  refine br_f (nI_ge (b := 48) hi (by decide)) ⟨by decide, by rw [d]; exact vp_in_nI (by omega) (by decide), ?_⟩
  rw [d, nI_clamp (n := i / 2) (by omega), nI_clamp (n := i) (by omega)]
  by_cases z : sv (i / 2) = 0
  · refine br_t z (nm_r (nI_1 i) (k s ⟨fun j hj => ?_, fun j hj => h.2 j (by omega)⟩))
    by_cases e : j = i
    · subst e; rw [if_pos z]; exact h.2 j (by omega)
    · exact h.1 j (by omega)
  · refine br_f z ⟨vp_in_nI hi (by decide), vp_in_nI hi (by decide), nm_e (nm_r (nI_1 i) (k _ ⟨fun j hj => ?_, fun j hj => ?_⟩))⟩
    · by_cases e : j = i
      · subst e; rw [if_neg z]; exact pk_us
      · rw [pk_un e]; exact h.1 j (by omega)
    · rw [pk_un (by omega)]; exact h.2 j (by omega)
theorem ph_back {post : Int32 → SY → Prop} {nw th fl og sv rt ot ry se : Nat → Int32} (hp : ∀ nw' fl' rt', (∀ k, k < 24 → nw' k = if sv k = 0 then nw k else th k) → (∀ k, k < 48 → fl' k = if sv (k / 2) = 0 then fl k else og k) → (∀ r, r < 3 → rt' r = ot r) → ∀ P : Int32 → SY → Prop, (∀ r se', post r (nw', th, fl', og, sv, rt', ot, ry, se') → P r (nw', th, fl', og, sv, rt', ot, ry, se')) → wpY_fromRoots P (nw', th, fl', og, sv, rt', ot, ry, se)) : wpY_back post (nw, th, fl, og, sv, rt, ot, ry, se) := by
  refine ph_back_2 (fun n1 nw' h1 => br_t (nI_le (a := 24) (b := 24) (by decide) (by decide)) ?_)
  refine ph_back_37 (fun n2 fl' h2 => br_t (nI_le (a := 48) (b := 48) (by decide) (by decide)) ?_)
  refine ph_back_74 (fun n3 rt' h3 => br_t (nI_le (a := 3) (b := 3) (by decide) (by decide)) ?_)
  exact hp nw' fl' rt' h1 h2 h3 _ (fun r se' h => h)
theorem ph_crash_23 {post : Int32 → SY → Prop} {nw th fl og sv rt ot ry se : Nat → Int32} (ex : ∀ n s, (∀ k, k < 4 → s k = nI 24) → wY_crash_23 post (n + 1) (nI 4) nw th fl og sv rt ot s se) : ∃ n, wY_crash_23 post n 0 nw th fl og sv rt ot ry se := by
  refine loop_0 (fun n i s => wY_crash_23 post n (nI i) nw th fl og sv rt ot s se) (fun i s => ∀ k, k < i → s k = nI 24) 4 ry (fun k h => absurd h (by omega)) ex ?_
  intro n i s hi h k
  refine br_f (nI_ge (b := 4) hi (by decide)) ⟨vp_in_nI hi (by decide), ?_⟩
  rw [nI_clamp (n := i) (by omega)]
  refine nm_e (nm_r (nI_1 i) (k _ (fun j hj => ?_)))
  by_cases e : j = i
  · subst e; exact pk_us
  · rw [pk_un e]; exact h j (by omega)
/-- the registers cleared, then back -/
theorem ph_cry {post : Int32 → SY → Prop} {nw th fl og sv rt ot ry se : Nat → Int32} (hp : ∀ nw' fl' rt' ry', (∀ k, k < 24 → nw' k = if sv k = 0 then nw k else th k) → (∀ k, k < 48 → fl' k = if sv (k / 2) = 0 then fl k else og k) → (∀ r, r < 3 → rt' r = ot r) → (∀ g, g < 4 → ry' g = nI 24) → ∀ P : Int32 → SY → Prop, (∀ r se', post r (nw', th, fl', og, sv, rt', ot, ry', se') → P r (nw', th, fl', og, sv, rt', ot, ry', se')) → wpY_fromRoots P (nw', th, fl', og, sv, rt', ot, ry', se)) : ∃ n, wY_crash_23 post n 0 nw th fl og sv rt ot ry se := by
  refine ph_crash_23 (fun n1 ry' h0 => br_t (nI_le (a := 4) (b := 4) (by decide) (by decide)) ?_)
  exact ph_back (fun nw' fl' rt' h1 h2 h3 P hP => hp nw' fl' rt' ry' h1 h2 h3 h0 P hP)
theorem ph_m28 {post : Int32 → SY → Prop} {nw th fl og sv rt ot ry se : Nat → Int32} {g m : Nat} {x : Int32} (hg : g < 4) (hm : m < 24) (z : se m = 0) (hl : ∀ j, j < m → ¬ se j = 0) (hp : post 0 (upd nw m x, th, upd (upd fl (2 * m) (nI 24)) (2 * m + 1) (nI 24), og, upd sv m 0, rt, ot, upd ry g (nI m), se)) : ∀ (i : Nat) (x3 : Int32), i ≤ 24 → (m < i ∨ x3 = nI m) → wY_make_28 post (nI g) x nw th fl og sv rt ot ry se (i + 1) x3 (nI i + (-1)) := by
  intro i
  induction i with
  | zero =>
    intro x3 _ h
    have e : x3 = nI m := by
      rcases h with h | h
      · omega
      · exact h
    subst e
    refine br_t (by decide) ?_
    rw [ph_2m, ph_n0, nI_clamp (n := m) (by omega), nI_clamp (n := g) (by omega), nI_1 (2 * m), nI_clamp (n := 2 * m) (by omega), nI_clamp (n := 2 * m + 1) (by omega)]
    exact ⟨vp_in_nI hm (by decide), nm_e ⟨vp_in_nI (by omega) (by decide), nm_e ⟨vp_in_nI (by omega) (by decide), nm_e ⟨vp_in_nI hm (by decide), nm_e ⟨vp_in_nI hg (by decide), nm_e hp⟩⟩⟩⟩⟩
  | succ i ih =>
    intro x3 hi h
    rw [pk_m1]
    refine br_f (nI_pos (by omega)) ⟨vp_in_nI (by omega) (by decide), ?_⟩
    rw [nI_clamp (n := i) (by omega)]
    by_cases zi : se i = 0
    · refine br_t zi (nm_e (ih (nI i) (by omega) ?_))
      by_cases e : m < i
      · exact Or.inl e
      · refine Or.inr ?_
        by_cases e2 : i = m
        · rw [e2]
        · exact absurd zi (hl i (by omega))
    · refine br_f zi (nm_e (ih x3 (by omega) ?_))
      rcases h with h | h
      · refine Or.inl ?_
        by_cases e : m = i
        · subst e; exact absurd z zi
        · omega
      · exact Or.inr h
end
section
/-- the two states, slot by slot -/
def ph_Rel (rg ro nu fi sr sn sf iS nw th fl og sv rt ot ry : Nat → Int32) : Prop :=
  (∀ g, g < 4 → ph_P (rg g) (ry g)) ∧ (∀ r, r < 3 → ph_P (ro r) (rt r)) ∧ (∀ r, r < 3 → ph_P (sr r) (ot r)) ∧ (∀ k, k < 48 → ph_P (fi (k + 2)) (fl k)) ∧ nu 0 = 0 ∧ (∀ m, m < 24 → nu (m + 1) = nw m) ∧ (∀ m, m < 24 → sn (m + 1) = th m) ∧ (∀ m, m < 24 → iS (m + 1) = sv m) ∧ (∀ k, k < 48 → ¬ sv (k / 2) = 0 → ph_P (sf (k + 2)) (og k)) ∧ (∀ k, k < 48 → sv (k / 2) = 0 → sf (k + 2) = 0)
def i_Rel (_ : Nat) (u : SX) (v : SY) : Prop := match u, v with
  | (_, rg, ro, nu, fi, sr, sn, sf, iS, _, _), (nw, th, fl, og, sv, rt, ot, ry, _) => ph_Rel rg ro nu fi sr sn sf iS nw th fl og sv rt ot ry
theorem i_up {k : Nat} {u : SX} {v : SY} (h : i_Rel k u v) : i_Rel (k + 4) u v := h
theorem ph_P0 : ph_P 0 (nI 24) := ⟨24, Nat.le_refl 24, rfl, rfl⟩
theorem ph_P24 {x y : Int32} (hx : x = 0) (hy : y = nI 24) : ph_P x y := by rw [hx, hy]; exact ph_P0
theorem ph_Pm {m : Nat} (h : m < 24) : ph_P (nI (m + 1)) (nI m) := ⟨m, by omega, by rw [ph_fl h], rfl⟩
theorem ph_P_u {a b : Nat → Int32} {n k : Nat} {x y : Int32} (h : ∀ j, j < n → ph_P (a j) (b j)) (hx : ph_P x y) : ∀ j, j < n → ph_P (upd a k x j) (upd b k y j) := by
  intro j hj
  by_cases e : j = k
  · subst e; rw [pk_us, pk_us]; exact hx
  · rw [pk_un e, pk_un e]; exact h j hj
/-- the seeds of the need: registers, roots, old roots -/
def ph_S (rt ot ry : Nat → Int32) (a : Nat) : Prop := a < 24 ∧ ((∃ g, g < 4 ∧ ry g = nI a) ∨ (∃ r, r < 3 ∧ rt r = nI a) ∨ (∃ r, r < 3 ∧ ot r = nI a))
def ph_S1 (rt : Nat → Int32) (a : Nat) : Prop := a < 24 ∧ ∃ r, r < 3 ∧ rt r = nI a
theorem ph_pin {a b : Nat → Int32} {n : Nat} {T : Nat → Prop} (h : ∀ r, r < n → ph_P (a r) (b r)) (t : ∀ r m, r < n → m < 24 → b r = nI m → T m) : ph_in a n T := by
  intro r hr
  obtain ⟨m, hm, e1, e2⟩ := h r hr
  exact ⟨m, hm, e1, fun l => t r m hr l e2⟩
theorem ph_piy {a b : Nat → Int32} {n : Nat} {T : Nat → Prop} (h : ∀ r, r < n → ph_P (a r) (b r)) (t : ∀ r m, r < n → m < 24 → b r = nI m → T m) : ph_iy b n T := by
  intro r hr
  obtain ⟨m, hm, e1, e2⟩ := h r hr
  exact ⟨m, hm, e2, fun l => t r m hr l e2⟩
theorem ph_Pf {x y : Int32} {b : Nat} (h : ph_P x y) (hb : b ≤ 24) (e : y = nI b) : x = nI (ph_f b) := by
  obtain ⟨m, hm, e1, e2⟩ := h
  have := ph_niq (by omega) (by omega) (e.symm.trans e2)
  subst this
  exact e1
theorem ph_Py {x y : Int32} (h : ph_P x y) : ∃ b, b ≤ 24 ∧ y = nI b := by
  obtain ⟨m, hm, _, e2⟩ := h
  exact ⟨m, hm, e2⟩
theorem ph_E_fin {bo : Int32} {fi fl og sv : Nat → Int32} (h : ∀ k, k < 48 → ph_P (fi (k + 2)) (fl k)) : ph_fin fi (ph_E bo fl og sv) := by
  intro m r hm hr
  obtain ⟨b, hb, e1, e2⟩ := h (2 * m + r) (by omega)
  exact ⟨b, hb, e1, fun l => ⟨l, 2 * m + r, by omega, by omega, Or.inl e2⟩⟩
theorem ph_E_fins {sf fl og sv : Nat → Int32} (h : ∀ k, k < 48 → ¬ sv (k / 2) = 0 → ph_P (sf (k + 2)) (og k)) (h0 : ∀ k, k < 48 → sv (k / 2) = 0 → sf (k + 2) = 0) : ph_fin sf (ph_E 1 fl og sv) := by
  intro m r hm hr
  by_cases z : sv ((2 * m + r) / 2) = 0
  · exact ⟨24, Nat.le_refl 24, h0 _ (by omega) z, fun l => absurd l (by omega)⟩
  · obtain ⟨b, hb, e1, e2⟩ := h (2 * m + r) (by omega) z
    have em : (2 * m + r) / 2 = m := by omega
    rw [em] at z
    exact ⟨b, hb, e1, fun l => ⟨l, 2 * m + r, by omega, em, Or.inr ⟨by decide, z, e2⟩⟩⟩
theorem ph_E_h2 {fi fl og sv : Nat → Int32} (h : ∀ k, k < 48 → ph_P (fi (k + 2)) (fl k)) : ∀ m b, m < 24 → ph_E 0 fl og sv m b → b < 24 → ∃ r, r < 2 ∧ fi (2 * m + r + 2) = nI (ph_f b) := by
  intro m b hm he hb
  obtain ⟨_, k, hk, ek, ho⟩ := he
  rcases ho with ho | ⟨ho, _⟩
  · have e : 2 * m + k % 2 = k := by omega
    refine ⟨k % 2, by omega, ?_⟩
    rw [e]
    exact ph_Pf (h k hk) (by omega) ho
  · exact absurd rfl ho
theorem ph_E_h2s {fi sf fl og sv : Nat → Int32} (h : ∀ k, k < 48 → ph_P (fi (k + 2)) (fl k)) (g : ∀ k, k < 48 → ¬ sv (k / 2) = 0 → ph_P (sf (k + 2)) (og k)) : ∀ m b, m < 24 → ph_E 1 fl og sv m b → b < 24 → (∃ r, r < 2 ∧ fi (2 * m + r + 2) = nI (ph_f b)) ∨ (∃ r, r < 2 ∧ sf (2 * m + r + 2) = nI (ph_f b)) := by
  intro m b hm he hb
  obtain ⟨_, k, hk, ek, ho⟩ := he
  have e : 2 * m + k % 2 = k := by omega
  rcases ho with ho | ⟨_, hs, ho⟩
  · refine Or.inl ⟨k % 2, by omega, ?_⟩
    rw [e]
    exact ph_Pf (h k hk) (by omega) ho
  · refine Or.inr ⟨k % 2, by omega, ?_⟩
    rw [e]
    rw [← ek] at hs
    exact ph_Pf (g k hk hs) (by omega) ho
section
variable {rg ro nu fi sr sn sf iS fd fs nw th fl og sv rt ot ry se : Nat → Int32} {c : Int32}
theorem ph_vwn (H : ph_Rel rg ro nu fi sr sn sf iS nw th fl og sv rt ot ry) {post : SX → Prop} (hp : ∀ fd' fs', ph_F (ph_S rt ot ry) (ph_E 1 fl og sv) fd' → post (nI (ph_c fd' 25), rg, ro, nu, fi, sr, sn, sf, iS, fd', fs')) : wpX_walkNeeded post (c, rg, ro, nu, fi, sr, sn, sf, iS, fd, fs) := by
  obtain ⟨hg, hro, hsr, hf, hn0, hn, hsn, his, hsf, hsf0⟩ := H
  refine ph_walkNeeded (S := ph_S rt ot ry) (E := ph_E 1 fl og sv) (fun a b h => h.1) (ph_E_fin hf) (ph_E_fins hsf hsf0) (ph_E_h2s hf hsf) (ph_pin hg (fun r m hr hm e => ⟨hm, Or.inl ⟨r, hr, e⟩⟩)) (ph_pin hro (fun r m hr hm e => ⟨hm, Or.inr (Or.inl ⟨r, hr, e⟩)⟩)) (ph_pin hsr (fun r m hr hm e => ⟨hm, Or.inr (Or.inr ⟨r, hr, e⟩)⟩)) (fun a ha => ⟨ha.1, ?_⟩) hp
  rcases ha.2 with ⟨g, l, e⟩ | ⟨g, l, e⟩ | ⟨g, l, e⟩
  · exact Or.inl ⟨g, l, ph_Pf (hg g l) (by have := ha.1; omega) e⟩
  · exact Or.inr (Or.inl ⟨g, l, ph_Pf (hro g l) (by have := ha.1; omega) e⟩)
  · exact Or.inr (Or.inr ⟨g, l, ph_Pf (hsr g l) (by have := ha.1; omega) e⟩)
theorem ph_vnd (H : ph_Rel rg ro nu fi sr sn sf iS nw th fl og sv rt ot ry) {post : Int32 → SY → Prop} (hp : ∀ se', (∀ m, m < 24 → (¬ se' m = 0 ↔ ph_R (ph_S rt ot ry) (ph_E 1 fl og sv) m)) → post (nI (ph_c se' 24)) (nw, th, fl, og, sv, rt, ot, ry, se')) : wpY_need post (nw, th, fl, og, sv, rt, ot, ry, se) := by
  obtain ⟨hg, hro, hsr, hf, hn0, hn, hsn, his, hsf, hsf0⟩ := H
  refine ph_need (S := ph_S rt ot ry) (fun k hk => ph_Py (hf k hk)) (fun k hk z => ph_Py (hsf k hk z)) (ph_piy hro (fun r m hr hm e => ⟨hm, Or.inr (Or.inl ⟨r, hr, e⟩)⟩)) (ph_piy hsr (fun r m hr hm e => ⟨hm, Or.inr (Or.inr ⟨r, hr, e⟩)⟩)) (ph_piy hg (fun r m hr hm e => ⟨hm, Or.inl ⟨r, hr, e⟩⟩)) (fun a ha => ⟨ha.1, ?_⟩) hp
  rcases ha.2 with h | h | h
  · exact Or.inr (Or.inr h)
  · exact Or.inl h
  · exact Or.inr (Or.inl h)
theorem ph_vcfr (H : ph_Rel rg ro nu fi sr sn sf iS nw th fl og sv rt ot ry) {post : Int32 → SX → Prop} (hp : ∀ fd' fs', ph_F (ph_S1 rt) (ph_E 0 fl og sv) fd' → post (nI (ph_c fd' 25)) (nI (ph_c fd' 25), rg, ro, nu, fi, sr, sn, sf, iS, fd', fs')) : wpX_countFromRoots post (c, rg, ro, nu, fi, sr, sn, sf, iS, fd, fs) := by
  obtain ⟨hg, hro, hsr, hf, hn0, hn, hsn, his, hsf, hsf0⟩ := H
  refine ph_cfr (S := ph_S1 rt) (E := ph_E 0 fl og sv) (fun a b h => h.1) (ph_E_fin hf) (ph_E_h2 hf) (ph_pin hro (fun r m hr hm e => ⟨hm, r, hr, e⟩)) (fun a ha => ⟨ha.1, ?_⟩) hp
  obtain ⟨la, g, l, e⟩ := ha
  exact ⟨g, l, ph_Pf (hro g l) (by omega) e⟩
theorem ph_vfr (H : ph_Rel rg ro nu fi sr sn sf iS nw th fl og sv rt ot ry) {post : Int32 → SY → Prop} (hp : ∀ se', (∀ m, m < 24 → (¬ se' m = 0 ↔ ph_R (ph_S1 rt) (ph_E 0 fl og sv) m)) → post (nI (ph_c se' 24)) (nw, th, fl, og, sv, rt, ot, ry, se')) : wpY_fromRoots post (nw, th, fl, og, sv, rt, ot, ry, se) := by
  obtain ⟨hg, hro, hsr, hf, hn0, hn, hsn, his, hsf, hsf0⟩ := H
  exact ph_fromRoots (S := ph_S1 rt) (fun k hk => ph_Py (hf k hk)) (fun k hk z => ph_Py (hsf k hk z)) (ph_piy hro (fun r m hr hm e => ⟨hm, r, hr, e⟩)) (fun a ha => ha) hp
theorem ph_ans {S : Nat → Prop} {E : Nat → Nat → Prop} (h : ph_F S E fd) (g : ∀ m, m < 24 → (¬ se m = 0 ↔ ph_R S E m)) : nI (ph_c se 24) = nI (ph_c fd 25) := by
  have e : ph_c fd 25 = ph_c se 24 := ph_c_shift h.1 24 (fun j hj => by
    constructor
    · intro z
      exact Classical.byContradiction (fun y => (h.2 j hj).mpr ((g j hj).mp y) z)
    · intro z
      exact Classical.byContradiction (fun y => (g j hj).mpr ((h.2 j hj).mp y) z))
  rw [e]
/-- after saving -/
theorem ph_Rsave {sr' sn' iS' sf' th' og' sv' ot' : Nat → Int32} (H : ph_Rel rg ro nu fi sr sn sf iS nw th fl og sv rt ot ry) (h1 : ∀ r, r < 3 → sr' r = ro r) (h2 : ∀ m, m < 24 → sn' (m + 1) = nu (m + 1)) (h3 : ∀ m, m < 24 → iS' (m + 1) = 1) (h4 : ∀ k, k < 50 → sf' k = fi k) (g1 : ∀ k, k < 24 → th' k = nw k) (g2 : ∀ k, k < 24 → sv' k = 1) (g3 : ∀ k, k < 48 → og' k = fl k) (g4 : ∀ r, r < 3 → ot' r = rt r) : ph_Rel rg ro nu fi sr' sn' sf' iS' nw th' fl og' sv' rt ot' ry := by
  obtain ⟨hg, hro, hsr, hf, hn0, hn, hsn, his, hsf, hsf0⟩ := H
  refine ⟨hg, hro, fun r hr => ?_, hf, hn0, hn, fun m hm => ?_, fun m hm => ?_, fun k hk _ => ?_, fun k hk z => ?_⟩
  · rw [h1 r hr, g4 r hr]; exact hro r hr
  · rw [h2 m hm, g1 m hm]; exact hn m hm
  · rw [h3 m hm, g2 m hm]
  · rw [h4 (k + 2) (by omega), g3 k hk]; exact hf k hk
  · rw [g2 (k / 2) (by omega)] at z
    exact absurd z (by decide)
/-- after going back -/
theorem ph_Rback {ro' nu' fi' nw' fl' rt' : Nat → Int32} (H : ph_Rel rg ro nu fi sr sn sf iS nw th fl og sv rt ot ry) (h1 : ∀ r, r < 3 → ro' r = sr r) (h0 : nu' 0 = nu 0) (h2 : ∀ m, m < 24 → nu' (m + 1) = if iS (m + 1) = 0 then nu (m + 1) else sn (m + 1)) (h3 : ∀ k, k < 48 → fi' (k + 2) = if iS (k / 2 + 1) = 0 then fi (k + 2) else sf (k + 2)) (g1 : ∀ k, k < 24 → nw' k = if sv k = 0 then nw k else th k) (g2 : ∀ k, k < 48 → fl' k = if sv (k / 2) = 0 then fl k else og k) (g3 : ∀ r, r < 3 → rt' r = ot r) : ph_Rel rg ro' nu' fi' sr sn sf iS nw' th fl' og sv rt' ot ry := by
  obtain ⟨hg, hro, hsr, hf, hn0, hn, hsn, his, hsf, hsf0⟩ := H
  refine ⟨hg, fun r hr => ?_, hsr, fun k hk => ?_, h0.trans hn0, fun m hm => ?_, hsn, his, hsf, hsf0⟩
  · rw [h1 r hr, g3 r hr]; exact hsr r hr
  · rw [h3 k hk, g2 k hk, his (k / 2) (by omega)]
    by_cases z : sv (k / 2) = 0
    · rw [if_pos z, if_pos z]; exact hf k hk
    · rw [if_neg z, if_neg z]; exact hsf k hk z
  · rw [h2 m hm, g1 m hm, his m hm]
    by_cases z : sv m = 0
    · rw [if_pos z, if_pos z]; exact hn m hm
    · rw [if_neg z, if_neg z]; exact hsn m hm
theorem ph_Rreg {rg' ry' : Nat → Int32} (H : ph_Rel rg ro nu fi sr sn sf iS nw th fl og sv rt ot ry) (h : ∀ g, g < 4 → ph_P (rg' g) (ry' g)) : ph_Rel rg' ro nu fi sr sn sf iS nw th fl og sv rt ot ry' := ⟨h, H.2⟩
theorem ph_Rroot {ro' rt' : Nat → Int32} (H : ph_Rel rg ro nu fi sr sn sf iS nw th fl og sv rt ot ry) (h : ∀ r, r < 3 → ph_P (ro' r) (rt' r)) : ph_Rel rg ro' nu fi sr sn sf iS nw th fl og sv rt' ot ry := ⟨H.1, h, H.2.2⟩
theorem ph_Rfield {fi' fl' : Nat → Int32} (H : ph_Rel rg ro nu fi sr sn sf iS nw th fl og sv rt ot ry) (h : ∀ k, k < 48 → ph_P (fi' (k + 2)) (fl' k)) : ph_Rel rg ro nu fi' sr sn sf iS nw th fl' og sv rt ot ry := ⟨H.1, H.2.1, H.2.2.1, h, H.2.2.2.2⟩
theorem ph_Rnum {m : Nat} {x : Int32} (H : ph_Rel rg ro nu fi sr sn sf iS nw th fl og sv rt ot ry) : ph_Rel rg ro (upd nu (m + 1) x) fi sr sn sf iS (upd nw m x) th fl og sv rt ot ry := by
  obtain ⟨hg, hro, hsr, hf, hn0, hn, hsn, his, hsf, hsf0⟩ := H
  refine ⟨hg, hro, hsr, hf, ?_, fun j hj => ?_, hsn, his, hsf, hsf0⟩
  · rw [pk_un (by omega)]; exact hn0
  · by_cases e : j = m
    · subst e; rw [pk_us, pk_us]
    · rw [pk_un e, pk_un (by omega)]; exact hn j hj
theorem ph_Rmake {fi' sf' : Nat → Int32} {m g : Nat} {x : Int32} (H : ph_Rel rg ro nu fi sr sn sf iS nw th fl og sv rt ot ry) (hm : m < 24) (h1 : ∀ r, r < 2 → fi' (2 * m + r + 2) = 0 ∧ sf' (2 * m + r + 2) = 0) (h2 : ∀ j, j < 2 * m + 2 ∨ 2 * m + 4 ≤ j → fi' j = fi j ∧ sf' j = sf j) : ph_Rel (upd rg g (nI (m + 1))) ro (upd nu (m + 1) x) fi' sr sn sf' (upd iS (m + 1) 0) (upd nw m x) th (upd (upd fl (2 * m) (nI 24)) (2 * m + 1) (nI 24)) og (upd sv m 0) rt ot (upd ry g (nI m)) := by
  have H2 := ph_Rnum (m := m) (x := x) H
  obtain ⟨hg, hro, hsr, hf, hn0, hn, hsn, his, hsf, hsf0⟩ := H2
  have at0 : ∀ k, k / 2 = m → fi' (k + 2) = 0 ∧ sf' (k + 2) = 0 := by
    intro k e
    have ek : k + 2 = 2 * m + k % 2 + 2 := by omega
    rw [ek]
    exact h1 (k % 2) (by omega)
  refine ⟨ph_P_u hg (ph_Pm hm), hro, hsr, fun k hk => ?_, hn0, hn, hsn, fun j hj => ?_, fun k hk z => ?_, fun k hk z => ?_⟩
  · by_cases e : k / 2 = m
    · refine ph_P24 (at0 k e).1 ?_
      by_cases e1 : k = 2 * m + 1
      · rw [e1, pk_us]
      · have e2 : k = 2 * m := by omega
        rw [pk_un e1, e2, pk_us]
    · rw [pk_un (by omega), pk_un (by omega), (h2 (k + 2) (by omega)).1]; exact hf k hk
  · by_cases e : j = m
    · subst e; rw [pk_us, pk_us]
    · rw [pk_un e, pk_un (by omega)]; exact his j hj
  · by_cases e : k / 2 = m
    · rw [e, pk_us] at z; exact absurd rfl z
    · rw [pk_un e] at z
      rw [(h2 (k + 2) (by omega)).2]; exact hsf k hk z
  · by_cases e : k / 2 = m
    · exact (at0 k e).2
    · rw [pk_un e] at z
      rw [(h2 (k + 2) (by omega)).2]; exact hsf0 k hk z
end
end
section
theorem ph_X0_Register {post : Int32 → Prop} {p : Int32} (h : p < 0 ∨ nI 4 ≤ p) (hp : post 0) : wpX_isRegister post p := by
  by_cases z : p < 0
  · exact br_t z hp
  · rcases h with h | h
    · exact absurd h z
    · exact br_f z (br_t h hp)
theorem ph_X1_Register {post : Int32 → Prop} {g : Nat} (h : g < 4) (hp : post 1) : wpX_isRegister post (nI g) := br_f (nI_pos (by omega)) (br_f (nI_ge (b := 4) h (by decide)) hp)
theorem ph_Y0_Register {post : Int32 → Prop} {v : SY} {p : Int32} (h : p < 0 ∨ nI 4 ≤ p) (hp : post 0) : wpY_isRegister post v p := by
  by_cases z : p < 0
  · exact br_t z hp
  · rcases h with h | h
    · exact absurd h z
    · obtain ⟨j, hj, rfl⟩ := nI_of z
      have h2 := (nI_leI (a := 4) (by decide) hj).mp h
      exact br_f z (br_t (nI_lt (a := 3) (b := j) (by omega) hj) hp)
theorem ph_Y1_Register {post : Int32 → Prop} {v : SY} {g : Nat} (h : g < 4) (hp : post 1) : wpY_isRegister post v (nI g) := br_f (nI_pos (by omega)) (br_f (nI_nlt (a := 3) (b := g) (by omega) (by decide)) hp)
theorem ph_X0_Root {post : Int32 → Prop} {p : Int32} (h : p < 0 ∨ nI 3 ≤ p) (hp : post 0) : wpX_isRoot post p := by
  by_cases z : p < 0
  · exact br_t z hp
  · rcases h with h | h
    · exact absurd h z
    · exact br_f z (br_t h hp)
theorem ph_X1_Root {post : Int32 → Prop} {g : Nat} (h : g < 3) (hp : post 1) : wpX_isRoot post (nI g) := br_f (nI_pos (by omega)) (br_f (nI_ge (b := 3) h (by decide)) hp)
theorem ph_Y0_Root {post : Int32 → Prop} {v : SY} {p : Int32} (h : p < 0 ∨ nI 3 ≤ p) (hp : post 0) : wpY_isRoot post v p := by
  by_cases z : p < 0
  · exact br_t z hp
  · rcases h with h | h
    · exact absurd h z
    · obtain ⟨j, hj, rfl⟩ := nI_of z
      have h2 := (nI_leI (a := 3) (by decide) hj).mp h
      exact br_f z (br_t (nI_lt (a := 2) (b := j) (by omega) hj) hp)
theorem ph_Y1_Root {post : Int32 → Prop} {v : SY} {g : Nat} (h : g < 3) (hp : post 1) : wpY_isRoot post v (nI g) := br_f (nI_pos (by omega)) (br_f (nI_nlt (a := 2) (b := g) (by omega) (by decide)) hp)
theorem ph_X0_Field {post : Int32 → Prop} {p : Int32} (h : p < 0 ∨ nI 2 ≤ p) (hp : post 0) : wpX_isField post p := by
  by_cases z : p < 0
  · exact br_t z hp
  · rcases h with h | h
    · exact absurd h z
    · exact br_f z (br_t h hp)
theorem ph_X1_Field {post : Int32 → Prop} {g : Nat} (h : g < 2) (hp : post 1) : wpX_isField post (nI g) := br_f (nI_pos (by omega)) (br_f (nI_ge (b := 2) h (by decide)) hp)
/-- the reference's own look at a field's number -/
theorem ph_fY0 {A B : Prop} {p : Int32} (h : p < 0 ∨ nI 2 ≤ p) (hp : A) : (p < 0 → A) ∧ (¬ p < 0 → ((p ≤ 1 → B) ∧ (¬ p ≤ 1 → A))) := by
  by_cases z : p < 0
  · exact br_t z hp
  · rcases h with h | h
    · exact absurd h z
    · obtain ⟨j, hj, rfl⟩ := nI_of z
      have h2 := (nI_leI (a := 2) (by decide) hj).mp h
      exact br_f z (br_f (nI_ge (a := 1) (b := j) (by omega) hj) hp)
theorem ph_fY1 {A B C : Prop} {g : Nat} (h : g < 2) (hp : B) : (nI g < 0 → A) ∧ (¬ nI g < 0 → ((nI g ≤ 1 → B) ∧ (¬ nI g ≤ 1 → C))) := br_f (nI_pos (by omega)) (br_t (nI_le (a := g) (b := 1) (by omega) (by decide)) hp)
theorem ph_ix (x : Int32) (n : Nat) (hn : n < 2 ^ 31) : (x < 0 ∨ nI n ≤ x) ∨ ∃ j : Nat, j < n ∧ x = nI j := by
  rcases pk_ix x hn with h | h | h
  · exact Or.inl (Or.inl h)
  · exact Or.inl (Or.inr h)
  · exact Or.inr h
theorem i_vc0 : wpX_init (fun u => wpY_init (fun v => i_Rel 0 u v)) := by
  refine ph_initY (fun rt ot ry fl og h1 h2 h3 h4 h5 => ?_)
  exact ⟨fun g hg => ph_P24 rfl (h3 g hg), fun r hr => ph_P24 rfl (h1 r hr), fun r hr => ph_P24 rfl (h2 r hr), fun k hk => ph_P24 rfl (h4 k hk), rfl, fun _ _ => rfl, fun _ _ => rfl, fun _ _ => rfl, fun k hk _ => ph_P24 rfl (h5 k hk), fun _ _ _ => rfl⟩
theorem i_vc_fromRoot {k : Nat} {u : SX} {v : SY} (I : i_Rel k u v) (hk : k + 4 ≤ 2048) (v1 : Int32) (v2 : Int32) : wpX_fromRoot (fun r u' => wpY_fromRoot (fun r' v' => r' = r ∧ i_Rel (k + 4) u' v') v v1 v2) u v1 v2 := by
  obtain ⟨c, rg, ro, nu, fi, sr, sn, sf, iS, fd, fs⟩ := u
  obtain ⟨nw, th, fl, og, sv, rt, ot, ry, se⟩ := v
  have H : ph_Rel rg ro nu fi sr sn sf iS nw th fl og sv rt ot ry := I
  unfold wpX_fromRoot wpY_fromRoot
  rcases ph_ix v1 4 (by decide) with hb | ⟨g, hg, rfl⟩
  · exact ph_X0_Register hb (br_t rfl (ph_Y0_Register hb (br_t rfl ⟨rfl, H⟩)))
  · refine ph_X1_Register hg (br_f (by decide) ?_)
    rcases ph_ix v2 3 (by decide) with hb | ⟨q, hq, rfl⟩
    · exact ph_X0_Root hb (br_t rfl (ph_Y1_Register hg (br_f (by decide) (ph_Y0_Root hb (br_t rfl ⟨rfl, H⟩)))))
    · refine ph_X1_Root hq (br_f (by decide) ⟨vp_in_nI hq (by decide), vp_in_nI hg (by decide), nm_e ?_⟩)
      refine ph_Y1_Register hg (br_f (by decide) (ph_Y1_Root hq (br_f (by decide) ⟨vp_in_nI hq (by decide), vp_in_nI hg (by decide), nm_e ⟨rfl, ?_⟩⟩)))
      rw [nI_clamp (n := g) (by omega), nI_clamp (n := q) (by omega)]
      exact ph_Rreg H (ph_P_u H.1 (H.2.1 q hq))
theorem i_vc_toRoot {k : Nat} {u : SX} {v : SY} (I : i_Rel k u v) (hk : k + 4 ≤ 2048) (v1 : Int32) (v2 : Int32) : wpX_toRoot (fun r u' => wpY_toRoot (fun r' v' => r' = r ∧ i_Rel (k + 4) u' v') v v1 v2) u v1 v2 := by
  obtain ⟨c, rg, ro, nu, fi, sr, sn, sf, iS, fd, fs⟩ := u
  obtain ⟨nw, th, fl, og, sv, rt, ot, ry, se⟩ := v
  have H : ph_Rel rg ro nu fi sr sn sf iS nw th fl og sv rt ot ry := I
  unfold wpX_toRoot wpY_toRoot
  rcases ph_ix v1 3 (by decide) with hb | ⟨q, hq, rfl⟩
  · refine ph_X0_Root hb (br_t rfl ?_)
    rcases ph_ix v2 4 (by decide) with hc | ⟨g, hg, rfl⟩
    · exact ph_Y0_Register hc (br_t rfl ⟨rfl, H⟩)
    · exact ph_Y1_Register hg (br_f (by decide) (ph_Y0_Root hb (br_t rfl ⟨rfl, H⟩)))
  · refine ph_X1_Root hq (br_f (by decide) ?_)
    rcases ph_ix v2 4 (by decide) with hc | ⟨g, hg, rfl⟩
    · exact ph_X0_Register hc (br_t rfl (ph_Y0_Register hc (br_t rfl ⟨rfl, H⟩)))
    · refine ph_X1_Register hg (br_f (by decide) ⟨vp_in_nI hg (by decide), vp_in_nI hq (by decide), nm_e ?_⟩)
      refine ph_Y1_Register hg (br_f (by decide) (ph_Y1_Root hq (br_f (by decide) ⟨vp_in_nI hg (by decide), vp_in_nI hq (by decide), nm_e ⟨rfl, ?_⟩⟩)))
      rw [nI_clamp (n := g) (by omega), nI_clamp (n := q) (by omega)]
      exact ph_Rroot H (ph_P_u H.2.1 (H.1 g hg))
theorem i_vc_release {k : Nat} {u : SX} {v : SY} (I : i_Rel k u v) (hk : k + 4 ≤ 2048) (v1 : Int32) : wpX_release (fun r u' => wpY_release (fun r' v' => r' = r ∧ i_Rel (k + 4) u' v') v v1) u v1 := by
  obtain ⟨c, rg, ro, nu, fi, sr, sn, sf, iS, fd, fs⟩ := u
  obtain ⟨nw, th, fl, og, sv, rt, ot, ry, se⟩ := v
  have H : ph_Rel rg ro nu fi sr sn sf iS nw th fl og sv rt ot ry := I
  unfold wpX_release wpY_release
  rcases ph_ix v1 4 (by decide) with hb | ⟨g, hg, rfl⟩
  · exact ph_X0_Register hb (br_t rfl (ph_Y0_Register hb (br_t rfl ⟨rfl, H⟩)))
  · refine ph_X1_Register hg (br_f (by decide) ⟨vp_in_nI hg (by decide), nm_e ?_⟩)
    refine ph_Y1_Register hg (br_f (by decide) ⟨vp_in_nI hg (by decide), nm_e ⟨rfl, ?_⟩⟩)
    rw [nI_clamp (n := g) (by omega)]
    exact ph_Rreg H (ph_P_u H.1 ph_P0)
theorem i_vc_number {k : Nat} {u : SX} {v : SY} (I : i_Rel k u v) (hk : k + 4 ≤ 2048) (v1 : Int32) : wpX_number (fun r => wpY_number (fun r' => r' = r ∧ i_Rel (k + 4) u v) v v1) u v1 := by
  obtain ⟨c, rg, ro, nu, fi, sr, sn, sf, iS, fd, fs⟩ := u
  obtain ⟨nw, th, fl, og, sv, rt, ot, ry, se⟩ := v
  have H : ph_Rel rg ro nu fi sr sn sf iS nw th fl og sv rt ot ry := I
  unfold wpX_number wpY_number
  rcases ph_ix v1 4 (by decide) with hb | ⟨g, hg, rfl⟩
  · exact ph_X0_Register hb (br_t rfl (ph_Y0_Register hb (br_t rfl ⟨rfl, H⟩)))
  · refine ph_X1_Register hg (br_f (by decide) ⟨vp_in_nI hg (by decide), ?_⟩)
    obtain ⟨m, hm, e1, e2⟩ := H.1 g hg
    have hf := ph_fle hm
    rw [nI_clamp (n := g) (by omega), e1, nI_clamp (n := ph_f m) (by omega)]
    refine ⟨vp_in_nI (by omega) (by decide), ?_⟩
    refine ph_Y1_Register hg (br_f (by decide) ⟨vp_in_nI hg (by decide), ?_⟩)
    rw [e2]
    by_cases l : m < 24
    · refine br_f (nI_ge (b := 24) l (by decide)) ⟨vp_in_nI hg (by decide), vp_in_nI l (by decide), ?_⟩
      rw [nI_clamp (n := m) (by omega), ph_fl l]
      exact ⟨(H.2.2.2.2.2.1 m l).symm, H⟩
    · have e : m = 24 := by omega
      subst e
      exact br_t (nI_le (a := 24) (b := 24) (by decide) (by decide)) ⟨H.2.2.2.2.1.symm, H⟩
theorem i_vc_setNumber {k : Nat} {u : SX} {v : SY} (I : i_Rel k u v) (hk : k + 4 ≤ 2048) (v1 : Int32) (v2 : Int32) : wpX_setNumber (fun r u' => wpY_setNumber (fun r' v' => r' = r ∧ i_Rel (k + 4) u' v') v v1 v2) u v1 v2 := by
  obtain ⟨c, rg, ro, nu, fi, sr, sn, sf, iS, fd, fs⟩ := u
  obtain ⟨nw, th, fl, og, sv, rt, ot, ry, se⟩ := v
  have H : ph_Rel rg ro nu fi sr sn sf iS nw th fl og sv rt ot ry := I
  unfold wpX_setNumber wpY_setNumber
  rcases ph_ix v1 4 (by decide) with hb | ⟨g, hg, rfl⟩
  · exact ph_X0_Register hb (br_t rfl (ph_Y0_Register hb (br_t rfl ⟨rfl, H⟩)))
  · obtain ⟨m, hm, e1, e2⟩ := H.1 g hg
    have cg : (nI g).toNatClampNeg = g := nI_clamp (by omega)
    refine ph_X1_Register hg (br_f (by decide) ⟨vp_in_nI hg (by decide), nm_r ((congrArg rg cg).trans e1) ?_⟩)
    by_cases l : m < 24
    · rw [ph_fl l, nI_clamp (n := m + 1) (by omega)]
      refine br_f (nI_ne0 (by omega) (by omega)) ⟨vp_in_nI (by omega) (by decide), nm_e ?_⟩
      refine ph_Y1_Register hg (br_f (by decide) ⟨vp_in_nI hg (by decide), ?_⟩)
      rw [cg, e2, nI_clamp (n := m) (by omega)]
      exact br_f (fun z => absurd (ph_niq (n := 24) (by omega) (by omega) z) (by omega)) ⟨vp_in_nI hg (by decide), vp_in_nI l (by decide), nm_e ⟨rfl, ph_Rnum H⟩⟩
    · have e : m = 24 := by omega
      subst e
      refine br_t rfl (ph_Y1_Register hg (br_f (by decide) ⟨vp_in_nI hg (by decide), ?_⟩))
      rw [cg, e2]
      exact br_t rfl ⟨rfl, H⟩
theorem i_vc_same {k : Nat} {u : SX} {v : SY} (I : i_Rel k u v) (hk : k + 4 ≤ 2048) (v1 : Int32) (v2 : Int32) : wpX_same (fun r => wpY_same (fun r' => r' = r ∧ i_Rel (k + 4) u v) v v1 v2) u v1 v2 := by
  obtain ⟨c, rg, ro, nu, fi, sr, sn, sf, iS, fd, fs⟩ := u
  obtain ⟨nw, th, fl, og, sv, rt, ot, ry, se⟩ := v
  have H : ph_Rel rg ro nu fi sr sn sf iS nw th fl og sv rt ot ry := I
  unfold wpX_same wpY_same
  rcases ph_ix v1 4 (by decide) with hb | ⟨g, hg, rfl⟩
  · exact ph_X0_Register hb (br_t rfl (ph_Y0_Register hb (br_t rfl ⟨rfl, H⟩)))
  · refine ph_X1_Register hg (br_f (by decide) ?_)
    rcases ph_ix v2 4 (by decide) with hb | ⟨q, hq, rfl⟩
    · exact ph_X0_Register hb (br_t rfl (ph_Y1_Register hg (br_f (by decide) (ph_Y0_Register hb (br_t rfl ⟨rfl, H⟩)))))
    · refine ph_X1_Register hq (br_f (by decide) ⟨vp_in_nI hg (by decide), vp_in_nI hq (by decide), ?_⟩)
      obtain ⟨m, hm, e1, e2⟩ := H.1 g hg
      obtain ⟨b, hb, d1, d2⟩ := H.1 q hq
      have cg : (nI g).toNatClampNeg = g := nI_clamp (by omega)
      have cq : (nI q).toNatClampNeg = q := nI_clamp (by omega)
      rw [cg, cq, e1, d1]
      by_cases e : m = b
      · subst e
        refine br_t rfl (ph_Y1_Register hg (br_f (by decide) (ph_Y1_Register hq (br_f (by decide) ⟨vp_in_nI hg (by decide), vp_in_nI hq (by decide), ?_⟩))))
        rw [e2, d2]
        exact br_t rfl ⟨rfl, H⟩
      · refine br_f (fun z => e (ph_finj2 hm hb z)) (ph_Y1_Register hg (br_f (by decide) (ph_Y1_Register hq (br_f (by decide) ⟨vp_in_nI hg (by decide), vp_in_nI hq (by decide), ?_⟩))))
        rw [e2, d2]
        exact br_f (fun z => e (ph_niq (by omega) (by omega) z)) ⟨rfl, H⟩
end
section
theorem i_vc_fromField {k : Nat} {u : SX} {v : SY} (I : i_Rel k u v) (hk : k + 4 ≤ 2048) (v1 : Int32) (v2 : Int32) (v3 : Int32) : wpX_fromField (fun r u' => wpY_fromField (fun r' v' => r' = r ∧ i_Rel (k + 4) u' v') v v1 v2 v3) u v1 v2 v3 := by
  obtain ⟨c, rg, ro, nu, fi, sr, sn, sf, iS, fd, fs⟩ := u
  obtain ⟨nw, th, fl, og, sv, rt, ot, ry, se⟩ := v
  have H : ph_Rel rg ro nu fi sr sn sf iS nw th fl og sv rt ot ry := I
  unfold wpX_fromField wpY_fromField
  rcases ph_ix v1 4 (by decide) with hb | ⟨g, hg, rfl⟩
  · exact ph_X0_Register hb (br_t rfl (ph_Y0_Register hb (br_t rfl ⟨rfl, H⟩)))
  · refine ph_X1_Register hg (br_f (by decide) ?_)
    rcases ph_ix v2 4 (by decide) with hb | ⟨s, hs, rfl⟩
    · exact ph_X0_Register hb (br_t rfl (ph_Y1_Register hg (br_f (by decide) (ph_Y0_Register hb (br_t rfl ⟨rfl, H⟩)))))
    · refine ph_X1_Register hs (br_f (by decide) ?_)
      rcases ph_ix v3 2 (by decide) with hb | ⟨f, hf, rfl⟩
      · exact ph_X0_Field hb (br_t rfl (ph_Y1_Register hg (br_f (by decide) (ph_Y1_Register hs (br_f (by decide) (ph_fY0 hb ⟨rfl, H⟩))))))
      · obtain ⟨m, hm, e1, e2⟩ := H.1 s hs
        have cg : (nI g).toNatClampNeg = g := nI_clamp (by omega)
        have cs : (nI s).toNatClampNeg = s := nI_clamp (by omega)
        refine ph_X1_Field hf (br_f (by decide) ⟨vp_in_nI hs (by decide), nm_r ((congrArg rg cs).trans e1) ?_⟩)
        by_cases l : m < 24
        · have ix : nI (m + 1) * 2 + nI f = nI (2 * m + f + 2) := (ph_i2 (m + 1) f).trans (congrArg nI (by omega))
          rw [ph_fl l, ix, nI_clamp (n := 2 * m + f + 2) (by omega)]
          refine br_f (nI_ne0 (by omega) (by omega)) ⟨vp_in_nI (by omega) (by decide), vp_in_nI hg (by decide), nm_e ?_⟩
          refine ph_Y1_Register hg (br_f (by decide) (ph_Y1_Register hs (br_f (by decide) (ph_fY1 hf ⟨vp_in_nI hs (by decide), ?_⟩))))
          rw [cs, e2, ph_2i, nI_clamp (n := 2 * m + f) (by omega), cg]
          exact br_f (fun z => absurd (ph_niq (n := 24) (by omega) (by omega) z) (by omega)) ⟨vp_in_nI hs (by decide), vp_in_nI (by omega) (by decide), vp_in_nI hg (by decide), nm_e ⟨rfl, ph_Rreg H (ph_P_u H.1 (H.2.2.2.1 (2 * m + f) (by omega)))⟩⟩
        · have e : m = 24 := by omega
          subst e
          refine br_t rfl (ph_Y1_Register hg (br_f (by decide) (ph_Y1_Register hs (br_f (by decide) (ph_fY1 hf ⟨vp_in_nI hs (by decide), ?_⟩)))))
          rw [cs, e2]
          exact br_t rfl ⟨rfl, H⟩
theorem ph_P_uf {a b : Nat → Int32} {k : Nat} {x y : Int32} (h : ∀ j, j < 48 → ph_P (a (j + 2)) (b j)) (hx : ph_P x y) : ∀ j, j < 48 → ph_P (upd a (k + 2) x (j + 2)) (upd b k y j) := by
  intro j hj
  by_cases e : j = k
  · subst e; rw [pk_us, pk_us]; exact hx
  · rw [pk_un e, pk_un (by omega)]; exact h j hj
theorem i_vc_toField {k : Nat} {u : SX} {v : SY} (I : i_Rel k u v) (hk : k + 4 ≤ 2048) (v1 : Int32) (v2 : Int32) (v3 : Int32) : wpX_toField (fun r u' => wpY_toField (fun r' v' => r' = r ∧ i_Rel (k + 4) u' v') v v1 v2 v3) u v1 v2 v3 := by
  obtain ⟨c, rg, ro, nu, fi, sr, sn, sf, iS, fd, fs⟩ := u
  obtain ⟨nw, th, fl, og, sv, rt, ot, ry, se⟩ := v
  have H : ph_Rel rg ro nu fi sr sn sf iS nw th fl og sv rt ot ry := I
  unfold wpX_toField wpY_toField
  rcases ph_ix v1 4 (by decide) with hb | ⟨s, hs, rfl⟩
  · refine ph_X0_Register hb (br_t rfl ?_)
    rcases ph_ix v3 4 (by decide) with hc | ⟨g, hg, rfl⟩
    · exact ph_Y0_Register hc (br_t rfl ⟨rfl, H⟩)
    · exact ph_Y1_Register hg (br_f (by decide) (ph_Y0_Register hb (br_t rfl ⟨rfl, H⟩)))
  · refine ph_X1_Register hs (br_f (by decide) ?_)
    rcases ph_ix v2 2 (by decide) with hb | ⟨f, hf, rfl⟩
    · refine ph_X0_Field hb (br_t rfl ?_)
      rcases ph_ix v3 4 (by decide) with hc | ⟨g, hg, rfl⟩
      · exact ph_Y0_Register hc (br_t rfl ⟨rfl, H⟩)
      · exact ph_Y1_Register hg (br_f (by decide) (ph_Y1_Register hs (br_f (by decide) (ph_fY0 hb ⟨rfl, H⟩))))
    · refine ph_X1_Field hf (br_f (by decide) ?_)
      rcases ph_ix v3 4 (by decide) with hb | ⟨g, hg, rfl⟩
      · exact ph_X0_Register hb (br_t rfl (ph_Y0_Register hb (br_t rfl ⟨rfl, H⟩)))
      · obtain ⟨m, hm, e1, e2⟩ := H.1 s hs
        have cg : (nI g).toNatClampNeg = g := nI_clamp (by omega)
        have cs : (nI s).toNatClampNeg = s := nI_clamp (by omega)
        refine ph_X1_Register hg (br_f (by decide) ⟨vp_in_nI hs (by decide), nm_r ((congrArg rg cs).trans e1) ?_⟩)
        by_cases l : m < 24
        · have ix : nI (m + 1) * 2 + nI f = nI (2 * m + f + 2) := (ph_i2 (m + 1) f).trans (congrArg nI (by omega))
          rw [ph_fl l, ix, nI_clamp (n := 2 * m + f + 2) (by omega)]
          refine br_f (nI_ne0 (by omega) (by omega)) ⟨vp_in_nI hg (by decide), vp_in_nI (by omega) (by decide), nm_e ?_⟩
          refine ph_Y1_Register hg (br_f (by decide) (ph_Y1_Register hs (br_f (by decide) (ph_fY1 hf ⟨vp_in_nI hs (by decide), ?_⟩))))
          rw [cs, e2, ph_2i, nI_clamp (n := 2 * m + f) (by omega), cg]
          exact br_f (fun z => absurd (ph_niq (n := 24) (by omega) (by omega) z) (by omega)) ⟨vp_in_nI hs (by decide), vp_in_nI hg (by decide), vp_in_nI (by omega) (by decide), nm_e ⟨rfl, ph_Rfield H (ph_P_uf H.2.2.2.1 (H.1 g hg))⟩⟩
        · have e : m = 24 := by omega
          subst e
          refine br_t rfl (ph_Y1_Register hg (br_f (by decide) (ph_Y1_Register hs (br_f (by decide) (ph_fY1 hf ⟨vp_in_nI hs (by decide), ?_⟩)))))
          rw [cs, e2]
          exact br_t rfl ⟨rfl, H⟩
theorem i_vc_make {k : Nat} {u : SX} {v : SY} (I : i_Rel k u v) (hk : k + 4 ≤ 2048) (v1 : Int32) (v2 : Int32) : wpX_make (fun r u' => wpY_make (fun r' v' => r' = r ∧ i_Rel (k + 4) u' v') v v1 v2) u v1 v2 := by
  obtain ⟨c, rg, ro, nu, fi, sr, sn, sf, iS, fd, fs⟩ := u
  obtain ⟨nw, th, fl, og, sv, rt, ot, ry, se⟩ := v
  have H : ph_Rel rg ro nu fi sr sn sf iS nw th fl og sv rt ot ry := I
  unfold wpX_make wpY_make
  rcases ph_ix v1 4 (by decide) with hb | ⟨g, hg, rfl⟩
  · exact ph_X0_Register hb (br_t rfl (ph_Y0_Register hb (br_t rfl ⟨rfl, H⟩)))
  · refine ph_X1_Register hg (br_f (by decide) ?_)
    refine ph_vwn H (fun fd' fs' hF => ?_)
    refine ph_snf (fun ha => ?_) (fun m hm z hl => ?_)
    · refine br_t rfl (ph_Y1_Register hg (br_f (by decide) (ph_vnd H (fun se' hse => ?_))))
      have full : ph_c se' 24 = 24 := ph_c_full 24 (fun j hj => (hse j hj).mpr ((hF.2 j hj).mp (ha j hj)))
      exact br_t (congrArg nI full) ⟨rfl, H⟩
    · refine br_f (nI_ne0 (by omega) (by omega)) ?_
      refine ph_fill hm (fun fi' sf' h1 h2 => ⟨vp_in_nI hg (by decide), nm_e ?_⟩)
      refine ph_Y1_Register hg (br_f (by decide) (ph_vnd H (fun se' hse => ?_)))
      have zs : se' m = 0 := Classical.byContradiction (fun y => (hF.2 m hm).mpr ((hse m hm).mp y) z)
      have ls : ∀ j, j < m → ¬ se' j = 0 := fun j hj => (hse j (by omega)).mpr ((hF.2 j (by omega)).mp (hl j hj))
      have lt := ph_c_lt 24 m hm zs
      refine br_f (fun y => absurd (ph_niq (n := 24) (by omega) (by omega) y) (by omega)) ⟨25, ?_⟩
      refine ph_m28 hg hm zs ls ?_ 24 0 (by omega) (Or.inl hm)
      refine ⟨rfl, ?_⟩
      rw [nI_clamp (n := g) (by omega)]
      exact ph_Rmake H hm h1 h2
end
section
theorem ph_R_mono {S S' : Nat → Prop} {E E' : Nat → Nat → Prop} {m : Nat} (hS : ∀ a, S a → S' a) (hE : ∀ a b, E a b → E' a b) (h : ph_R S E m) : ph_R S' E' m := fun P hs he => h P (fun a ha => hs a (hS a ha)) (fun a b pa e => he a b pa (hE a b e))
theorem ph_E0 {fl fl' og og' sv sv' : Nat → Int32} {a b : Nat} (h2 : ∀ k, k < 48 → fl k = fl' k) (h : ph_E 0 fl og sv a b) : ph_E 0 fl' og' sv' a b := by
  obtain ⟨l, k, hk, ek, ho⟩ := h
  refine ⟨l, k, hk, ek, Or.inl ?_⟩
  rcases ho with ho | ⟨ho, _⟩
  · rw [← h2 k hk]; exact ho
  · exact absurd rfl ho
theorem ph_S10 {rt rt' : Nat → Int32} {a : Nat} (h1 : ∀ r, r < 3 → rt r = rt' r) (h : ph_S1 rt a) : ph_S1 rt' a := by
  obtain ⟨l, r, hr, e⟩ := h
  exact ⟨l, r, hr, by rw [← h1 r hr]; exact e⟩
theorem ph_cg {rt rt' fl fl' og og' sv sv' : Nat → Int32} (h1 : ∀ r, r < 3 → rt r = rt' r) (h2 : ∀ k, k < 48 → fl k = fl' k) (m : Nat) : ph_R (ph_S1 rt) (ph_E 0 fl og sv) m ↔ ph_R (ph_S1 rt') (ph_E 0 fl' og' sv') m :=
  ⟨ph_R_mono (fun _ => ph_S10 h1) (fun _ _ => ph_E0 h2), ph_R_mono (fun _ => ph_S10 (fun r hr => (h1 r hr).symm)) (fun _ _ => ph_E0 (fun k hk => (h2 k hk).symm))⟩
theorem i_vc_save {k : Nat} {u : SX} {v : SY} (I : i_Rel k u v) (hk : k + 4 ≤ 2048) : wpX_save (fun r u' => wpY_save (fun r' v' => r' = r ∧ i_Rel (k + 4) u' v') v) u := by
  obtain ⟨c, rg, ro, nu, fi, sr, sn, sf, iS, fd, fs⟩ := u
  obtain ⟨nw, th, fl, og, sv, rt, ot, ry, se⟩ := v
  have H : ph_Rel rg ro nu fi sr sn sf iS nw th fl og sv rt ot ry := I
  unfold wpX_save
  refine ph_keep (fun sr' sn' iS' sf' h1 h2 h3 h4 => ?_)
  have H0 : ph_Rel rg ro nu fi sr' sn' sf' iS' nw nw fl fl (fun _ => 1) rt rt ry := ph_Rsave H h1 h2 h3 h4 (fun _ _ => rfl) (fun _ _ => rfl) (fun _ _ => rfl) (fun _ _ => rfl)
  refine ph_vcfr H0 (fun fd' fs' hF => ?_)
  refine ph_save (fun th' og' sv' ot' g1 g2 g3 g4 P hP => ?_)
  have H1 := ph_Rsave H h1 h2 h3 h4 g1 g2 g3 g4
  refine ph_vfr H1 (fun se' hse => hP _ _ ⟨?_, H1⟩)
  exact ph_ans hF (fun m hm => (hse m hm).trans (ph_cg (fun _ _ => rfl) (fun _ _ => rfl) m))
theorem i_vc_back {k : Nat} {u : SX} {v : SY} (I : i_Rel k u v) (hk : k + 4 ≤ 2048) : wpX_back (fun r u' => wpY_back (fun r' v' => r' = r ∧ i_Rel (k + 4) u' v') v) u := by
  obtain ⟨c, rg, ro, nu, fi, sr, sn, sf, iS, fd, fs⟩ := u
  obtain ⟨nw, th, fl, og, sv, rt, ot, ry, se⟩ := v
  have H : ph_Rel rg ro nu fi sr sn sf iS nw th fl og sv rt ot ry := I
  unfold wpX_back
  refine ph_rest (fun ro' nu' fi' h1 h0 h2 h3 => ?_)
  have H0 : ph_Rel rg ro' nu' fi' sr sn sf iS (fun k => if sv k = 0 then nw k else th k) th (fun k => if sv (k / 2) = 0 then fl k else og k) og sv ot ot ry := ph_Rback H h1 h0 h2 h3 (fun _ _ => rfl) (fun _ _ => rfl) (fun _ _ => rfl)
  refine ph_vcfr H0 (fun fd' fs' hF => ?_)
  refine ph_back (fun nw' fl' rt' g1 g2 g3 P hP => ?_)
  have H1 := ph_Rback H h1 h0 h2 h3 g1 g2 g3
  refine ph_vfr H1 (fun se' hse => hP _ _ ⟨?_, H1⟩)
  exact ph_ans hF (fun m hm => (hse m hm).trans (ph_cg g3 g2 m))
section
variable {rg ro nu fi sr sn sf iS fd fs nw th fl og sv rt ot ry se : Nat → Int32} {c : Int32}
/-- the component's losing of what isn't saved, and its count -/
theorem ph_xl (H : ph_Rel rg ro nu fi sr sn sf iS nw th fl og sv rt ot ry) {post : Int32 → SX → Prop} (hp : ∀ rg' ro' nu' fi' fd' fs', (∀ nw' fl' rt' ry', (∀ k, k < 24 → nw' k = if sv k = 0 then nw k else th k) → (∀ k, k < 48 → fl' k = if sv (k / 2) = 0 then fl k else og k) → (∀ r, r < 3 → rt' r = ot r) → (∀ g, g < 4 → ry' g = nI 24) → ph_Rel rg' ro' nu' fi' sr sn sf iS nw' th fl' og sv rt' ot ry') → ph_F (ph_S1 ot) (ph_E 0 (fun k => if sv (k / 2) = 0 then fl k else og k) og sv) fd' → post (nI (ph_c fd' 25)) (nI (ph_c fd' 25), rg', ro', nu', fi', sr, sn, sf, iS, fd', fs')) : wX_crash_20 post c rg ro nu fi sr sn sf iS fd fs := by
  unfold wX_crash_20
  refine ph_lose (fun rg' ro' nu' fi' h5 h1 h0 h2 h3 => ?_)
  have Q : ∀ nw' fl' rt' ry', (∀ k, k < 24 → nw' k = if sv k = 0 then nw k else th k) → (∀ k, k < 48 → fl' k = if sv (k / 2) = 0 then fl k else og k) → (∀ r, r < 3 → rt' r = ot r) → (∀ g, g < 4 → ry' g = nI 24) → ph_Rel rg' ro' nu' fi' sr sn sf iS nw' th fl' og sv rt' ot ry' := by
    intro nw' fl' rt' ry' g1 g2 g3 g4
    exact ph_Rreg (ph_Rback H h1 h0 h2 h3 g1 g2 g3) (fun g hg => ph_P24 (h5 g hg) (g4 g hg))
  refine ph_vcfr (Q (fun k => if sv k = 0 then nw k else th k) (fun k => if sv (k / 2) = 0 then fl k else og k) ot (fun _ => nI 24) (fun _ _ => rfl) (fun _ _ => rfl) (fun _ _ => rfl) (fun _ _ => rfl)) (fun fd' fs' hF => ?_)
  exact hp rg' ro' nu' fi' fd' fs' Q hF
theorem ph_xl2 {x : Int32} (H : ph_Rel rg ro nu fi sr sn sf iS nw th fl og sv rt ot ry) {post : Int32 → SX → Prop} (hp : ∀ rg' ro' nu' fi' fd' fs', (∀ nw' fl' rt' ry', (∀ k, k < 24 → nw' k = if sv k = 0 then nw k else th k) → (∀ k, k < 48 → fl' k = if sv (k / 2) = 0 then fl k else og k) → (∀ r, r < 3 → rt' r = ot r) → (∀ g, g < 4 → ry' g = nI 24) → ph_Rel rg' ro' nu' fi' sr sn sf iS nw' th fl' og sv rt' ot ry') → ph_F (ph_S1 ot) (ph_E 0 (fun k => if sv (k / 2) = 0 then fl k else og k) og sv) fd' → post (nI (ph_c fd' 25)) (nI (ph_c fd' 25), rg', ro', nu', fi', sr, sn, sf, iS, fd', fs')) : wpX_collectAndCrash post (c, rg, ro, nu, fi, sr, sn, sf, iS, fd, fs) x := by
  unfold wpX_collectAndCrash
  refine ph_lose (fun rg' ro' nu' fi' h5 h1 h0 h2 h3 => ?_)
  have Q : ∀ nw' fl' rt' ry', (∀ k, k < 24 → nw' k = if sv k = 0 then nw k else th k) → (∀ k, k < 48 → fl' k = if sv (k / 2) = 0 then fl k else og k) → (∀ r, r < 3 → rt' r = ot r) → (∀ g, g < 4 → ry' g = nI 24) → ph_Rel rg' ro' nu' fi' sr sn sf iS nw' th fl' og sv rt' ot ry' := by
    intro nw' fl' rt' ry' g1 g2 g3 g4
    exact ph_Rreg (ph_Rback H h1 h0 h2 h3 g1 g2 g3) (fun g hg => ph_P24 (h5 g hg) (g4 g hg))
  refine ph_vcfr (Q (fun k => if sv k = 0 then nw k else th k) (fun k => if sv (k / 2) = 0 then fl k else og k) ot (fun _ => nI 24) (fun _ _ => rfl) (fun _ _ => rfl) (fun _ _ => rfl) (fun _ _ => rfl)) (fun fd' fs' hF => ?_)
  exact hp rg' ro' nu' fi' fd' fs' Q hF
/-- the reference's crash behind the saving, against the component's -/
theorem ph_yl {rg' ro' nu' fi' fd' ox : Nat → Int32} {fx fy gy : Nat → Int32} {k : Nat} {x : SX} (Q : ∀ nw' fl' rt' ry', (∀ k, k < 24 → nw' k = if sv k = 0 then nw k else th k) → (∀ k, k < 48 → fl' k = if sv (k / 2) = 0 then fl k else og k) → (∀ r, r < 3 → rt' r = ot r) → (∀ g, g < 4 → ry' g = nI 24) → ph_Rel rg' ro' nu' fi' sr sn sf iS nw' th fl' og sv rt' ot ry') (hF : ph_F (ph_S1 ox) (ph_E 0 fx fy gy) fd') (e1 : ∀ r, r < 3 → ot r = ox r) (e2 : ∀ k, k < 48 → (if sv (k / 2) = 0 then fl k else og k) = fx k) (hx : ∀ nw' fl' rt' ry' se', ph_Rel rg' ro' nu' fi' sr sn sf iS nw' th fl' og sv rt' ot ry' → i_Rel k x (nw', th, fl', og, sv, rt', ot, ry', se')) : ∃ n, wY_crash_23 (fun r' v' => r' = nI (ph_c fd' 25) ∧ i_Rel k x v') n 0 nw th fl og sv rt ot ry se := by
  refine ph_cry (fun nw' fl' rt' ry' g1 g2 g3 g4 P hP => ?_)
  have H1 := Q nw' fl' rt' ry' g1 g2 g3 g4
  refine ph_vfr H1 (fun se' hse => hP _ _ ⟨?_, hx nw' fl' rt' ry' se' H1⟩)
  exact ph_ans hF (fun m hm => (hse m hm).trans (ph_cg (fun r hr => (g3 r hr).trans (e1 r hr)) (fun k hk => (g2 k hk).trans (e2 k hk)) m))
end
/-- a saved side that is the present one of the reference, written otherwise -/
theorem ph_Rsv {rg ro nu fi sr sn sf iS nw nw0 fl fl0 rt rt0 ry th' og' sv' ot' : Nat → Int32} (H : ph_Rel rg ro nu fi sr sn sf iS nw nw0 fl fl0 (fun _ => 1) rt rt0 ry) (g1 : ∀ k, k < 24 → th' k = nw0 k) (g2 : ∀ k, k < 24 → sv' k = 1) (g3 : ∀ k, k < 48 → og' k = fl0 k) (g4 : ∀ r, r < 3 → ot' r = rt0 r) : ph_Rel rg ro nu fi sr sn sf iS nw th' fl og' sv' rt ot' ry := by
  obtain ⟨hg, hro, hsr, hf, hn0, hn, hsn, his, hsf, hsf0⟩ := H
  refine ⟨hg, hro, fun r hr => ?_, hf, hn0, hn, fun m hm => ?_, fun m hm => ?_, fun k hk _ => ?_, fun k hk z => ?_⟩
  · rw [g4 r hr]; exact hsr r hr
  · rw [g1 m hm]; exact hsn m hm
  · rw [g2 m hm]; exact his m hm
  · rw [g3 k hk]; exact hsf k hk (show ¬ (1 : Int32) = 0 by decide)
  · rw [g2 (k / 2) (by omega)] at z
    exact absurd z (by decide)
theorem i_vc_crash {k : Nat} {u : SX} {v : SY} (I : i_Rel k u v) (hk : k + 4 ≤ 2048) (v1 : Int32) : wpX_crash (fun r u' => wpY_crash (fun r' v' => r' = r ∧ i_Rel (k + 4) u' v') v v1) u v1 := by
  obtain ⟨c, rg, ro, nu, fi, sr, sn, sf, iS, fd, fs⟩ := u
  obtain ⟨nw, th, fl, og, sv, rt, ot, ry, se⟩ := v
  have H : ph_Rel rg ro nu fi sr sn sf iS nw th fl og sv rt ot ry := I
  unfold wpX_crash wpY_crash
  by_cases z0 : v1 < 0
  · exact br_t z0 (br_t z0 ⟨rfl, H⟩)
  · refine br_f z0 ?_
    by_cases z1 : v1 ≤ 2
    · refine br_t z1 ?_
      by_cases z2 : v1 = 2
      · refine br_t z2 (ph_keep (fun sr' sn' iS' sf' h1 h2 h3 h4 => ?_))
        have H0 : ph_Rel rg ro nu fi sr' sn' sf' iS' nw nw fl fl (fun _ => 1) rt rt ry := ph_Rsave H h1 h2 h3 h4 (fun _ _ => rfl) (fun _ _ => rfl) (fun _ _ => rfl) (fun _ _ => rfl)
        refine ph_xl H0 (fun rg' ro' nu' fi' fd' fs' Q hF => br_f z0 (br_t z1 (br_t z2 ?_)))
        refine ph_save (fun th' og' sv' ot' g1 g2 g3 g4 P hP => ?_)
        have H1 := ph_Rsave H h1 h2 h3 h4 g1 g2 g3 g4
        refine ph_vfr H1 (fun se' hse => hP _ _ ?_)
        refine ph_yl (fun nw' fl' rt' ry' q1 q2 q3 q4 => ?_) hF g4 (fun j hj => ?_) (fun nw' fl' rt' ry' se' h => h)
        · have H2 := Q nw' fl' rt' ry' (fun j hj => ?_) (fun j hj => ?_) (fun r hr => (q3 r hr).trans (g4 r hr)) q4
          · exact ph_Rsv H2 g1 g2 g3 g4
          · rw [q1 j hj, g2 j hj, g1 j hj]
          · rw [q2 j hj, g2 (j / 2) (by omega), g3 j hj]
        · rw [g2 (j / 2) (by omega), g3 j hj]
      · refine br_f z2 (ph_xl H (fun rg' ro' nu' fi' fd' fs' Q hF => br_f z0 (br_t z1 (br_f z2 ?_))))
        exact ph_yl Q hF (fun _ _ => rfl) (fun _ _ => rfl) (fun nw' fl' rt' ry' se' h => h)
    · exact br_f z1 (br_f z0 (br_f z1 ⟨rfl, H⟩))
theorem i_vc_collectAndCrash {k : Nat} {u : SX} {v : SY} (I : i_Rel k u v) (hk : k + 4 ≤ 2048) (v1 : Int32) : wpX_collectAndCrash (fun r u' => wpY_collectAndCrash (fun r' v' => r' = r ∧ i_Rel (k + 4) u' v') v v1) u v1 := by
  obtain ⟨c, rg, ro, nu, fi, sr, sn, sf, iS, fd, fs⟩ := u
  obtain ⟨nw, th, fl, og, sv, rt, ot, ry, se⟩ := v
  have H : ph_Rel rg ro nu fi sr sn sf iS nw th fl og sv rt ot ry := I
  have d1 : ¬ (0 : Int32) < 0 := by decide
  have d2 : (0 : Int32) ≤ 2 := by decide
  have d3 : ¬ (0 : Int32) = 2 := by decide
  refine ph_xl2 H (fun rg' ro' nu' fi' fd' fs' Q hF => ?_)
  unfold wpY_collectAndCrash wpY_crash
  refine br_f d1 (br_t d2 (br_f d3 ?_))
  exact ph_yl Q hF (fun _ _ => rfl) (fun _ _ => rfl) (fun nw' fl' rt' ry' se' h => h)
theorem i_vc_collect {k : Nat} {u : SX} {v : SY} (I : i_Rel k u v) (hk : k + 4 ≤ 2048) : wpX_collect (fun r u' => wpY_collect (fun r' v' => r' = r ∧ i_Rel (k + 4) u' v') v) u := by
  obtain ⟨c, rg, ro, nu, fi, sr, sn, sf, iS, fd, fs⟩ := u
  obtain ⟨nw, th, fl, og, sv, rt, ot, ry, se⟩ := v
  have H : ph_Rel rg ro nu fi sr sn sf iS nw th fl og sv rt ot ry := I
  unfold wpX_collect wpY_collect
  exact ph_vwn H (fun fd' fs' hF => ph_vnd H (fun se' hse => ⟨ph_ans hF hse, H⟩))
theorem i_vc_needed {k : Nat} {u : SX} {v : SY} (I : i_Rel k u v) (hk : k + 4 ≤ 2048) : wpX_needed (fun r u' => wpY_needed (fun r' v' => r' = r ∧ i_Rel (k + 4) u' v') v) u := by
  obtain ⟨c, rg, ro, nu, fi, sr, sn, sf, iS, fd, fs⟩ := u
  obtain ⟨nw, th, fl, og, sv, rt, ot, ry, se⟩ := v
  have H : ph_Rel rg ro nu fi sr sn sf iS nw th fl og sv rt ot ry := I
  unfold wpX_needed wpY_needed
  exact ph_vwn H (fun fd' fs' hF => ph_vnd H (fun se' hse => ⟨ph_ans hF hse, H⟩))
end
section
theorem i_vc_reach {k : Nat} {u : SX} {v : SY} (I : i_Rel k u v) (hk : k + 4 ≤ 2048) (v1 : Int32) : wpX_reach (fun r u' => wpY_reach (fun r' v' => r' = r ∧ i_Rel (k + 4) u' v') v v1) u v1 := by
  obtain ⟨c, rg, ro, nu, fi, sr, sn, sf, iS, fd, fs⟩ := u
  obtain ⟨nw, th, fl, og, sv, rt, ot, ry, se⟩ := v
  have H : ph_Rel rg ro nu fi sr sn sf iS nw th fl og sv rt ot ry := I
  have hf := H.2.2.2.1
  have hsf := H.2.2.2.2.2.2.2.2.1
  unfold wpX_reach wpY_reach
  rcases ph_ix v1 3 (by decide) with hb | ⟨q, hq, rfl⟩
  · exact ph_X0_Root hb (br_t rfl (ph_Y0_Root hb (br_t rfl ⟨rfl, H⟩)))
  · obtain ⟨m, hm, e1, e2⟩ := H.2.1 q hq
    have cq : (nI q).toNatClampNeg = q := nI_clamp (by omega)
    refine ph_X1_Root hq (br_f (by decide) (ph_start (fun fd0 z0 => ⟨vp_in_nI hq (by decide), ?_⟩)))
    rw [cq, e1]
    have w0 : ph_W (ph_R (fun a => a < 24 ∧ a = m) (ph_E 0 fl og sv)) fd0 fs 0 := ph_W_0 z0
    refine ph_find w0 hm (fun l => ph_R_s ⟨l, rfl⟩) (fun c1 fd1 fs1 w1 x1 f1 => ?_)
    refine ph_wp w1 (ph_E_fin hf) (ph_E_h2 hf) (fun c3 fd3 fs3 w3 x3 d3 => ?_)
    have en := ph_end (fun a b h => h.1) (fun a ha => by
      obtain ⟨la, e⟩ := ha
      subst e
      exact ⟨la, x3.2.1 _ (f1 la)⟩) w3 d3
    refine ph_Y1_Root hq (br_f (by decide) (ph_forget (fun se0 y0 => ⟨vp_in_nI hq (by decide), ?_⟩)))
    rw [e2, nI_clamp (n := m) (by omega)]
    refine ⟨vp_in_nI (by omega) (by decide), nm_e ?_⟩
    refine ph_follow (S := fun a => a < 24 ∧ a = m) (fun k hk => ph_Py (hf k hk)) (fun k hk z => ph_Py (hsf k hk z)) (ph_so_u (ph_so_0 y0) (fun l => ph_R_s ⟨l, rfl⟩)) (fun a ha => ⟨ha.1, by rw [ha.2]; exact ph_at_u ph_n1z⟩) (fun se' hse => ⟨?_, H⟩)
    rw [w3.2.1]
    exact ph_ans ⟨w3.1, en⟩ hse
end
