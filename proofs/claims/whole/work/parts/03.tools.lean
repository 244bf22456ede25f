theorem pk_us {f : Nat → Int32} {k : Nat} {x : Int32} : upd f k x k = x := if_pos rfl
theorem pk_un {f : Nat → Int32} {k j : Nat} {x : Int32} (h : j ≠ k) : upd f k x j = f j := if_neg h
theorem pk_m1 (n : Nat) : nI (n + 1) + (-1) = nI n := by
  rw [← nI_1, Int32.add_assoc, show (1 : Int32) + (-1) = 0 from rfl, Int32.add_zero]
theorem pk_mul (a b : Nat) : nI a * nI b = nI (a * b) := (Int32.ofNat_mul a b).symm
theorem pk_div {a d : Nat} (ha : a < 2 ^ 31) (h0 : 0 < d) (hd : d < 2 ^ 31) : nI a / nI d = nI (a / d) := by
  apply Int32.toInt_inj.mp
  rw [lg_idiv_nonneg (by rw [nI_toInt ha]; omega) (by rw [nI_toInt hd]; omega), nI_toInt ha, nI_toInt hd, nI_toInt (Nat.lt_of_le_of_lt (Nat.div_le_self a d) ha)]
  first | rfl | exact (Int.natCast_ediv _ _).symm
theorem pk_ix (x : Int32) {n : Nat} (hn : n < 2 ^ 31) : x < 0 ∨ nI n ≤ x ∨ ∃ j : Nat, j < n ∧ x = nI j := by
  by_cases h : x < 0
  · exact Or.inl h
  · obtain ⟨j, hj, rfl⟩ := nI_of h
    by_cases h2 : j < n
    · exact Or.inr (Or.inr ⟨j, h2, rfl⟩)
    · exact Or.inr (Or.inl (nI_le (by omega) hj))
theorem pk_loop {σ : Type} (W : Nat → Nat → σ → Prop) (I : Nat → σ → Prop) (e i0 : Nat) (s : σ) (hi : i0 ≤ e) (h0 : I i0 s) (hx : ∀ n s, I e s → W (n + 1) e s)
    (hs : ∀ n i s, i < e → I i s → (∀ s', I (i + 1) s' → W n (i + 1) s') → W (n + 1) i s) : ∃ n, W n i0 s :=
  ⟨e + 1, loop_i W I e hx hs (e + 1) i0 s hi (by omega) h0⟩
theorem ph_n1 : vp_nar .boolean 1 = 1 := by decide +kernel
theorem ph_n0 : vp_nar .boolean 0 = 0 := by decide +kernel
theorem ph_n1z : ¬ vp_nar .boolean 1 = 0 := by rw [ph_n1]; decide
/-- one cell written: what holds of the cell and of all others holds of all -/
theorem ph_u {f : Nat → Int32} {k : Nat} {x : Int32} {Q : Nat → Int32 → Prop} (hk : Q k x) (h : ∀ j, ¬ j = k → Q j (f j)) : ∀ j, Q j (upd f k x j) := by
  intro j
  by_cases e : j = k
  · subst e; rw [pk_us]; exact hk
  · rw [pk_un e]; exact h j e
theorem ph_i2 (m i : Nat) : nI m * 2 + nI i = nI (m * 2 + i) := by
  rw [show (2 : Int32) = nI 2 from rfl, pk_mul, nI_add]
theorem ph_2i (m i : Nat) : 2 * nI m + nI i = nI (2 * m + i) := by
  rw [show (2 : Int32) = nI 2 from rfl, pk_mul, nI_add]
theorem ph_2m (m : Nat) : 2 * nI m = nI (2 * m) := by
  rw [show (2 : Int32) = nI 2 from rfl, pk_mul]
theorem ph_h2 {k : Nat} (h : k < 2 ^ 31) : nI k / 2 = nI (k / 2) := pk_div h (by decide) (by decide)
theorem ph_finj2 {m n : Nat} (hm : m ≤ 24) (hn : n ≤ 24) (h : nI (ph_f m) = nI (ph_f n)) : m = n := by
  have a := ph_fle hm
  have b := ph_fle hn
  exact ph_finj ((nI_eq (by omega) (by omega)).mp h)
theorem ph_niq {m n : Nat} (hm : m ≤ 50) (hn : n ≤ 50) (h : nI m = nI n) : m = n := (nI_eq (by omega) (by omega)).mp h
