/-- how many of the first n cells are not 0 -/
def ph_c (s : Nat → Int32) : Nat → Nat
  | 0 => 0
  | n + 1 => ph_c s n + (if s n = 0 then 0 else 1)
theorem ph_c_s (s : Nat → Int32) (n : Nat) : ph_c s (n + 1) = ph_c s n + (if s n = 0 then 0 else 1) := rfl
theorem ph_c_le (s : Nat → Int32) : ∀ n, ph_c s n ≤ n := by
  intro n
  induction n with
  | zero => exact Nat.le_refl 0
  | succ n ih => rw [ph_c_s]; split <;> omega
theorem ph_c_lt {s : Nat → Int32} : ∀ n j, j < n → s j = 0 → ph_c s n < n := by
  intro n
  induction n with
  | zero => intro j h; omega
  | succ n ih =>
    intro j h z
    rw [ph_c_s]
    by_cases e : j = n
    · subst e; rw [if_pos z]; have := ph_c_le s j; omega
    · have := ih j (by omega) z; split <;> omega
theorem ph_c_full {s : Nat → Int32} : ∀ n, (∀ j, j < n → ¬ s j = 0) → ph_c s n = n := by
  intro n
  induction n with
  | zero => intro _; rfl
  | succ n ih =>
    intro h
    rw [ph_c_s, if_neg (h n (by omega)), ih (fun j hj => h j (by omega))]
theorem ph_c_congr {s t : Nat → Int32} : ∀ n, (∀ j, j < n → (s j = 0 ↔ t j = 0)) → ph_c s n = ph_c t n := by
  intro n
  induction n with
  | zero => intro _; rfl
  | succ n ih =>
    intro h
    rw [ph_c_s, ph_c_s, ih (fun j hj => h j (by omega))]
    by_cases z : s n = 0
    · rw [if_pos z, if_pos ((h n (by omega)).mp z)]
    · rw [if_neg z, if_neg (fun y => z ((h n (by omega)).mpr y))]
theorem ph_c_upd {s : Nat → Int32} {k : Nat} {x : Int32} (z : s k = 0) (hx : ¬ x = 0) : ∀ n, k < n → ph_c (upd s k x) n = ph_c s n + 1 := by
  intro n
  induction n with
  | zero => intro h; omega
  | succ n ih =>
    intro h
    rw [ph_c_s, ph_c_s]
    by_cases e : k = n
    · subst e
      have h1 : ph_c (upd s k x) k = ph_c s k := ph_c_congr k (fun j hj => by
        have : upd s k x j = s j := if_neg (by omega)
        rw [this])
      have h2 : upd s k x k = x := if_pos rfl
      rw [h1, h2, if_neg hx, if_pos z]
    · have h2 : upd s k x n = s n := if_neg (fun y => e y.symm)
      rw [ih (by omega), h2]; omega
theorem ph_c_mono {s t : Nat → Int32} : ∀ n, (∀ j, j < n → t j = 0 → s j = 0) → ph_c s n ≤ ph_c t n := by
  intro n
  induction n with
  | zero => intro _; exact Nat.le_refl 0
  | succ n ih =>
    intro h
    have i := ih (fun j hj => h j (by omega))
    rw [ph_c_s, ph_c_s]
    by_cases z : t n = 0
    · rw [if_pos z, if_pos (h n (by omega) z)]; omega
    · rw [if_neg z]; split <;> omega
theorem ph_c_same {s t : Nat → Int32} : ∀ n, (∀ j, j < n → t j = 0 → s j = 0) → ph_c t n ≤ ph_c s n → ∀ j, j < n → s j = 0 → t j = 0 := by
  intro n
  induction n with
  | zero => intro _ _ j hj; omega
  | succ n ih =>
    intro h hle j hj z
    have m := ph_c_mono n (fun j hj => h j (by omega))
    rw [ph_c_s, ph_c_s] at hle
    by_cases y : t n = 0
    · by_cases e : j = n
      · subst e; exact y
      · rw [if_pos y, if_pos (h n (by omega) y)] at hle
        exact ih (fun j hj => h j (by omega)) (by omega) j (by omega) z
    · rw [if_neg y] at hle
      by_cases w : s n = 0
      · rw [if_pos w] at hle; omega
      · rw [if_neg w] at hle
        by_cases e : j = n
        · subst e; exact absurd z w
        · exact ih (fun j hj => h j (by omega)) (by omega) j (by omega) z
theorem ph_c_shift {f s : Nat → Int32} (h0 : f 0 = 0) : ∀ n, (∀ j, j < n → (f (j + 1) = 0 ↔ s j = 0)) → ph_c f (n + 1) = ph_c s n := by
  intro n
  induction n with
  | zero => intro _; show ph_c f 0 + (if f 0 = 0 then 0 else 1) = 0; rw [if_pos h0]; rfl
  | succ n ih =>
    intro h
    rw [ph_c_s f (n + 1), ph_c_s s n, ih (fun j hj => h j (by omega))]
    by_cases z : s n = 0
    · rw [if_pos z, if_pos ((h n (by omega)).mpr z)]
    · rw [if_neg z, if_neg (fun y => z ((h n (by omega)).mp y))]
/-- the least set that holds the seeds S and is closed under E -/
def ph_R (S : Nat → Prop) (E : Nat → Nat → Prop) (x : Nat) : Prop := ∀ P : Nat → Prop, (∀ a, S a → P a) → (∀ a b, P a → E a b → P b) → P x
theorem ph_R_s {S : Nat → Prop} {E : Nat → Nat → Prop} {a : Nat} (h : S a) : ph_R S E a := fun _ hS _ => hS a h
theorem ph_R_e {S : Nat → Prop} {E : Nat → Nat → Prop} {a b : Nat} (h : ph_R S E a) (e : E a b) : ph_R S E b := fun P hS hE => hE a b (h P hS hE) e
/-- slot 24 of the reference (nothing) is slot 0 of the component; any other is one further -/
def ph_f (m : Nat) : Nat := if m = 24 then 0 else m + 1
theorem ph_f24 : ph_f 24 = 0 := rfl
theorem ph_fl {m : Nat} (h : m < 24) : ph_f m = m + 1 := if_neg (by omega)
theorem ph_fle {m : Nat} (h : m ≤ 24) : ph_f m ≤ 24 := by unfold ph_f; split <;> omega
theorem ph_f0 {m : Nat} : ph_f m = 0 ↔ m = 24 := by unfold ph_f; split <;> omega
theorem ph_finj {m n : Nat} (h : ph_f m = ph_f n) : m = n := by
  unfold ph_f at h; split at h <;> split at h <;> omega
/-- x in the component refers to what y in the reference refers to -/
def ph_P (x y : Int32) : Prop := ∃ m, m ≤ 24 ∧ x = nI (ph_f m) ∧ y = nI m
