theorem ph_init_75 {post : SY → Prop} {nw th fl og sv rt ot ry se : Nat → Int32} (ex : ∀ n s, (∀ k, k < 3 → s k = nI 24) → wY_init_75 post (n + 1) (nI 3) nw th fl og sv s ot ry se) : ∃ n, wY_init_75 post n 0 nw th fl og sv rt ot ry se := by
  refine loop_0 (fun n i s => wY_init_75 post n (nI i) nw th fl og sv s ot ry se) (fun i s => ∀ k, k < i → s k = nI 24) 3 rt (fun k h => absurd h (by omega)) ex ?_
  intro n i s hi h k
  refine br_f (nI_ge (b := 3) hi (by decide)) ⟨vp_in_nI hi (by decide), ?_⟩
  rw [nI_clamp (n := i) (by omega)]
  refine nm_e (nm_r (nI_1 i) (k _ (fun j hj => ?_)))
  by_cases e : j = i
  · subst e; exact pk_us
  · rw [pk_un e]; exact h j (by omega)
theorem ph_init_96 {post : SY → Prop} {nw th fl og sv rt ot ry se : Nat → Int32} (ex : ∀ n s, (∀ k, k < 3 → s k = nI 24) → wY_init_96 post (n + 1) (nI 3) nw th fl og sv rt s ry se) : ∃ n, wY_init_96 post n 0 nw th fl og sv rt ot ry se := by
  refine loop_0 (fun n i s => wY_init_96 post n (nI i) nw th fl og sv rt s ry se) (fun i s => ∀ k, k < i → s k = nI 24) 3 ot (fun k h => absurd h (by omega)) ex ?_
  intro n i s hi h k
  refine br_f (nI_ge (b := 3) hi (by decide)) ⟨vp_in_nI hi (by decide), ?_⟩
  rw [nI_clamp (n := i) (by omega)]
  refine nm_e (nm_r (nI_1 i) (k _ (fun j hj => ?_)))
  by_cases e : j = i
  · subst e; exact pk_us
  · rw [pk_un e]; exact h j (by omega)
theorem ph_init_117 {post : SY → Prop} {nw th fl og sv rt ot ry se : Nat → Int32} (ex : ∀ n s, (∀ k, k < 4 → s k = nI 24) → wY_init_117 post (n + 1) (nI 4) nw th fl og sv rt ot s se) : ∃ n, wY_init_117 post n 0 nw th fl og sv rt ot ry se := by
  refine loop_0 (fun n i s => wY_init_117 post n (nI i) nw th fl og sv rt ot s se) (fun i s => ∀ k, k < i → s k = nI 24) 4 ry (fun k h => absurd h (by omega)) ex ?_
  intro n i s hi h k
  refine br_f (nI_ge (b := 4) hi (by decide)) ⟨vp_in_nI hi (by decide), ?_⟩
  rw [nI_clamp (n := i) (by omega)]
  refine nm_e (nm_r (nI_1 i) (k _ (fun j hj => ?_)))
  by_cases e : j = i
  · subst e; exact pk_us
  · rw [pk_un e]; exact h j (by omega)
theorem ph_init_138 {post : SY → Prop} {nw th fl og sv rt ot ry se : Nat → Int32} (ex : ∀ n s, (∀ k, k < 48 → s k = nI 24) → wY_init_138 post (n + 1) (nI 48) nw th s og sv rt ot ry se) : ∃ n, wY_init_138 post n 0 nw th fl og sv rt ot ry se := by
  refine loop_0 (fun n i s => wY_init_138 post n (nI i) nw th s og sv rt ot ry se) (fun i s => ∀ k, k < i → s k = nI 24) 48 fl (fun k h => absurd h (by omega)) ex ?_
  intro n i s hi h k
  refine br_f (nI_ge (b := 48) hi (by decide)) ⟨vp_in_nI hi (by decide), ?_⟩
  rw [nI_clamp (n := i) (by omega)]
  refine nm_e (nm_r (nI_1 i) (k _ (fun j hj => ?_)))
  by_cases e : j = i
  · subst e; exact pk_us
  · rw [pk_un e]; exact h j (by omega)
theorem ph_init_160 {post : SY → Prop} {nw th fl og sv rt ot ry se : Nat → Int32} (ex : ∀ n s, (∀ k, k < 48 → s k = nI 24) → wY_init_160 post (n + 1) (nI 48) nw th fl s sv rt ot ry se) : ∃ n, wY_init_160 post n 0 nw th fl og sv rt ot ry se := by
  refine loop_0 (fun n i s => wY_init_160 post n (nI i) nw th fl s sv rt ot ry se) (fun i s => ∀ k, k < i → s k = nI 24) 48 og (fun k h => absurd h (by omega)) ex ?_
  intro n i s hi h k
  refine br_f (nI_ge (b := 48) hi (by decide)) ⟨vp_in_nI hi (by decide), ?_⟩
  rw [nI_clamp (n := i) (by omega)]
  refine nm_e (nm_r (nI_1 i) (k _ (fun j hj => ?_)))
  by_cases e : j = i
  · subst e; exact pk_us
  · rw [pk_un e]; exact h j (by omega)
theorem ph_initY {post : SY → Prop} (hp : ∀ rt ot ry fl og : Nat → Int32, (∀ k, k < 3 → rt k = nI 24) → (∀ k, k < 3 → ot k = nI 24) → (∀ k, k < 4 → ry k = nI 24) → (∀ k, k < 48 → fl k = nI 24) → (∀ k, k < 48 → og k = nI 24) → post ((fun _ => 0), (fun _ => 0), fl, og, (fun _ => 0), rt, ot, ry, (fun _ => 0))) : wpY_init post := by
  refine ph_init_75 (fun n1 rt h1 => br_t (nI_le (a := 3) (b := 3) (by decide) (by decide)) ?_)
  refine ph_init_96 (fun n2 ot h2 => br_t (nI_le (a := 3) (b := 3) (by decide) (by decide)) ?_)
  refine ph_init_117 (fun n3 ry h3 => br_t (nI_le (a := 4) (b := 4) (by decide) (by decide)) ?_)
  refine ph_init_138 (fun n4 fl h4 => br_t (nI_le (a := 48) (b := 48) (by decide) (by decide)) ?_)
  refine ph_init_160 (fun n5 og h5 => br_t (nI_le (a := 48) (b := 48) (by decide) (by decide)) ?_)
  exact hp rt ot ry fl og h1 h2 h3 h4 h5
theorem ph_save_61 {post : Int32 → SY → Prop} {nw th fl og sv rt ot ry se : Nat → Int32} (ex : ∀ n s, (∀ k, k < 3 → s k = rt k) → wY_save_61 post (n + 1) (nI 3) nw th fl og sv rt s ry se) : ∃ n, wY_save_61 post n 0 nw th fl og sv rt ot ry se := by
  refine loop_0 (fun n i s => wY_save_61 post n (nI i) nw th fl og sv rt s ry se) (fun i s => ∀ k, k < i → s k = rt k) 3 ot (fun k h => absurd h (by omega)) ex ?_
  intro n i s hi h k
  refine br_f (nI_ge (b := 3) hi (by decide)) ⟨vp_in_nI hi (by decide), vp_in_nI hi (by decide), ?_⟩
  rw [nI_clamp (n := i) (by omega)]
  refine nm_e (nm_r (nI_1 i) (k _ (fun j hj => ?_)))
  by_cases e : j = i
  · subst e; exact pk_us
  · rw [pk_un e]; exact h j (by omega)
theorem ph_save_35 {post : Int32 → SY → Prop} {nw th fl og sv rt ot ry se : Nat → Int32} (ex : ∀ n s, (∀ k, k < 48 → s k = fl k) → wY_save_35 post (n + 1) (nI 48) nw th fl s sv rt ot ry se) : ∃ n, wY_save_35 post n 0 nw th fl og sv rt ot ry se := by
  refine loop_0 (fun n i s => wY_save_35 post n (nI i) nw th fl s sv rt ot ry se) (fun i s => ∀ k, k < i → s k = fl k) 48 og (fun k h => absurd h (by omega)) ex ?_
  intro n i s hi h k
  refine br_f (nI_ge (b := 48) hi (by decide)) ⟨vp_in_nI hi (by decide), vp_in_nI hi (by decide), ?_⟩
  rw [nI_clamp (n := i) (by omega)]
  refine nm_e (nm_r (nI_1 i) (k _ (fun j hj => ?_)))
  by_cases e : j = i
  · subst e; exact pk_us
  · rw [pk_un e]; exact h j (by omega)
theorem ph_back_74 {post : Int32 → SY → Prop} {nw th fl og sv rt ot ry se : Nat → Int32} (ex : ∀ n s, (∀ k, k < 3 → s k = ot k) → wY_back_74 post (n + 1) (nI 3) nw th fl og sv s ot ry se) : ∃ n, wY_back_74 post n 0 nw th fl og sv rt ot ry se := by
  refine loop_0 (fun n i s => wY_back_74 post n (nI i) nw th fl og sv s ot ry se) (fun i s => ∀ k, k < i → s k = ot k) 3 rt (fun k h => absurd h (by omega)) ex ?_
  intro n i s hi h k
  refine br_f (nI_ge (b := 3) hi (by decide)) ⟨vp_in_nI hi (by decide), vp_in_nI hi (by decide), ?_⟩
  rw [nI_clamp (n := i) (by omega)]
  refine nm_e (nm_r (nI_1 i) (k _ (fun j hj => ?_)))
  by_cases e : j = i
  · subst e; exact pk_us
  · rw [pk_un e]; exact h j (by omega)
theorem ph_save_2 {post : Int32 → SY → Prop} {nw th fl og sv rt ot ry se : Nat → Int32} (ex : ∀ n th' sv', (∀ k, k < 24 → th' k = nw k) → (∀ k, k < 24 → sv' k = 1) → wY_save_2 post (n + 1) (nI 24) nw th' fl og sv' rt ot ry se) : ∃ n, wY_save_2 post n 0 nw th fl og sv rt ot ry se := by
  refine loop_0 (fun n i (s : (Nat → Int32) × (Nat → Int32)) => wY_save_2 post n (nI i) nw s.1 fl og s.2 rt ot ry se) (fun i s => ∀ k, k < i → s.1 k = nw k ∧ s.2 k = 1) 24 (th, sv) (fun k h => absurd h (by omega)) (fun n s h => ex n s.1 s.2 (fun k hk => (h k hk).1) (fun k hk => (h k hk).2)) ?_
  intro n i s hi h k
  refine br_f (nI_ge (b := 24) hi (by decide)) ⟨vp_in_nI hi (by decide), vp_in_nI hi (by decide), ?_⟩
  rw [nI_clamp (n := i) (by omega), ph_n1]
  refine nm_e ⟨vp_in_nI hi (by decide), nm_e (nm_r (nI_1 i) (k (upd s.1 i (nw i), upd s.2 i 1) (fun j hj => ?_)))⟩
  show upd s.1 i (nw i) j = nw j ∧ upd s.2 i 1 j = 1
  by_cases e : j = i
  · subst e; exact ⟨pk_us, pk_us⟩
  · rw [pk_un e, pk_un e]; exact h j (by omega)
theorem ph_save {post : Int32 → SY → Prop} {nw th fl og sv rt ot ry se : Nat → Int32} (hp : ∀ th' og' sv' ot', (∀ k, k < 24 → th' k = nw k) → (∀ k, k < 24 → sv' k = 1) → (∀ k, k < 48 → og' k = fl k) → (∀ r, r < 3 → ot' r = rt r) → ∀ P : Int32 → SY → Prop, (∀ r se', post r (nw, th', fl, og', sv', rt, ot', ry, se') → P r (nw, th', fl, og', sv', rt, ot', ry, se')) → wpY_fromRoots P (nw, th', fl, og', sv', rt, ot', ry, se)) : wpY_save post (nw, th, fl, og, sv, rt, ot, ry, se) := by
  refine ph_save_2 (fun n1 th' sv' h1 h2 => br_t (nI_le (a := 24) (b := 24) (by decide) (by decide)) ?_)
  refine ph_save_35 (fun n2 og' h3 => br_t (nI_le (a := 48) (b := 48) (by decide) (by decide)) ?_)
  refine ph_save_61 (fun n3 ot' h4 => br_t (nI_le (a := 3) (b := 3) (by decide) (by decide)) ?_)
  exact hp th' og' sv' ot' h1 h2 h3 h4 _ (fun r se' h => h)
theorem ph_back_2 {post : Int32 → SY → Prop} {nw th fl og sv rt ot ry se : Nat → Int32} (ex : ∀ n s, (∀ k, k < 24 → s k = if sv k = 0 then nw k else th k) → wY_back_2 post (n + 1) (nI 24) s th fl og sv rt ot ry se) : ∃ n, wY_back_2 post n 0 nw th fl og sv rt ot ry se := by
  refine loop_0 (fun n i s => wY_back_2 post n (nI i) s th fl og sv rt ot ry se) (fun i s => (∀ k, k < i → s k = if sv k = 0 then nw k else th k) ∧ (∀ k, i ≤ k → s k = nw k)) 24 nw ⟨fun k h => absurd h (by omega), fun _ _ => rfl⟩ (fun n s h => ex n s h.1) ?_
  intro n i s hi h k
  refine br_f (nI_ge (b := 24) hi (by decide)) ⟨vp_in_nI hi (by decide), ?_⟩
  rw [nI_clamp (n := i) (by omega)]
  by_cases z : sv i = 0
  · refine br_t z (nm_r (nI_1 i) (k s ⟨fun j hj => ?_, fun j hj => h.2 j (by omega)⟩))
    by_cases e : j = i
    · subst e; rw [if_pos z]; exact h.2 j (by omega)
    · exact h.1 j (by omega)
  · refine br_f z ⟨vp_in_nI hi (by decide), vp_in_nI hi (by decide), nm_e (nm_r (nI_1 i) (k _ ⟨fun j hj => ?_, fun j hj => ?_⟩))⟩
    · by_cases e : j = i
      · subst e; rw [if_neg z]; exact pk_us
      · rw [pk_un e]; exact h.1 j (by omega)
    · rw [pk_un (by omega)]; exact h.2 j (by omega)
theorem ph_back_37 {post : Int32 → SY → Prop} {nw th fl og sv rt ot ry se : Nat → Int32} (ex : ∀ n s, (∀ k, k < 48 → s k = if sv (k / 2) = 0 then fl k else og k) → wY_back_37 post (n + 1) (nI 48) nw th s og sv rt ot ry se) : ∃ n, wY_back_37 post n 0 nw th fl og sv rt ot ry se := by
  refine loop_0 (fun n i s => wY_back_37 post n (nI i) nw th s og sv rt ot ry se) (fun i s => (∀ k, k < i → s k = if sv (k / 2) = 0 then fl k else og k) ∧ (∀ k, i ≤ k → s k = fl k)) 48 fl ⟨fun k h => absurd h (by omega), fun _ _ => rfl⟩ (fun n s h => ex n s h.1) ?_
  intro n i s hi h k
  have d : nI i / 2 = nI (i / 2) := ph_h2 (by omega)
  refine br_f (nI_ge (b := 48) hi (by decide)) ⟨by decide, by rw [d]; exact vp_in_nI (by omega) (by decide), ?_⟩
  rw [d, nI_clamp (n := i / 2) (by omega), nI_clamp (n := i) (by omega)]
  by_cases z : sv (i / 2) = 0
  · refine br_t z (nm_r (nI_1 i) (k s ⟨fun j hj => ?_, fun j hj => h.2 j (by omega)⟩))
    by_cases e : j = i
    · subst e; rw [if_pos z]; exact h.2 j (by omega)
    · exact h.1 j (by omega)
  · refine br_f z ⟨vp_in_nI hi (by decide), vp_in_nI hi (by decide), nm_e (nm_r (nI_1 i) (k _ ⟨fun j hj => ?_, fun j hj => ?_⟩))⟩
    · by_cases e : j = i
      · subst e; rw [if_neg z]; exact pk_us
      · rw [pk_un e]; exact h.1 j (by omega)
    · rw [pk_un (by omega)]; exact h.2 j (by omega)
theorem ph_back {post : Int32 → SY → Prop} {nw th fl og sv rt ot ry se : Nat → Int32} (hp : ∀ nw' fl' rt', (∀ k, k < 24 → nw' k = if sv k = 0 then nw k else th k) → (∀ k, k < 48 → fl' k = if sv (k / 2) = 0 then fl k else og k) → (∀ r, r < 3 → rt' r = ot r) → ∀ P : Int32 → SY → Prop, (∀ r se', post r (nw', th, fl', og, sv, rt', ot, ry, se') → P r (nw', th, fl', og, sv, rt', ot, ry, se')) → wpY_fromRoots P (nw', th, fl', og, sv, rt', ot, ry, se)) : wpY_back post (nw, th, fl, og, sv, rt, ot, ry, se) := by
  refine ph_back_2 (fun n1 nw' h1 => br_t (nI_le (a := 24) (b := 24) (by decide) (by decide)) ?_)
  refine ph_back_37 (fun n2 fl' h2 => br_t (nI_le (a := 48) (b := 48) (by decide) (by decide)) ?_)
  refine ph_back_74 (fun n3 rt' h3 => br_t (nI_le (a := 3) (b := 3) (by decide) (by decide)) ?_)
  exact hp nw' fl' rt' h1 h2 h3 _ (fun r se' h => h)
theorem ph_crash_23 {post : Int32 → SY → Prop} {nw th fl og sv rt ot ry se : Nat → Int32} (ex : ∀ n s, (∀ k, k < 4 → s k = nI 24) → wY_crash_23 post (n + 1) (nI 4) nw th fl og sv rt ot s se) : ∃ n, wY_crash_23 post n 0 nw th fl og sv rt ot ry se := by
  refine loop_0 (fun n i s => wY_crash_23 post n (nI i) nw th fl og sv rt ot s se) (fun i s => ∀ k, k < i → s k = nI 24) 4 ry (fun k h => absurd h (by omega)) ex ?_
  intro n i s hi h k
  refine br_f (nI_ge (b := 4) hi (by decide)) ⟨vp_in_nI hi (by decide), ?_⟩
  rw [nI_clamp (n := i) (by omega)]
  refine nm_e (nm_r (nI_1 i) (k _ (fun j hj => ?_)))
  by_cases e : j = i
  · subst e; exact pk_us
  · rw [pk_un e]; exact h j (by omega)
/-- the registers cleared, then back -/
theorem ph_cry {post : Int32 → SY → Prop} {nw th fl og sv rt ot ry se : Nat → Int32} (hp : ∀ nw' fl' rt' ry', (∀ k, k < 24 → nw' k = if sv k = 0 then nw k else th k) → (∀ k, k < 48 → fl' k = if sv (k / 2) = 0 then fl k else og k) → (∀ r, r < 3 → rt' r = ot r) → (∀ g, g < 4 → ry' g = nI 24) → ∀ P : Int32 → SY → Prop, (∀ r se', post r (nw', th, fl', og, sv, rt', ot, ry', se') → P r (nw', th, fl', og, sv, rt', ot, ry', se')) → wpY_fromRoots P (nw', th, fl', og, sv, rt', ot, ry', se)) : ∃ n, wY_crash_23 post n 0 nw th fl og sv rt ot ry se := by
  refine ph_crash_23 (fun n1 ry' h0 => br_t (nI_le (a := 4) (b := 4) (by decide) (by decide)) ?_)
  exact ph_back (fun nw' fl' rt' h1 h2 h3 P hP => hp nw' fl' rt' ry' h1 h2 h3 h0 P hP)
theorem ph_m28 {post : Int32 → SY → Prop} {nw th fl og sv rt ot ry se : Nat → Int32} {g m : Nat} {x : Int32} (hg : g < 4) (hm : m < 24) (z : se m = 0) (hl : ∀ j, j < m → ¬ se j = 0) (hp : post 0 (upd nw m x, th, upd (upd fl (2 * m) (nI 24)) (2 * m + 1) (nI 24), og, upd sv m 0, rt, ot, upd ry g (nI m), se)) : ∀ (i : Nat) (x3 : Int32), i ≤ 24 → (m < i ∨ x3 = nI m) → wY_make_28 post (nI g) x nw th fl og sv rt ot ry se (i + 1) x3 (nI i + (-1)) := by
  intro i
  induction i with
  | zero =>
    intro x3 _ h
    have e : x3 = nI m := by
      rcases h with h | h
      · omega
      · exact h
    subst e
    refine br_t (by decide) ?_
    rw [ph_2m, ph_n0, nI_clamp (n := m) (by omega), nI_clamp (n := g) (by omega), nI_1 (2 * m), nI_clamp (n := 2 * m) (by omega), nI_clamp (n := 2 * m + 1) (by omega)]
    exact ⟨vp_in_nI hm (by decide), nm_e ⟨vp_in_nI (by omega) (by decide), nm_e ⟨vp_in_nI (by omega) (by decide), nm_e ⟨vp_in_nI hm (by decide), nm_e ⟨vp_in_nI hg (by decide), nm_e hp⟩⟩⟩⟩⟩
  | succ i ih =>
    intro x3 hi h
    rw [pk_m1]
    refine br_f (nI_pos (by omega)) ⟨vp_in_nI (by omega) (by decide), ?_⟩
    rw [nI_clamp (n := i) (by omega)]
    by_cases zi : se i = 0
    · refine br_t zi (nm_e (ih (nI i) (by omega) ?_))
      by_cases e : m < i
      · exact Or.inl e
      · refine Or.inr ?_
        by_cases e2 : i = m
        · rw [e2]
        · exact absurd zi (hl i (by omega))
    · refine br_f zi (nm_e (ih x3 (by omega) ?_))
      rcases h with h | h
      · refine Or.inl ?_
        by_cases e : m = i
        · subst e; exact absurd z zi
        · omega
      · exact Or.inr h
