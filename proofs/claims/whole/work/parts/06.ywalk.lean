/-- all that is seen is among R -/
def ph_so (R : Nat → Prop) (t : Nat → Int32) : Prop := ∀ j, j < 24 → ¬ t j = 0 → R j
theorem ph_so_u {R : Nat → Prop} {t : Nat → Int32} {b : Nat} {x : Int32} (h : ph_so R t) (hb : b < 24 → R b) : ph_so R (upd t b x) := by
  intro j hj z
  by_cases e : j = b
  · subst e; exact hb hj
  · rw [pk_un e] at z; exact h j hj z
theorem ph_mo_u {t : Nat → Int32} {b : Nat} {x : Int32} (hx : ¬ x = 0) : ∀ j, ¬ t j = 0 → ¬ upd t b x j = 0 := by
  intro j z
  by_cases e : j = b
  · subst e; rw [pk_us]; exact hx
  · rw [pk_un e]; exact z
theorem ph_at_u {t : Nat → Int32} {b : Nat} {x : Int32} (hx : ¬ x = 0) : ¬ upd t b x b = 0 := by rw [pk_us]; exact hx
/-- reference slots a at positions below n, all among T -/
def ph_iy (a : Nat → Int32) (n : Nat) (T : Nat → Prop) : Prop := ∀ r, r < n → ∃ m, m ≤ 24 ∧ a r = nI m ∧ (m < 24 → T m)
theorem ph_forget {post : SY → Prop} {nw th fl og sv rt ot ry se : Nat → Int32} (hp : ∀ se', (∀ j, j < 25 → se' j = 0) → post (nw, th, fl, og, sv, rt, ot, ry, se')) : wpY_forget post (nw, th, fl, og, sv, rt, ot, ry, se) := by
  refine loop_0 (fun n i s => wY_forget_2 post n (nI i) nw th fl og sv rt ot ry s) (fun i s => ∀ j, j < i → s j = 0) 25 se (fun j h => absurd h (by omega)) ?_ ?_
  · intro n s h
    exact br_t (nI_lt (a := 24) (b := 25) (by decide) (by decide)) (hp s h)
  · intro n i s hi h k
    refine br_f (nI_nlt (a := 24) (b := i) (by omega) (by decide)) ⟨vp_in_nI hi (by decide), ?_⟩
    intro a ea
    rw [nI_clamp (n := i) (by omega), ph_n0] at ea
    refine nm_r (nI_1 i) (k a (fun j hj => ?_))
    rw [ea]
    by_cases e : j = i
    · subst e; exact pk_us
    · rw [pk_un e]; exact h j (by omega)
theorem ph_count {post : Int32 → SY → Prop} {nw th fl og sv rt ot ry se : Nat → Int32} (hp : post (nI (ph_c se 24)) (nw, th, fl, og, sv, rt, ot, ry, se)) : ∃ n, wY_follow_93 post nw th fl og sv rt ot ry se n 0 0 := by
  refine loop_0 (fun n i (s : Nat) => wY_follow_93 post nw th fl og sv rt ot ry se n (nI s) (nI i)) (fun i s => s = ph_c se i) 24 0 rfl ?_ ?_
  · intro n s h
    subst h
    exact br_t (nI_le (a := 24) (b := 24) (by decide) (by decide)) hp
  · intro n i s hi h k
    have hc := ph_c_s se i
    refine br_f (nI_ge (b := 24) hi (by decide)) ⟨vp_in_nI (by omega) (by decide), ?_⟩
    rw [nI_clamp (n := i) (by omega)]
    by_cases z : se i = 0
    · rw [if_pos z] at hc
      exact br_t z (nm_r (nI_1 i) (k s (by omega)))
    · rw [if_neg z] at hc
      exact br_f z (nm_r (nI_1 s) (nm_r (nI_1 i) (k (s + 1) (by omega))))
theorem ph_f39 {post : Int32 → SY → Prop} {J2 J10 : Int32 → (Nat → Int32) → (Nat → Int32) → (Nat → Int32) → (Nat → Int32) → (Nat → Int32) → (Nat → Int32) → (Nat → Int32) → (Nat → Int32) → (Nat → Int32) → Prop} {bo x2 : Int32} {k : Nat} {nw th fl og sv rt ot ry se : Nat → Int32} (hk : k < 48) (hog : ∀ k, k < 48 → ¬ sv (k / 2) = 0 → ∃ b, b ≤ 24 ∧ og k = nI b) (h0 : se (k / 2) = 0 → J10 (nI (k + 1)) nw th fl og sv rt ot ry se) (h1 : ¬ se (k / 2) = 0 → (bo = 0 ∨ sv (k / 2) = 0) → J10 (nI (k + 1)) nw th fl og sv rt ot ry se) (h2 : ¬ se (k / 2) = 0 → ¬ bo = 0 → ¬ sv (k / 2) = 0 → ∀ b, b ≤ 24 → og k = nI b → J10 (nI (k + 1)) nw th fl og sv rt ot ry (upd se b (vp_nar .boolean 1))) : wY_follow_39 post J2 J10 bo x2 (nI k) nw th fl og sv rt ot ry se := by
  have d : nI k / 2 = nI (k / 2) := ph_h2 (by omega)
  have cd : (nI k / 2).toNatClampNeg = k / 2 := by rw [d]; exact nI_clamp (by omega)
  have ck : (nI k).toNatClampNeg = k := nI_clamp (by omega)
  unfold wY_follow_39
  rw [cd, ck]
  refine ⟨by decide, by rw [d]; exact vp_in_nI (by omega) (by decide), ?_⟩
  by_cases z : se (k / 2) = 0
  · exact br_t z (nm_r (nI_1 k) (h0 z))
  · refine br_f z ?_
    by_cases zb : bo = 0
    · exact br_t zb (nm_r (nI_1 k) (h1 z (Or.inl zb)))
    · refine br_f zb ⟨by decide, by rw [d]; exact vp_in_nI (by omega) (by decide), ?_⟩
      by_cases zs : sv (k / 2) = 0
      · exact br_t zs (nm_r (nI_1 k) (h1 z (Or.inr zs)))
      · obtain ⟨b, hb, e⟩ := hog k hk zs
        refine br_f zs ⟨vp_in_nI hk (by decide), ?_⟩
        rw [e, nI_clamp (n := b) (by omega)]
        exact ⟨vp_in_nI (by omega) (by decide), nm_e (nm_r (nI_1 k) (h2 z zb zs b hb e))⟩
theorem ph_follow {S : Nat → Prop} {post : Int32 → SY → Prop} {bo : Int32} {nw th fl og sv rt ot ry se : Nat → Int32} (hfl : ∀ k, k < 48 → ∃ b, b ≤ 24 ∧ fl k = nI b) (hog : ∀ k, k < 48 → ¬ sv (k / 2) = 0 → ∃ b, b ≤ 24 ∧ og k = nI b) (so : ph_so (ph_R S (ph_E bo fl og sv)) se) (hS : ∀ a, S a → a < 24 ∧ ¬ se a = 0) (hp : ∀ se', (∀ m, m < 24 → (¬ se' m = 0 ↔ ph_R S (ph_E bo fl og sv) m)) → post (nI (ph_c se' 24)) (nw, th, fl, og, sv, rt, ot, ry, se')) : wpY_follow post (nw, th, fl, og, sv, rt, ot, ry, se) bo := by
  refine loop_0 (fun n i t => wY_follow_2 post bo n (nI i) nw th fl og sv rt ot ry t) (fun i t => ph_so (ph_R S (ph_E bo fl og sv)) t ∧ (∀ a, S a → a < 24 ∧ ¬ t a = 0) ∧ ((∀ m, m < 24 → ph_R S (ph_E bo fl og sv) m → ¬ t m = 0) ∨ i ≤ ph_c t 24)) 24 se ⟨so, hS, Or.inr (Nat.zero_le _)⟩ ?_ ?_
  · intro n t h
    have cm := ph_rounds h.2.2
    exact br_t (nI_le (a := 24) (b := 24) (by decide) (by decide)) (ph_count (hp t (fun m hm => ⟨h.1 m hm, cm m hm⟩)))
  · intro n i t hi h k
    refine br_f (nI_ge (b := 24) hi (by decide)) ?_
    refine loop_0 (fun n' q t' => wY_follow_10 post (wY_follow_2 post bo n) bo (nI i) n' (nI q) nw th fl og sv rt ot ry t') (fun q t' => ph_so (ph_R S (ph_E bo fl og sv)) t' ∧ (∀ j, ¬ t j = 0 → ¬ t' j = 0) ∧ (∀ q' b, q' < q → ¬ t (q' / 2) = 0 → b < 24 → (fl q' = nI b ∨ (¬ bo = 0 ∧ ¬ sv (q' / 2) = 0 ∧ og q' = nI b)) → ¬ t' b = 0)) 48 t ⟨h.1, fun _ z => z, fun q' _ hq => absurd hq (by omega)⟩ ?_ ?_
    · intro n' t' h'
      refine br_t (nI_le (a := 48) (b := 48) (by decide) (by decide)) (nm_r (nI_1 i) (k t' ⟨h'.1, fun a ha => ⟨(h.2.1 a ha).1, h'.2.1 a (h.2.1 a ha).2⟩, ?_⟩))
      refine ph_round (s := t) (fun a b e => e.1) h.2.1 (fun j _ => h'.2.1 j) ?_ h.2.2
      intro a b la za he
      obtain ⟨lb, q, hq, eq, hh⟩ := he
      subst eq
      exact h'.2.2 q b hq za lb hh
    · intro n' q t' hq h' k'
      obtain ⟨b, hb, eb⟩ := hfl q hq
      have d : nI q / 2 = nI (q / 2) := ph_h2 (by omega)
      have cd : (nI q / 2).toNatClampNeg = q / 2 := by rw [d]; exact nI_clamp (by omega)
      have fin : ∀ t3, ph_so (ph_R S (ph_E bo fl og sv)) t3 → (∀ j, ¬ t' j = 0 → ¬ t3 j = 0) → (∀ b', b' < 24 → (fl q = nI b' ∨ (¬ bo = 0 ∧ ¬ sv (q / 2) = 0 ∧ og q = nI b')) → ¬ t (q / 2) = 0 → ¬ t3 b' = 0) → wY_follow_10 post (wY_follow_2 post bo n) bo (nI i) n' (nI (q + 1)) nw th fl og sv rt ot ry t3 := by
        intro t3 s3 m3 f3
        refine k' t3 ⟨s3, fun j z => m3 j (h'.2.1 j z), fun q' b' hq' z lb hh => ?_⟩
        by_cases e : q' = q
        · subst e; exact f3 b' lb hh z
        · exact m3 _ (h'.2.2 q' b' (by omega) z lb hh)
      refine br_f (nI_ge (b := 48) hq (by decide)) ⟨by decide, by rw [d]; exact vp_in_nI (by omega) (by decide), ?_⟩
      rw [cd]
      by_cases z : t' (q / 2) = 0
      · refine br_t z ?_
        exact ph_f39 hq hog (fun _ => fin t' h'.1 (fun _ y => y) (fun b' _ _ nz => absurd z (h'.2.1 _ nz))) (fun nz => absurd z nz) (fun nz => absurd z nz)
      · refine br_f z ⟨vp_in_nI hq (by decide), ?_⟩
        rw [nI_clamp (n := q) (by omega), eb, nI_clamp (n := b) (by omega)]
        refine ⟨vp_in_nI (by omega) (by decide), nm_e ?_⟩
        have rq : ph_R S (ph_E bo fl og sv) (q / 2) := h'.1 (q / 2) (by omega) z
        have s2 : ph_so (ph_R S (ph_E bo fl og sv)) (upd t' b (vp_nar .boolean 1)) := ph_so_u h'.1 (fun lb => ph_R_e rq ⟨lb, q, hq, rfl, Or.inl eb⟩)
        have m2 := ph_mo_u (t := t') (b := b) ph_n1z
        have f2 := ph_at_u (t := t') (b := b) ph_n1z
        refine ph_f39 hq hog (fun y => absurd y (m2 _ z)) (fun _ hh => ?_) (fun _ nb ns b2 hb2 e2 => ?_)
        · refine fin _ s2 m2 (fun b' lb ho _ => ?_)
          rcases ho with ho | ⟨n1, n2, _⟩
          · have := ph_niq (by omega) (by omega) (ho.symm.trans eb)
            subst this
            exact f2
          · rcases hh with hh | hh
            · exact absurd hh n1
            · exact absurd hh n2
        · have m3 := ph_mo_u (t := upd t' b (vp_nar .boolean 1)) (b := b2) ph_n1z
          refine fin _ (ph_so_u s2 (fun lb => ph_R_e rq ⟨lb, q, hq, rfl, Or.inr ⟨nb, ns, e2⟩⟩)) (fun j y => m3 j (m2 j y)) (fun b' lb ho _ => ?_)
          rcases ho with ho | ⟨_, _, ho⟩
          · have := ph_niq (by omega) (by omega) (ho.symm.trans eb)
            subst this
            exact m3 _ f2
          · have := ph_niq (by omega) (by omega) (ho.symm.trans e2)
            subst this
            exact ph_at_u ph_n1z
theorem ph_l_need_6 {R : Nat → Prop} {post : Int32 → SY → Prop} {nw th fl og sv rt ot ry se : Nat → Int32} (so : ph_so R se) (hr : ph_iy rt 3 R) (ex : ∀ n t, ph_so R t → (∀ j, ¬ se j = 0 → ¬ t j = 0) → (∀ r m, r < 3 → m < 24 → rt r = nI m → ¬ t m = 0) → wY_need_6 post (n + 1) (nI 3) nw th fl og sv rt ot ry t) : ∃ n, wY_need_6 post n 0 nw th fl og sv rt ot ry se := by
  refine loop_0 (fun n i t => wY_need_6 post n (nI i) nw th fl og sv rt ot ry t) (fun i t => ph_so R t ∧ (∀ j, ¬ se j = 0 → ¬ t j = 0) ∧ (∀ r m, r < i → m < 24 → rt r = nI m → ¬ t m = 0)) 3 se ⟨so, fun _ z => z, fun r _ h => absurd h (by omega)⟩ ?_ ?_
  · intro n t h
    exact ex n t h.1 h.2.1 h.2.2
  · intro n i t hi h k
    obtain ⟨m, hm, e, hR⟩ := hr i hi
    refine br_f (nI_ge (b := 3) hi (by decide)) ⟨vp_in_nI hi (by decide), ?_⟩
    rw [nI_clamp (n := i) (by omega), e, nI_clamp (n := m) (by omega)]
    have m2 := ph_mo_u (t := t) (b := m) ph_n1z
    refine ⟨vp_in_nI (by omega) (by decide), nm_e (nm_r (nI_1 i) (k _ ⟨ph_so_u h.1 hR, fun j z => m2 j (h.2.1 j z), fun r q hr' hq e' => ?_⟩))⟩
    by_cases er : r = i
    · subst er
      have := ph_niq (by omega) (by omega) (e'.symm.trans e)
      subst this
      exact ph_at_u ph_n1z
    · exact m2 _ (h.2.2 r q (by omega) hq e')
theorem ph_l_need_31 {R : Nat → Prop} {post : Int32 → SY → Prop} {nw th fl og sv rt ot ry se : Nat → Int32} (so : ph_so R se) (hr : ph_iy ot 3 R) (ex : ∀ n t, ph_so R t → (∀ j, ¬ se j = 0 → ¬ t j = 0) → (∀ r m, r < 3 → m < 24 → ot r = nI m → ¬ t m = 0) → wY_need_31 post (n + 1) (nI 3) nw th fl og sv rt ot ry t) : ∃ n, wY_need_31 post n 0 nw th fl og sv rt ot ry se := by
  refine loop_0 (fun n i t => wY_need_31 post n (nI i) nw th fl og sv rt ot ry t) (fun i t => ph_so R t ∧ (∀ j, ¬ se j = 0 → ¬ t j = 0) ∧ (∀ r m, r < i → m < 24 → ot r = nI m → ¬ t m = 0)) 3 se ⟨so, fun _ z => z, fun r _ h => absurd h (by omega)⟩ ?_ ?_
  · intro n t h
    exact ex n t h.1 h.2.1 h.2.2
  · intro n i t hi h k
    obtain ⟨m, hm, e, hR⟩ := hr i hi
    refine br_f (nI_ge (b := 3) hi (by decide)) ⟨vp_in_nI hi (by decide), ?_⟩
    rw [nI_clamp (n := i) (by omega), e, nI_clamp (n := m) (by omega)]
    have m2 := ph_mo_u (t := t) (b := m) ph_n1z
    refine ⟨vp_in_nI (by omega) (by decide), nm_e (nm_r (nI_1 i) (k _ ⟨ph_so_u h.1 hR, fun j z => m2 j (h.2.1 j z), fun r q hr' hq e' => ?_⟩))⟩
    by_cases er : r = i
    · subst er
      have := ph_niq (by omega) (by omega) (e'.symm.trans e)
      subst this
      exact ph_at_u ph_n1z
    · exact m2 _ (h.2.2 r q (by omega) hq e')
theorem ph_l_need_56 {R : Nat → Prop} {post : Int32 → SY → Prop} {nw th fl og sv rt ot ry se : Nat → Int32} (so : ph_so R se) (hr : ph_iy ry 4 R) (ex : ∀ n t, ph_so R t → (∀ j, ¬ se j = 0 → ¬ t j = 0) → (∀ r m, r < 4 → m < 24 → ry r = nI m → ¬ t m = 0) → wY_need_56 post (n + 1) (nI 4) nw th fl og sv rt ot ry t) : ∃ n, wY_need_56 post n 0 nw th fl og sv rt ot ry se := by
  refine loop_0 (fun n i t => wY_need_56 post n (nI i) nw th fl og sv rt ot ry t) (fun i t => ph_so R t ∧ (∀ j, ¬ se j = 0 → ¬ t j = 0) ∧ (∀ r m, r < i → m < 24 → ry r = nI m → ¬ t m = 0)) 4 se ⟨so, fun _ z => z, fun r _ h => absurd h (by omega)⟩ ?_ ?_
  · intro n t h
    exact ex n t h.1 h.2.1 h.2.2
  · intro n i t hi h k
    obtain ⟨m, hm, e, hR⟩ := hr i hi
    refine br_f (nI_ge (b := 4) hi (by decide)) ⟨vp_in_nI hi (by decide), ?_⟩
    rw [nI_clamp (n := i) (by omega), e, nI_clamp (n := m) (by omega)]
    have m2 := ph_mo_u (t := t) (b := m) ph_n1z
    refine ⟨vp_in_nI (by omega) (by decide), nm_e (nm_r (nI_1 i) (k _ ⟨ph_so_u h.1 hR, fun j z => m2 j (h.2.1 j z), fun r q hr' hq e' => ?_⟩))⟩
    by_cases er : r = i
    · subst er
      have := ph_niq (by omega) (by omega) (e'.symm.trans e)
      subst this
      exact ph_at_u ph_n1z
    · exact m2 _ (h.2.2 r q (by omega) hq e')
theorem ph_l_fromRoots_6 {R : Nat → Prop} {post : Int32 → SY → Prop} {nw th fl og sv rt ot ry se : Nat → Int32} (so : ph_so R se) (hr : ph_iy rt 3 R) (ex : ∀ n t, ph_so R t → (∀ j, ¬ se j = 0 → ¬ t j = 0) → (∀ r m, r < 3 → m < 24 → rt r = nI m → ¬ t m = 0) → wY_fromRoots_6 post (n + 1) (nI 3) nw th fl og sv rt ot ry t) : ∃ n, wY_fromRoots_6 post n 0 nw th fl og sv rt ot ry se := by
  refine loop_0 (fun n i t => wY_fromRoots_6 post n (nI i) nw th fl og sv rt ot ry t) (fun i t => ph_so R t ∧ (∀ j, ¬ se j = 0 → ¬ t j = 0) ∧ (∀ r m, r < i → m < 24 → rt r = nI m → ¬ t m = 0)) 3 se ⟨so, fun _ z => z, fun r _ h => absurd h (by omega)⟩ ?_ ?_
  · intro n t h
    exact ex n t h.1 h.2.1 h.2.2
  · intro n i t hi h k
    obtain ⟨m, hm, e, hR⟩ := hr i hi
    refine br_f (nI_ge (b := 3) hi (by decide)) ⟨vp_in_nI hi (by decide), ?_⟩
    rw [nI_clamp (n := i) (by omega), e, nI_clamp (n := m) (by omega)]
    have m2 := ph_mo_u (t := t) (b := m) ph_n1z
    refine ⟨vp_in_nI (by omega) (by decide), nm_e (nm_r (nI_1 i) (k _ ⟨ph_so_u h.1 hR, fun j z => m2 j (h.2.1 j z), fun r q hr' hq e' => ?_⟩))⟩
    by_cases er : r = i
    · subst er
      have := ph_niq (by omega) (by omega) (e'.symm.trans e)
      subst this
      exact ph_at_u ph_n1z
    · exact m2 _ (h.2.2 r q (by omega) hq e')
theorem ph_so_0 {R : Nat → Prop} {t : Nat → Int32} (h : ∀ j, j < 25 → t j = 0) : ph_so R t := fun j hj z => absurd (h j (by omega)) z
theorem ph_iy_R {a : Nat → Int32} {n : Nat} {S : Nat → Prop} {E : Nat → Nat → Prop} (h : ph_iy a n S) : ph_iy a n (ph_R S E) := by
  intro r hr
  obtain ⟨m, hm, e, hs⟩ := h r hr
  exact ⟨m, hm, e, fun l => ph_R_s (hs l)⟩
theorem ph_need {S : Nat → Prop} {post : Int32 → SY → Prop} {nw th fl og sv rt ot ry se : Nat → Int32} (hfl : ∀ k, k < 48 → ∃ b, b ≤ 24 ∧ fl k = nI b) (hog : ∀ k, k < 48 → ¬ sv (k / 2) = 0 → ∃ b, b ≤ 24 ∧ og k = nI b) (s1 : ph_iy rt 3 S) (s2 : ph_iy ot 3 S) (s3 : ph_iy ry 4 S) (hS : ∀ a, S a → a < 24 ∧ ((∃ r, r < 3 ∧ rt r = nI a) ∨ (∃ r, r < 3 ∧ ot r = nI a) ∨ (∃ g, g < 4 ∧ ry g = nI a))) (hp : ∀ se', (∀ m, m < 24 → (¬ se' m = 0 ↔ ph_R S (ph_E 1 fl og sv) m)) → post (nI (ph_c se' 24)) (nw, th, fl, og, sv, rt, ot, ry, se')) : wpY_need post (nw, th, fl, og, sv, rt, ot, ry, se) := by
  unfold wpY_need
  refine ph_forget (fun se0 z0 => ?_)
  refine ph_l_need_6 (R := ph_R S (ph_E 1 fl og sv)) (ph_so_0 z0) (ph_iy_R s1) (fun n1 t1 o1 _ f1 => ?_)
  refine br_t (nI_le (a := 3) (b := 3) (by decide) (by decide)) ?_
  refine ph_l_need_31 o1 (ph_iy_R s2) (fun n2 t2 o2 m2 f2 => ?_)
  refine br_t (nI_le (a := 3) (b := 3) (by decide) (by decide)) ?_
  refine ph_l_need_56 o2 (ph_iy_R s3) (fun n3 t3 o3 m3 f3 => ?_)
  refine br_t (nI_le (a := 4) (b := 4) (by decide) (by decide)) ?_
  refine ph_follow hfl hog o3 (fun a ha => ?_) hp
  obtain ⟨la, h⟩ := hS a ha
  refine ⟨la, ?_⟩
  rcases h with ⟨g, hg, e⟩ | ⟨g, hg, e⟩ | ⟨g, hg, e⟩
  · exact m3 _ (m2 _ (f1 g a hg la e))
  · exact m3 _ (f2 g a hg la e)
  · exact f3 g a hg la e
theorem ph_fromRoots {S : Nat → Prop} {post : Int32 → SY → Prop} {nw th fl og sv rt ot ry se : Nat → Int32} (hfl : ∀ k, k < 48 → ∃ b, b ≤ 24 ∧ fl k = nI b) (hog : ∀ k, k < 48 → ¬ sv (k / 2) = 0 → ∃ b, b ≤ 24 ∧ og k = nI b) (s1 : ph_iy rt 3 S) (hS : ∀ a, S a → a < 24 ∧ (∃ r, r < 3 ∧ rt r = nI a)) (hp : ∀ se', (∀ m, m < 24 → (¬ se' m = 0 ↔ ph_R S (ph_E 0 fl og sv) m)) → post (nI (ph_c se' 24)) (nw, th, fl, og, sv, rt, ot, ry, se')) : wpY_fromRoots post (nw, th, fl, og, sv, rt, ot, ry, se) := by
  unfold wpY_fromRoots
  refine ph_forget (fun se0 z0 => ?_)
  refine ph_l_fromRoots_6 (R := ph_R S (ph_E 0 fl og sv)) (ph_so_0 z0) (ph_iy_R s1) (fun n1 t1 o1 _ f1 => ?_)
  refine br_t (nI_le (a := 3) (b := 3) (by decide) (by decide)) ?_
  refine ph_follow hfl hog o1 (fun a ha => ?_) hp
  obtain ⟨la, g, hg, e⟩ := hS a ha
  exact ⟨la, f1 g a hg la e⟩
