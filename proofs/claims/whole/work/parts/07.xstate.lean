theorem ph_k60 {post : SX → Prop} {c : Int32} {rg ro nu fi sr sn sf iS fd fs : Nat → Int32} (hp : ∀ sf', (∀ k, k < 50 → sf' k = fi k) → post (c, rg, ro, nu, fi, sr, sn, sf', iS, fd, fs)) : ∃ n, wX_keepPresentState_60 post c n 0 rg ro nu fi sr sn sf iS fd fs := by
  refine loop_0 (fun n i s => wX_keepPresentState_60 post c n (nI i) rg ro nu fi sr sn s iS fd fs) (fun i s => ∀ k, k < i → s k = fi k) 50 sf (fun k h => absurd h (by omega)) ?_ ?_
  · intro n s h
    exact br_t (nI_le (a := 50) (b := 50) (by decide) (by decide)) (hp s h)
  · intro n i s hi h k
    refine br_f (nI_ge (b := 50) hi (by decide)) ⟨vp_in_nI hi (by decide), vp_in_nI hi (by decide), ?_⟩
    rw [nI_clamp (n := i) (by omega)]
    refine nm_e (nm_r (nI_1 i) (k _ (fun j hj => ?_)))
    by_cases e : j = i
    · subst e; exact pk_us
    · rw [pk_un e]; exact h j (by omega)
theorem ph_k27 {post : SX → Prop} {c : Int32} {rg ro nu fi sr sn sf iS fd fs : Nat → Int32} (hp : ∀ sn' iS', (∀ m, m < 24 → sn' (m + 1) = nu (m + 1)) → (∀ m, m < 24 → iS' (m + 1) = 1) → ∃ n, wX_keepPresentState_60 post c n 0 rg ro nu fi sr sn' sf iS' fd fs) : ∃ n, wX_keepPresentState_27 post c n 1 rg ro nu fi sr sn sf iS fd fs := by
  refine pk_loop (fun n i (s : (Nat → Int32) × (Nat → Int32)) => wX_keepPresentState_27 post c n (nI i) rg ro nu fi sr s.1 sf s.2 fd fs) (fun i s => ∀ m, m + 1 < i → s.1 (m + 1) = nu (m + 1) ∧ s.2 (m + 1) = 1) 25 1 (sn, iS) (by omega) (fun k h => absurd h (by omega)) ?_ ?_
  · intro n s h
    exact br_t (nI_le (a := 25) (b := 25) (by decide) (by decide)) (hp s.1 s.2 (fun m hm => (h m (by omega)).1) (fun m hm => (h m (by omega)).2))
  · intro n i s hi h k
    refine br_f (nI_ge (b := 25) hi (by decide)) ⟨vp_in_nI hi (by decide), vp_in_nI hi (by decide), ?_⟩
    rw [nI_clamp (n := i) (by omega), ph_n1]
    refine nm_e ⟨vp_in_nI hi (by decide), nm_e (nm_r (nI_1 i) (k (upd s.1 i (nu i), upd s.2 i 1) (fun j hj => ?_)))⟩
    show upd s.1 i (nu i) (j + 1) = nu (j + 1) ∧ upd s.2 i 1 (j + 1) = 1
    by_cases e : j + 1 = i
    · subst e; exact ⟨pk_us, pk_us⟩
    · rw [pk_un e, pk_un e]; exact h j (by omega)
theorem ph_keep {post : SX → Prop} {c : Int32} {rg ro nu fi sr sn sf iS fd fs : Nat → Int32} (hp : ∀ sr' sn' iS' sf', (∀ r, r < 3 → sr' r = ro r) → (∀ m, m < 24 → sn' (m + 1) = nu (m + 1)) → (∀ m, m < 24 → iS' (m + 1) = 1) → (∀ k, k < 50 → sf' k = fi k) → post (c, rg, ro, nu, fi, sr', sn', sf', iS', fd, fs)) : wpX_keepPresentState post (c, rg, ro, nu, fi, sr, sn, sf, iS, fd, fs) := by
  refine loop_0 (fun n i s => wX_keepPresentState_2 post c n (nI i) rg ro nu fi s sn sf iS fd fs) (fun i s => ∀ k, k < i → s k = ro k) 3 sr (fun k h => absurd h (by omega)) ?_ ?_
  · intro n s h
    exact br_t (nI_le (a := 3) (b := 3) (by decide) (by decide)) (ph_k27 (fun sn' iS' h1 h2 => ph_k60 (fun sf' h3 => hp s sn' iS' sf' h h1 h2 h3)))
  · intro n i s hi h k
    refine br_f (nI_ge (b := 3) hi (by decide)) ⟨vp_in_nI hi (by decide), vp_in_nI hi (by decide), ?_⟩
    rw [nI_clamp (n := i) (by omega)]
    refine nm_e (nm_r (nI_1 i) (k _ (fun j hj => ?_)))
    by_cases e : j = i
    · subst e; exact pk_us
    · rw [pk_un e]; exact h j (by omega)
theorem ph_rslot {post : SX → Prop} {c : Int32} {rg ro nu fi sr sn sf iS fd fs : Nat → Int32} {m : Nat} (hm : m < 24) (hp : ∀ fi', (∀ r, r < 2 → fi' (2 * m + r + 2) = sf (2 * m + r + 2)) → (∀ j, j < 2 * m + 2 ∨ 2 * m + 4 ≤ j → fi' j = fi j) → post (c, rg, ro, upd nu (m + 1) (sn (m + 1)), fi', sr, sn, sf, iS, fd, fs)) : wpX_restoreSlot post (c, rg, ro, nu, fi, sr, sn, sf, iS, fd, fs) (nI (m + 1)) := by
  have cl : (nI (m + 1)).toNatClampNeg = m + 1 := nI_clamp (by omega)
  unfold wpX_restoreSlot
  dsimp only
  rw [cl]
  refine ⟨vp_in_nI (by omega) (by decide), vp_in_nI (by omega) (by decide), nm_e ?_⟩
  refine loop_0 (fun n i s => wX_restoreSlot_14 post (nI (m + 1)) c n (nI i) rg ro (upd nu (m + 1) (sn (m + 1))) s sr sn sf iS fd fs) (fun i s => (∀ r, r < i → s (2 * m + r + 2) = sf (2 * m + r + 2)) ∧ (∀ j, j < 2 * m + 2 ∨ 2 * m + 2 + i ≤ j → s j = fi j)) 2 fi ⟨fun k h => absurd h (by omega), fun _ _ => rfl⟩ ?_ ?_
  · intro n s h
    exact br_t (nI_le (a := 2) (b := 2) (by decide) (by decide)) (hp s h.1 (fun j hj => h.2 j (by omega)))
  · intro n i s hi h k
    have ix : nI (m + 1) * 2 + nI i = nI (2 * m + i + 2) := (ph_i2 (m + 1) i).trans (congrArg nI (by omega))
    refine br_f (nI_ge (b := 2) hi (by decide)) ?_
    rw [ix, nI_clamp (n := 2 * m + i + 2) (by omega)]
    refine ⟨vp_in_nI (by omega) (by decide), vp_in_nI (by omega) (by decide), nm_e (nm_r (nI_1 i) (k _ ⟨fun r hr => ?_, fun j hj => ?_⟩))⟩
    · by_cases e : r = i
      · subst e; exact pk_us
      · rw [pk_un (by omega)]; exact h.1 r (by omega)
    · rw [pk_un (by omega)]; exact h.2 j (by omega)
theorem ph_r27 {post : SX → Prop} {c : Int32} {rg ro nu fi sr sn sf iS fd fs : Nat → Int32} (hp : ∀ nu' fi', nu' 0 = nu 0 → (∀ m, m < 24 → nu' (m + 1) = if iS (m + 1) = 0 then nu (m + 1) else sn (m + 1)) → (∀ k, k < 48 → fi' (k + 2) = if iS (k / 2 + 1) = 0 then fi (k + 2) else sf (k + 2)) → post (c, rg, ro, nu', fi', sr, sn, sf, iS, fd, fs)) : ∃ n, wX_restoreSavedState_27 post n 1 c rg ro nu fi sr sn sf iS fd fs := by
  refine pk_loop (fun n i (s : (Nat → Int32) × (Nat → Int32)) => wX_restoreSavedState_27 post n (nI i) c rg ro s.1 s.2 sr sn sf iS fd fs) (fun i s => 1 ≤ i ∧ s.1 0 = nu 0 ∧ (∀ m, m + 1 < i → s.1 (m + 1) = if iS (m + 1) = 0 then nu (m + 1) else sn (m + 1)) ∧ (∀ m, i ≤ m + 1 → s.1 (m + 1) = nu (m + 1)) ∧ (∀ k, k / 2 + 1 < i → s.2 (k + 2) = if iS (k / 2 + 1) = 0 then fi (k + 2) else sf (k + 2)) ∧ (∀ k, i ≤ k / 2 + 1 → s.2 (k + 2) = fi (k + 2))) 25 1 (nu, fi) (by omega) ⟨by omega, rfl, fun k h => absurd h (by omega), fun _ _ => rfl, fun k h => absurd h (by omega), fun _ _ => rfl⟩ ?_ ?_
  · intro n s h
    obtain ⟨_, h0, h1, _, h2, _⟩ := h
    exact br_t (nI_le (a := 25) (b := 25) (by decide) (by decide)) (hp s.1 s.2 h0 (fun m hm => h1 m (by omega)) (fun k hk => h2 k (by omega)))
  · intro n i s hi h k
    obtain ⟨hl, h0, h1, h2, h3, h4⟩ := h
    obtain ⟨q, rfl⟩ : ∃ q, i = q + 1 := ⟨i - 1, by omega⟩
    refine br_f (nI_ge (b := 25) hi (by decide)) ⟨vp_in_nI hi (by decide), ?_⟩
    rw [nI_clamp (n := q + 1) (by omega)]
    by_cases z : iS (q + 1) = 0
    · refine br_t z (nm_r (nI_1 (q + 1)) (k s ⟨by omega, h0, fun m hm => ?_, fun m hm => h2 m (by omega), fun j hj => ?_, fun j hj => h4 j (by omega)⟩))
      · by_cases e : m = q
        · subst e; rw [if_pos z]; exact h2 m (by omega)
        · exact h1 m (by omega)
      · by_cases e : j / 2 = q
        · rw [e, if_pos z]; exact h4 j (by omega)
        · exact h3 j (by omega)
    · refine br_f z ?_
      refine ph_rslot (by omega) (fun fi' f1 f2 => ?_)
      refine nm_r (nI_1 (q + 1)) (k (upd s.1 (q + 1) (sn (q + 1)), fi') ⟨by omega, (pk_un (f := s.1) (k := q + 1) (j := 0) (x := sn (q + 1)) (by omega)).trans h0, fun m hm => ?_, fun m hm => (pk_un (f := s.1) (k := q + 1) (j := m + 1) (x := sn (q + 1)) (by omega)).trans (h2 m (by omega)), fun j hj => ?_, fun j hj => (f2 (j + 2) (by omega)).trans (h4 j (by omega))⟩)
      · show upd s.1 (q + 1) (sn (q + 1)) (m + 1) = _
        by_cases e : m = q
        · subst e; rw [if_neg z]; exact pk_us
        · rw [pk_un (by omega)]; exact h1 m (by omega)
      · show fi' (j + 2) = _
        by_cases e : j / 2 = q
        · have ej : j + 2 = 2 * q + j % 2 + 2 := by omega
          rw [e, if_neg z, ej]; exact f1 (j % 2) (by omega)
        · exact (f2 (j + 2) (by omega)).trans (h3 j (by omega))
theorem ph_rest {post : SX → Prop} {c : Int32} {rg ro nu fi sr sn sf iS fd fs : Nat → Int32} (hp : ∀ ro' nu' fi', (∀ r, r < 3 → ro' r = sr r) → nu' 0 = nu 0 → (∀ m, m < 24 → nu' (m + 1) = if iS (m + 1) = 0 then nu (m + 1) else sn (m + 1)) → (∀ k, k < 48 → fi' (k + 2) = if iS (k / 2 + 1) = 0 then fi (k + 2) else sf (k + 2)) → post (c, rg, ro', nu', fi', sr, sn, sf, iS, fd, fs)) : wpX_restoreSavedState post (c, rg, ro, nu, fi, sr, sn, sf, iS, fd, fs) := by
  refine loop_0 (fun n i s => wX_restoreSavedState_2 post c n (nI i) rg s nu fi sr sn sf iS fd fs) (fun i s => ∀ k, k < i → s k = sr k) 3 ro (fun k h => absurd h (by omega)) ?_ ?_
  · intro n s h
    exact br_t (nI_le (a := 3) (b := 3) (by decide) (by decide)) (ph_r27 (fun nu' fi' h0 h1 h2 => hp s nu' fi' h h0 h1 h2))
  · intro n i s hi h k
    refine br_f (nI_ge (b := 3) hi (by decide)) ⟨vp_in_nI hi (by decide), vp_in_nI hi (by decide), ?_⟩
    rw [nI_clamp (n := i) (by omega)]
    refine nm_e (nm_r (nI_1 i) (k _ (fun j hj => ?_)))
    by_cases e : j = i
    · subst e; exact pk_us
    · rw [pk_un e]; exact h j (by omega)
theorem ph_lose {post : SX → Prop} {c : Int32} {rg ro nu fi sr sn sf iS fd fs : Nat → Int32} (hp : ∀ rg' ro' nu' fi', (∀ g, g < 4 → rg' g = 0) → (∀ r, r < 3 → ro' r = sr r) → nu' 0 = nu 0 → (∀ m, m < 24 → nu' (m + 1) = if iS (m + 1) = 0 then nu (m + 1) else sn (m + 1)) → (∀ k, k < 48 → fi' (k + 2) = if iS (k / 2 + 1) = 0 then fi (k + 2) else sf (k + 2)) → post (c, rg', ro', nu', fi', sr, sn, sf, iS, fd, fs)) : wpX_loseUnsaved post (c, rg, ro, nu, fi, sr, sn, sf, iS, fd, fs) := by
  unfold wpX_loseUnsaved
  refine ph_rest (fun ro' nu' fi' h1 h2 h3 h4 => ?_)
  refine loop_0 (fun n i s => wX_loseUnsaved_6 post c n (nI i) s ro' nu' fi' sr sn sf iS fd fs) (fun i s => ∀ k, k < i → s k = 0) 4 rg (fun k h => absurd h (by omega)) ?_ ?_
  · intro n s h
    exact br_t (nI_le (a := 4) (b := 4) (by decide) (by decide)) (hp s ro' nu' fi' h h1 h2 h3 h4)
  · intro n i s hi h k
    refine br_f (nI_ge (b := 4) hi (by decide)) ⟨vp_in_nI hi (by decide), ?_⟩
    rw [nI_clamp (n := i) (by omega)]
    refine nm_e (nm_r (nI_1 i) (k _ (fun j hj => ?_)))
    by_cases e : j = i
    · subst e; exact pk_us
    · rw [pk_un e]; exact h j (by omega)
theorem ph_fill {post : SX → Prop} {c x : Int32} {rg ro nu fi sr sn sf iS fd fs : Nat → Int32} {m : Nat} (hm : m < 24) (hp : ∀ fi' sf', (∀ r, r < 2 → fi' (2 * m + r + 2) = 0 ∧ sf' (2 * m + r + 2) = 0) → (∀ j, j < 2 * m + 2 ∨ 2 * m + 4 ≤ j → fi' j = fi j ∧ sf' j = sf j) → post (c, rg, ro, upd nu (m + 1) x, fi', sr, sn, sf', upd iS (m + 1) 0, fd, fs)) : wpX_fillSlot post (c, rg, ro, nu, fi, sr, sn, sf, iS, fd, fs) (nI (m + 1)) x := by
  have cl : (nI (m + 1)).toNatClampNeg = m + 1 := nI_clamp (by omega)
  unfold wpX_fillSlot
  dsimp only
  rw [cl, ph_n0]
  refine ⟨vp_in_nI (by omega) (by decide), nm_e ⟨vp_in_nI (by omega) (by decide), nm_e ?_⟩⟩
  refine loop_0 (fun n i (s : (Nat → Int32) × (Nat → Int32)) => wX_fillSlot_16 post (nI (m + 1)) c n (nI i) rg ro (upd nu (m + 1) x) s.1 sr sn s.2 (upd iS (m + 1) 0) fd fs) (fun i s => (∀ r, r < i → s.1 (2 * m + r + 2) = 0 ∧ s.2 (2 * m + r + 2) = 0) ∧ (∀ j, j < 2 * m + 2 ∨ 2 * m + 2 + i ≤ j → s.1 j = fi j ∧ s.2 j = sf j)) 2 (fi, sf) ⟨fun k h => absurd h (by omega), fun _ _ => ⟨rfl, rfl⟩⟩ ?_ ?_
  · intro n s h
    exact br_t (nI_le (a := 2) (b := 2) (by decide) (by decide)) (hp s.1 s.2 h.1 (fun j hj => h.2 j (by omega)))
  · intro n i s hi h k
    have ix : nI (m + 1) * 2 + nI i = nI (2 * m + i + 2) := (ph_i2 (m + 1) i).trans (congrArg nI (by omega))
    refine br_f (nI_ge (b := 2) hi (by decide)) ?_
    rw [ix, nI_clamp (n := 2 * m + i + 2) (by omega)]
    refine ⟨vp_in_nI (by omega) (by decide), nm_e ⟨vp_in_nI (by omega) (by decide), nm_e (nm_r (nI_1 i) (k (upd s.1 (2 * m + i + 2) 0, upd s.2 (2 * m + i + 2) 0) ⟨fun r hr => ?_, fun j hj => ?_⟩))⟩⟩
    · show upd s.1 (2 * m + i + 2) 0 (2 * m + r + 2) = 0 ∧ upd s.2 (2 * m + i + 2) 0 (2 * m + r + 2) = 0
      by_cases e : r = i
      · subst e; exact ⟨pk_us, pk_us⟩
      · rw [pk_un (by omega), pk_un (by omega)]; exact h.1 r (by omega)
    · show upd s.1 (2 * m + i + 2) 0 j = fi j ∧ upd s.2 (2 * m + i + 2) 0 j = sf j
      rw [pk_un (by omega), pk_un (by omega)]; exact h.2 j (by omega)
