theorem ph_find {R : Nat → Prop} {post : SX → Prop} {c m : Nat} {rg ro nu fi sr sn sf iS fd fs : Nat → Int32} (w : ph_W R fd fs c) (hm : m ≤ 24) (hR : m < 24 → R m) (hp : ∀ c' fd' fs', ph_W R fd' fs' c' → ph_X fd fs c fd' fs' c' → (m < 24 → ¬ fd' (m + 1) = 0) → post (nI c', rg, ro, nu, fi, sr, sn, sf, iS, fd', fs')) : wpX_find post (nI c, rg, ro, nu, fi, sr, sn, sf, iS, fd, fs) (nI (ph_f m)) := by
  by_cases e : m = 24
  · subst e
    exact br_t (by rw [ph_f24]; exact nI_0) (hp c fd fs w ph_X_r (fun h => absurd h (by omega)))
  · have hl : m < 24 := by omega
    have hc := ph_W_c w
    have cl : (nI (m + 1)).toNatClampNeg = m + 1 := nI_clamp (by omega)
    have cc : (nI c).toNatClampNeg = c := nI_clamp (by omega)
    rw [ph_fl hl]
    refine br_f (nI_ne0 (by omega) (by omega)) ⟨vp_in_nI (by omega) (by omega), ?_⟩
    rw [cl]
    by_cases z : fd (m + 1) = 0
    · refine br_t z ⟨vp_in_nI (by omega) (by omega), ?_⟩
      intro a ea
      refine ⟨vp_in_nI (by omega) (by omega), ?_⟩
      intro b eb d ed
      rw [cc] at eb
      rw [nI_1] at ed
      obtain ⟨h1, h2, h3⟩ := ph_W_f w hl (hR hl) z ph_n1z
      rw [ea, eb, ed]
      exact hp _ _ _ h1 h2 (fun _ => h3)
    · exact br_f z (hp c fd fs w ph_X_r (fun _ => z))
theorem ph_fr_roots {R : Nat → Prop} {post : SX → Prop} {c : Nat} {rg ro nu fi sr sn sf iS fd fs : Nat → Int32} (w : ph_W R fd fs c) (hr : ∀ r, r < 3 → ∃ m, m ≤ 24 ∧ ro r = nI (ph_f m) ∧ (m < 24 → R m)) (hp : ∀ c' fd' fs', ph_W R fd' fs' c' → ph_X fd fs c fd' fs' c' → (∀ r m, r < 3 → m < 24 → ro r = nI (ph_f m) → ¬ fd' (m + 1) = 0) → post (nI c', rg, ro, nu, fi, sr, sn, sf, iS, fd', fs')) : wpX_findRoots__roots post (nI c, rg, ro, nu, fi, sr, sn, sf, iS, fd, fs) := by
  refine loop_0 (fun n i (s : Nat × (Nat → Int32) × (Nat → Int32)) => wX_findRoots__roots_2 post n (nI i) (nI s.1) rg ro nu fi sr sn sf iS s.2.1 s.2.2) (fun i s => ph_W R s.2.1 s.2.2 s.1 ∧ ph_X fd fs c s.2.1 s.2.2 s.1 ∧ (∀ r m, r < i → m < 24 → ro r = nI (ph_f m) → ¬ s.2.1 (m + 1) = 0)) 3 (c, fd, fs) ⟨w, ph_X_r, fun r _ h => absurd h (by omega)⟩ ?_ ?_
  · intro n s h
    exact br_t (nI_le (a := 3) (b := 3) (by decide) (by decide)) (hp s.1 s.2.1 s.2.2 h.1 h.2.1 h.2.2)
  · intro n i s hi h k
    obtain ⟨m, hm, e, hR⟩ := hr i hi
    refine br_f (nI_ge (b := 3) hi (by decide)) ⟨vp_in_nI hi (by decide), ?_⟩
    rw [nI_clamp (n := i) (by omega), e]
    refine ph_find h.1 hm hR (fun c' fd' fs' w' x' f' => ?_)
    refine nm_r (nI_1 i) (k (c', fd', fs') ⟨w', ph_X_t h.2.1 x', fun r q hr' hq e' => ?_⟩)
    by_cases er : r = i
    · subst er
      have := ph_finj2 (by omega) hm (e'.symm.trans e)
      subst this
      exact f' hq
    · exact x'.2.1 _ (h.2.2 r q (by omega) hq e')
theorem ph_fr_savedRoots {R : Nat → Prop} {post : SX → Prop} {c : Nat} {rg ro nu fi sr sn sf iS fd fs : Nat → Int32} (w : ph_W R fd fs c) (hr : ∀ r, r < 3 → ∃ m, m ≤ 24 ∧ sr r = nI (ph_f m) ∧ (m < 24 → R m)) (hp : ∀ c' fd' fs', ph_W R fd' fs' c' → ph_X fd fs c fd' fs' c' → (∀ r m, r < 3 → m < 24 → sr r = nI (ph_f m) → ¬ fd' (m + 1) = 0) → post (nI c', rg, ro, nu, fi, sr, sn, sf, iS, fd', fs')) : wpX_findRoots__savedRoots post (nI c, rg, ro, nu, fi, sr, sn, sf, iS, fd, fs) := by
  refine loop_0 (fun n i (s : Nat × (Nat → Int32) × (Nat → Int32)) => wX_findRoots__savedRoots_2 post n (nI i) (nI s.1) rg ro nu fi sr sn sf iS s.2.1 s.2.2) (fun i s => ph_W R s.2.1 s.2.2 s.1 ∧ ph_X fd fs c s.2.1 s.2.2 s.1 ∧ (∀ r m, r < i → m < 24 → sr r = nI (ph_f m) → ¬ s.2.1 (m + 1) = 0)) 3 (c, fd, fs) ⟨w, ph_X_r, fun r _ h => absurd h (by omega)⟩ ?_ ?_
  · intro n s h
    exact br_t (nI_le (a := 3) (b := 3) (by decide) (by decide)) (hp s.1 s.2.1 s.2.2 h.1 h.2.1 h.2.2)
  · intro n i s hi h k
    obtain ⟨m, hm, e, hR⟩ := hr i hi
    refine br_f (nI_ge (b := 3) hi (by decide)) ⟨vp_in_nI hi (by decide), ?_⟩
    rw [nI_clamp (n := i) (by omega), e]
    refine ph_find h.1 hm hR (fun c' fd' fs' w' x' f' => ?_)
    refine nm_r (nI_1 i) (k (c', fd', fs') ⟨w', ph_X_t h.2.1 x', fun r q hr' hq e' => ?_⟩)
    by_cases er : r = i
    · subst er
      have := ph_finj2 (by omega) hm (e'.symm.trans e)
      subst this
      exact f' hq
    · exact x'.2.1 _ (h.2.2 r q (by omega) hq e')
theorem ph_ff_fields {R : Nat → Prop} {post : SX → Prop} {c j : Nat} {rg ro nu fi sr sn sf iS fd fs : Nat → Int32} (w : ph_W R fd fs c) (hj : j < 24) (hr : ∀ r, r < 2 → ∃ m, m ≤ 24 ∧ fi (2 * j + r + 2) = nI (ph_f m) ∧ (m < 24 → R m)) (hp : ∀ c' fd' fs', ph_W R fd' fs' c' → ph_X fd fs c fd' fs' c' → (∀ r m, r < 2 → m < 24 → fi (2 * j + r + 2) = nI (ph_f m) → ¬ fd' (m + 1) = 0) → post (nI c', rg, ro, nu, fi, sr, sn, sf, iS, fd', fs')) : wpX_findFields__fields post (nI c, rg, ro, nu, fi, sr, sn, sf, iS, fd, fs) (nI (j + 1)) := by
  refine loop_0 (fun n i (s : Nat × (Nat → Int32) × (Nat → Int32)) => wX_findFields__fields_2 post (nI (j + 1)) n (nI i) (nI s.1) rg ro nu fi sr sn sf iS s.2.1 s.2.2) (fun i s => ph_W R s.2.1 s.2.2 s.1 ∧ ph_X fd fs c s.2.1 s.2.2 s.1 ∧ (∀ r m, r < i → m < 24 → fi (2 * j + r + 2) = nI (ph_f m) → ¬ s.2.1 (m + 1) = 0)) 2 (c, fd, fs) ⟨w, ph_X_r, fun r _ h => absurd h (by omega)⟩ ?_ ?_
  · intro n s h
    exact br_t (nI_le (a := 2) (b := 2) (by decide) (by decide)) (hp s.1 s.2.1 s.2.2 h.1 h.2.1 h.2.2)
  · intro n i s hi h k
    obtain ⟨m, hm, e, hR⟩ := hr i hi
    have ix : nI (j + 1) * 2 + nI i = nI (2 * j + i + 2) := (ph_i2 (j + 1) i).trans (congrArg nI (by omega))
    refine br_f (nI_ge (b := 2) hi (by decide)) ⟨by rw [ix]; exact vp_in_nI (by omega) (by decide), ?_⟩
    rw [ix, nI_clamp (n := 2 * j + i + 2) (by omega), e]
    refine ph_find h.1 hm hR (fun c' fd' fs' w' x' f' => ?_)
    refine nm_r (nI_1 i) (k (c', fd', fs') ⟨w', ph_X_t h.2.1 x', fun r q hr' hq e' => ?_⟩)
    by_cases er : r = i
    · subst er
      have := ph_finj2 (by omega) hm (e'.symm.trans e)
      subst this
      exact f' hq
    · exact x'.2.1 _ (h.2.2 r q (by omega) hq e')
theorem ph_ff_savedFields {R : Nat → Prop} {post : SX → Prop} {c j : Nat} {rg ro nu fi sr sn sf iS fd fs : Nat → Int32} (w : ph_W R fd fs c) (hj : j < 24) (hr : ∀ r, r < 2 → ∃ m, m ≤ 24 ∧ sf (2 * j + r + 2) = nI (ph_f m) ∧ (m < 24 → R m)) (hp : ∀ c' fd' fs', ph_W R fd' fs' c' → ph_X fd fs c fd' fs' c' → (∀ r m, r < 2 → m < 24 → sf (2 * j + r + 2) = nI (ph_f m) → ¬ fd' (m + 1) = 0) → post (nI c', rg, ro, nu, fi, sr, sn, sf, iS, fd', fs')) : wpX_findFields__savedFields post (nI c, rg, ro, nu, fi, sr, sn, sf, iS, fd, fs) (nI (j + 1)) := by
  refine loop_0 (fun n i (s : Nat × (Nat → Int32) × (Nat → Int32)) => wX_findFields__savedFields_2 post (nI (j + 1)) n (nI i) (nI s.1) rg ro nu fi sr sn sf iS s.2.1 s.2.2) (fun i s => ph_W R s.2.1 s.2.2 s.1 ∧ ph_X fd fs c s.2.1 s.2.2 s.1 ∧ (∀ r m, r < i → m < 24 → sf (2 * j + r + 2) = nI (ph_f m) → ¬ s.2.1 (m + 1) = 0)) 2 (c, fd, fs) ⟨w, ph_X_r, fun r _ h => absurd h (by omega)⟩ ?_ ?_
  · intro n s h
    exact br_t (nI_le (a := 2) (b := 2) (by decide) (by decide)) (hp s.1 s.2.1 s.2.2 h.1 h.2.1 h.2.2)
  · intro n i s hi h k
    obtain ⟨m, hm, e, hR⟩ := hr i hi
    have ix : nI (j + 1) * 2 + nI i = nI (2 * j + i + 2) := (ph_i2 (j + 1) i).trans (congrArg nI (by omega))
    refine br_f (nI_ge (b := 2) hi (by decide)) ⟨by rw [ix]; exact vp_in_nI (by omega) (by decide), ?_⟩
    rw [ix, nI_clamp (n := 2 * j + i + 2) (by omega), e]
    refine ph_find h.1 hm hR (fun c' fd' fs' w' x' f' => ?_)
    refine nm_r (nI_1 i) (k (c', fd', fs') ⟨w', ph_X_t h.2.1 x', fun r q hr' hq e' => ?_⟩)
    by_cases er : r = i
    · subst er
      have := ph_finj2 (by omega) hm (e'.symm.trans e)
      subst this
      exact f' hq
    · exact x'.2.1 _ (h.2.2 r q (by omega) hq e')
theorem ph_start {post : SX → Prop} {c : Int32} {rg ro nu fi sr sn sf iS fd fs : Nat → Int32} (hp : ∀ fd', (∀ j, j < 25 → fd' j = 0) → post (nI 0, rg, ro, nu, fi, sr, sn, sf, iS, fd', fs)) : wpX_startWalk post (c, rg, ro, nu, fi, sr, sn, sf, iS, fd, fs) := by
  refine loop_0 (fun n i s => wX_startWalk_7 post 0 n (nI i) rg ro nu fi sr sn sf iS s fs) (fun i s => ∀ j, j < i → s j = 0) 25 fd (fun j h => absurd h (by omega)) ?_ ?_
  · intro n s h
    exact br_t (nI_le (a := 25) (b := 25) (by decide) (by decide)) (hp s h)
  · intro n i s hi h k
    refine br_f (nI_ge (b := 25) hi (by decide)) ⟨vp_in_nI hi (by decide), ?_⟩
    intro a ea
    rw [nI_clamp (n := i) (by omega), ph_n0] at ea
    refine nm_r (nI_1 i) (k a (fun j hj => ?_))
    rw [ea]
    by_cases e : j = i
    · subst e; exact pk_us
    · rw [pk_un e]; exact h j (by omega)
