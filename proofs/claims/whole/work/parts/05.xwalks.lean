/-- the edges: of the present fields, and with bo of the saved ones of the slots that were saved -/
def ph_E (bo : Int32) (fl og sv : Nat → Int32) (m b : Nat) : Prop := b < 24 ∧ ∃ k, k < 48 ∧ k / 2 = m ∧ (fl k = nI b ∨ (¬ bo = 0 ∧ ¬ sv m = 0 ∧ og k = nI b))
/-- component references a at positions below n, all among T -/
def ph_in (a : Nat → Int32) (n : Nat) (T : Nat → Prop) : Prop := ∀ r, r < n → ∃ m, m ≤ 24 ∧ a r = nI (ph_f m) ∧ (m < 24 → T m)
/-- the fields of the component's slots lead along E -/
def ph_fin (a : Nat → Int32) (E : Nat → Nat → Prop) : Prop := ∀ m r, m < 24 → r < 2 → ∃ b, b ≤ 24 ∧ a (2 * m + r + 2) = nI (ph_f b) ∧ (b < 24 → E m b)
theorem ph_wp {S : Nat → Prop} {E : Nat → Nat → Prop} {post : SX → Prop} {c : Nat} {rg ro nu fi sr sn sf iS fd fs : Nat → Int32} (w : ph_W (ph_R S E) fd fs c) (h1 : ph_fin fi E) (h2 : ∀ m b, m < 24 → E m b → b < 24 → ∃ r, r < 2 ∧ fi (2 * m + r + 2) = nI (ph_f b)) (hp : ∀ c' fd' fs', ph_W (ph_R S E) fd' fs' c' → ph_X fd fs c fd' fs' c' → ph_D E fd' fs' c' → post (nI c', rg, ro, nu, fi, sr, sn, sf, iS, fd', fs')) : wpX_walkPresentFields post (nI c, rg, ro, nu, fi, sr, sn, sf, iS, fd, fs) := by
  refine loop_0 (fun n i (s : Nat × (Nat → Int32) × (Nat → Int32)) => wX_walkPresentFields_2 post n (nI i) (nI s.1) rg ro nu fi sr sn sf iS s.2.1 s.2.2) (fun i s => i ≤ s.1 ∧ ph_W (ph_R S E) s.2.1 s.2.2 s.1 ∧ ph_X fd fs c s.2.1 s.2.2 s.1 ∧ ph_D E s.2.1 s.2.2 i) 25 (c, fd, fs) ⟨Nat.zero_le _, w, ph_X_r, fun r _ _ h => absurd h (by omega)⟩ ?_ ?_
  · intro n s h
    have := ph_W_c h.2.1
    have := h.1
    omega
  · intro n i s hi h k
    obtain ⟨hl, w1, x1, d1⟩ := h
    have hc := ph_W_c w1
    refine br_f (nI_ge (b := 25) hi (by decide)) ?_
    by_cases hcc : s.1 ≤ i
    · have e : s.1 = i := by omega
      exact br_t (nI_le hcc (by omega)) (hp s.1 s.2.1 s.2.2 w1 x1 (by rw [e]; exact d1))
    · refine br_f (nI_ge (by omega) (by omega)) ⟨vp_in_nI hi (by decide), ?_⟩
      obtain ⟨m, hm, em, zm⟩ := w1.2.2.2.1 i (by omega)
      rw [nI_clamp (n := i) (by omega), em]
      refine ph_ff_fields w1 hm (fun r hr => ?_) (fun c' fd' fs' w' x' f' => ?_)
      · obtain ⟨b, hb, e1, e2⟩ := h1 m r hm hr
        exact ⟨b, hb, e1, fun hb' => ph_R_e (w1.2.2.1 m hm zm) (e2 hb')⟩
      · have xl := x'.1
        refine nm_r (nI_1 i) (k (c', fd', fs') ⟨by show i + 1 ≤ c'; omega, w', ph_X_t x1 x', ?_⟩)
        have d2 := ph_D_x d1 x' hl
        intro j q b hj hq eq hE hb
        by_cases e : j = i
        · subst e
          have e3 : fs' j = nI (m + 1) := (x'.2.2 j (by omega)).trans em
          have e4 : q = m := by
            have := ph_niq (by omega) (by omega) (eq.symm.trans e3)
            omega
          subst e4
          obtain ⟨r, hr, er⟩ := h2 q b hm hE hb
          exact f' r b hr hb er
        · exact d2 j q b (by omega) hq eq hE hb
theorem ph_wps {S : Nat → Prop} {E : Nat → Nat → Prop} {post : SX → Prop} {c : Nat} {rg ro nu fi sr sn sf iS fd fs : Nat → Int32} (w : ph_W (ph_R S E) fd fs c) (h1 : ph_fin fi E) (h1s : ph_fin sf E) (h2 : ∀ m b, m < 24 → E m b → b < 24 → (∃ r, r < 2 ∧ fi (2 * m + r + 2) = nI (ph_f b)) ∨ (∃ r, r < 2 ∧ sf (2 * m + r + 2) = nI (ph_f b))) (hp : ∀ c' fd' fs', ph_W (ph_R S E) fd' fs' c' → ph_X fd fs c fd' fs' c' → ph_D E fd' fs' c' → post (nI c', rg, ro, nu, fi, sr, sn, sf, iS, fd', fs')) : wpX_walkPresentAndSavedFields post (nI c, rg, ro, nu, fi, sr, sn, sf, iS, fd, fs) := by
  refine loop_0 (fun n i (s : Nat × (Nat → Int32) × (Nat → Int32)) => wX_walkPresentAndSavedFields_2 post n (nI i) (nI s.1) rg ro nu fi sr sn sf iS s.2.1 s.2.2) (fun i s => i ≤ s.1 ∧ ph_W (ph_R S E) s.2.1 s.2.2 s.1 ∧ ph_X fd fs c s.2.1 s.2.2 s.1 ∧ ph_D E s.2.1 s.2.2 i) 25 (c, fd, fs) ⟨Nat.zero_le _, w, ph_X_r, fun r _ _ h => absurd h (by omega)⟩ ?_ ?_
  · intro n s h
    have := ph_W_c h.2.1
    have := h.1
    omega
  · intro n i s hi h k
    obtain ⟨hl, w1, x1, d1⟩ := h
    have hc := ph_W_c w1
    refine br_f (nI_ge (b := 25) hi (by decide)) ?_
    by_cases hcc : s.1 ≤ i
    · have e : s.1 = i := by omega
      exact br_t (nI_le hcc (by omega)) (hp s.1 s.2.1 s.2.2 w1 x1 (by rw [e]; exact d1))
    · refine br_f (nI_ge (by omega) (by omega)) ⟨vp_in_nI hi (by decide), ?_⟩
      obtain ⟨m, hm, em, zm⟩ := w1.2.2.2.1 i (by omega)
      refine nm_r ((congrArg s.2.2 (nI_clamp (n := i) (by omega))).trans em) ?_
      refine ph_ff_fields w1 hm (fun r hr => ?_) (fun c2 fd2 fs2 w2 x2 f2 => ?_)
      · obtain ⟨b, hb, e1, e2⟩ := h1 m r hm hr
        exact ⟨b, hb, e1, fun hb' => ph_R_e (w1.2.2.1 m hm zm) (e2 hb')⟩
      refine ph_ff_savedFields w2 hm (fun r hr => ?_) (fun c' fd' fs' w' x3 f' => ?_)
      · obtain ⟨b, hb, e1, e2⟩ := h1s m r hm hr
        exact ⟨b, hb, e1, fun hb' => ph_R_e (w1.2.2.1 m hm zm) (e2 hb')⟩
      · have x' := ph_X_t x2 x3
        have xl := x'.1
        refine nm_r (nI_1 i) (k (c', fd', fs') ⟨by show i + 1 ≤ c'; omega, w', ph_X_t x1 x', ?_⟩)
        have d2 := ph_D_x d1 x' hl
        intro j q b hj hq eq hE hb
        by_cases e : j = i
        · subst e
          have e3 : fs' j = nI (m + 1) := (x'.2.2 j (by omega)).trans em
          have e4 : q = m := by
            have := ph_niq (by omega) (by omega) (eq.symm.trans e3)
            omega
          subst e4
          rcases h2 q b hm hE hb with ⟨r, hr, er⟩ | ⟨r, hr, er⟩
          · exact x3.2.1 _ (f2 r b hr hb er)
          · exact f' r b hr hb er
        · exact d2 j q b (by omega) hq eq hE hb
/-- what a walk has found at its end -/
def ph_F (S : Nat → Prop) (E : Nat → Nat → Prop) (fd : Nat → Int32) : Prop := fd 0 = 0 ∧ ∀ m, m < 24 → (¬ fd (m + 1) = 0 ↔ ph_R S E m)
theorem ph_walkNeeded {S : Nat → Prop} {E : Nat → Nat → Prop} {post : SX → Prop} {c : Int32} {rg ro nu fi sr sn sf iS fd fs : Nat → Int32} (hE : ∀ a b, E a b → b < 24) (h1 : ph_fin fi E) (h1s : ph_fin sf E) (h2 : ∀ m b, m < 24 → E m b → b < 24 → (∃ r, r < 2 ∧ fi (2 * m + r + 2) = nI (ph_f b)) ∨ (∃ r, r < 2 ∧ sf (2 * m + r + 2) = nI (ph_f b))) (s1 : ph_in rg 4 S) (s2 : ph_in ro 3 S) (s3 : ph_in sr 3 S) (hS : ∀ a, S a → a < 24 ∧ ((∃ g, g < 4 ∧ rg g = nI (ph_f a)) ∨ (∃ r, r < 3 ∧ ro r = nI (ph_f a)) ∨ (∃ r, r < 3 ∧ sr r = nI (ph_f a)))) (hp : ∀ fd' fs', ph_F S E fd' → post (nI (ph_c fd' 25), rg, ro, nu, fi, sr, sn, sf, iS, fd', fs')) : wpX_walkNeeded post (c, rg, ro, nu, fi, sr, sn, sf, iS, fd, fs) := by
  unfold wpX_walkNeeded
  refine ph_start (fun fd0 z0 => ?_)
  refine loop_0 (fun n i (s : Nat × (Nat → Int32) × (Nat → Int32)) => wX_walkNeeded_6 post n (nI i) (nI s.1) rg ro nu fi sr sn sf iS s.2.1 s.2.2) (fun i s => ph_W (ph_R S E) s.2.1 s.2.2 s.1 ∧ (∀ r m, r < i → m < 24 → rg r = nI (ph_f m) → ¬ s.2.1 (m + 1) = 0)) 4 (0, fd0, fs) ⟨ph_W_0 z0, fun r _ h => absurd h (by omega)⟩ ?_ ?_
  · intro n s h
    have h4 := h.2
    refine br_t (nI_le (a := 4) (b := 4) (by decide) (by decide)) ?_
    refine ph_fr_roots h.1 (fun r hr => ?_) (fun c1 fd1 fs1 w1 x1 f1 => ?_)
    · obtain ⟨m, hm, e, hs⟩ := s2 r hr
      exact ⟨m, hm, e, fun l => ph_R_s (hs l)⟩
    refine ph_fr_savedRoots w1 (fun r hr => ?_) (fun c2 fd2 fs2 w2 x2 f2 => ?_)
    · obtain ⟨m, hm, e, hs⟩ := s3 r hr
      exact ⟨m, hm, e, fun l => ph_R_s (hs l)⟩
    refine ph_wps w2 h1 h1s h2 (fun c3 fd3 fs3 w3 x3 d3 => ?_)
    have en := ph_end hE (fun a ha => by
      obtain ⟨la, h⟩ := hS a ha
      refine ⟨la, x3.2.1 _ ?_⟩
      rcases h with ⟨g, hg, e⟩ | ⟨g, hg, e⟩ | ⟨g, hg, e⟩
      · exact x2.2.1 _ (x1.2.1 _ (h4 g a hg la e))
      · exact x2.2.1 _ (f1 g a hg la e)
      · exact f2 g a hg la e) w3 d3
    have := hp fd3 fs3 ⟨w3.1, en⟩
    rw [← w3.2.1] at this
    exact this
  · intro n i s hi h k
    obtain ⟨m, hm, e, hR⟩ := s1 i hi
    refine br_f (nI_ge (b := 4) hi (by decide)) ⟨vp_in_nI hi (by decide), ?_⟩
    rw [nI_clamp (n := i) (by omega), e]
    refine ph_find h.1 hm (fun l => ph_R_s (hR l)) (fun c' fd' fs' w' x' f' => ?_)
    refine nm_r (nI_1 i) (k (c', fd', fs') ⟨w', fun r q hr' hq e' => ?_⟩)
    by_cases er : r = i
    · subst er
      have := ph_finj2 (by omega) hm (e'.symm.trans e)
      subst this
      exact f' hq
    · exact x'.2.1 _ (h.2 r q (by omega) hq e')
theorem ph_cfr {S : Nat → Prop} {E : Nat → Nat → Prop} {post : Int32 → SX → Prop} {c : Int32} {rg ro nu fi sr sn sf iS fd fs : Nat → Int32} (hE : ∀ a b, E a b → b < 24) (h1 : ph_fin fi E) (h2 : ∀ m b, m < 24 → E m b → b < 24 → ∃ r, r < 2 ∧ fi (2 * m + r + 2) = nI (ph_f b)) (s2 : ph_in ro 3 S) (hS : ∀ a, S a → a < 24 ∧ (∃ r, r < 3 ∧ ro r = nI (ph_f a))) (hp : ∀ fd' fs', ph_F S E fd' → post (nI (ph_c fd' 25)) (nI (ph_c fd' 25), rg, ro, nu, fi, sr, sn, sf, iS, fd', fs')) : wpX_countFromRoots post (c, rg, ro, nu, fi, sr, sn, sf, iS, fd, fs) := by
  unfold wpX_countFromRoots
  refine ph_start (fun fd0 z0 => ?_)
  refine ph_fr_roots (ph_W_0 (R := ph_R S E) z0) (fun r hr => ?_) (fun c1 fd1 fs1 w1 x1 f1 => ?_)
  · obtain ⟨m, hm, e, hs⟩ := s2 r hr
    exact ⟨m, hm, e, fun l => ph_R_s (hs l)⟩
  refine ph_wp w1 h1 h2 (fun c3 fd3 fs3 w3 x3 d3 => ?_)
  have en := ph_end hE (fun a ha => by
    obtain ⟨la, g, hg, e⟩ := hS a ha
    exact ⟨la, x3.2.1 _ (f1 g a hg la e)⟩) w3 d3
  have := hp fd3 fs3 ⟨w3.1, en⟩
  rw [← w3.2.1] at this
  exact this
theorem ph_reach1 {S : Nat → Prop} {E : Nat → Nat → Prop} {post : SX → Prop} {c : Int32} {rg ro nu fi sr sn sf iS fd fs : Nat → Int32} {m : Nat} {x : Int32} (hE : ∀ a b, E a b → b < 24) (h1 : ph_fin fi E) (h2 : ∀ m b, m < 24 → E m b → b < 24 → ∃ r, r < 2 ∧ fi (2 * m + r + 2) = nI (ph_f b)) (hm : m ≤ 24) (s1 : m < 24 → S m) (hS : ∀ a, S a → a < 24 ∧ a = m) (hx : x = nI (ph_f m)) (hp : ∀ fd' fs', ph_F S E fd' → post (nI (ph_c fd' 25), rg, ro, nu, fi, sr, sn, sf, iS, fd', fs')) (z0 : ∀ j, j < 25 → fd j = 0) : wpX_find (fun u => wpX_walkPresentFields post u) (nI 0, rg, ro, nu, fi, sr, sn, sf, iS, fd, fs) x := by
  rw [hx]
  refine ph_find (ph_W_0 (R := ph_R S E) z0) hm (fun l => ph_R_s (s1 l)) (fun c1 fd1 fs1 w1 x1 f1 => ?_)
  refine ph_wp w1 h1 h2 (fun c3 fd3 fs3 w3 x3 d3 => ?_)
  have en := ph_end hE (fun a ha => by
    obtain ⟨la, e⟩ := hS a ha
    subst e
    exact ⟨la, x3.2.1 _ (f1 la)⟩) w3 d3
  have := hp fd3 fs3 ⟨w3.1, en⟩
  rw [← w3.2.1] at this
  exact this
theorem ph_snf {post : Int32 → Prop} {c : Int32} {rg ro nu fi sr sn sf iS fd fs : Nat → Int32} (ha : (∀ m, m < 24 → ¬ fd (m + 1) = 0) → post 0) (hm : ∀ m, m < 24 → fd (m + 1) = 0 → (∀ j, j < m → ¬ fd (j + 1) = 0) → post (nI (m + 1))) : wpX_slotNotFound post (c, rg, ro, nu, fi, sr, sn, sf, iS, fd, fs) := by
  refine pk_loop (σ := Unit) (fun n i _ => wX_slotNotFound_2 post c rg ro nu fi sr sn sf iS fd fs n (nI i)) (fun i _ => 1 ≤ i ∧ ∀ j, j + 1 < i → ¬ fd (j + 1) = 0) 25 1 () (by omega) ⟨by omega, fun j h => absurd h (by omega)⟩ ?_ ?_
  · intro n _ h
    exact br_t (nI_le (a := 25) (b := 25) (by decide) (by decide)) (ha (fun m hm => h.2 m (by omega)))
  · intro n i _ hi h k
    refine br_f (nI_ge (b := 25) hi (by decide)) ⟨vp_in_nI hi (by decide), ?_⟩
    rw [nI_clamp (n := i) (by omega)]
    obtain ⟨q, rfl⟩ : ∃ q, i = q + 1 := ⟨i - 1, by have := h.1; omega⟩
    by_cases z : fd (q + 1) = 0
    · exact br_t z (hm q (by omega) z (fun j hj => h.2 j (by omega)))
    · refine br_f z (nm_r (nI_1 (q + 1)) (k () ⟨by omega, fun j hj => ?_⟩))
      by_cases e : j = q
      · subst e; exact z
      · exact h.2 j (by omega)
