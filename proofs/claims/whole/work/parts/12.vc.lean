theorem ph_R_mono {S S' : Nat → Prop} {E E' : Nat → Nat → Prop} {m : Nat} (hS : ∀ a, S a → S' a) (hE : ∀ a b, E a b → E' a b) (h : ph_R S E m) : ph_R S' E' m := fun P hs he => h P (fun a ha => hs a (hS a ha)) (fun a b pa e => he a b pa (hE a b e))
theorem ph_E0 {fl fl' og og' sv sv' : Nat → Int32} {a b : Nat} (h2 : ∀ k, k < 48 → fl k = fl' k) (h : ph_E 0 fl og sv a b) : ph_E 0 fl' og' sv' a b := by
  obtain ⟨l, k, hk, ek, ho⟩ := h
  refine ⟨l, k, hk, ek, Or.inl ?_⟩
  rcases ho with ho | ⟨ho, _⟩
  · rw [← h2 k hk]; exact ho
  · exact absurd rfl ho
theorem ph_S10 {rt rt' : Nat → Int32} {a : Nat} (h1 : ∀ r, r < 3 → rt r = rt' r) (h : ph_S1 rt a) : ph_S1 rt' a := by
  obtain ⟨l, r, hr, e⟩ := h
  exact ⟨l, r, hr, by rw [← h1 r hr]; exact e⟩
theorem ph_cg {rt rt' fl fl' og og' sv sv' : Nat → Int32} (h1 : ∀ r, r < 3 → rt r = rt' r) (h2 : ∀ k, k < 48 → fl k = fl' k) (m : Nat) : ph_R (ph_S1 rt) (ph_E 0 fl og sv) m ↔ ph_R (ph_S1 rt') (ph_E 0 fl' og' sv') m :=
  ⟨ph_R_mono (fun _ => ph_S10 h1) (fun _ _ => ph_E0 h2), ph_R_mono (fun _ => ph_S10 (fun r hr => (h1 r hr).symm)) (fun _ _ => ph_E0 (fun k hk => (h2 k hk).symm))⟩
theorem i_vc_save {k : Nat} {u : SX} {v : SY} (I : i_Rel k u v) (hk : k + 4 ≤ 2048) : wpX_save (fun r u' => wpY_save (fun r' v' => r' = r ∧ i_Rel (k + 4) u' v') v) u := by
  obtain ⟨c, rg, ro, nu, fi, sr, sn, sf, iS, fd, fs⟩ := u
  obtain ⟨nw, th, fl, og, sv, rt, ot, ry, se⟩ := v
  have H : ph_Rel rg ro nu fi sr sn sf iS nw th fl og sv rt ot ry := I
  unfold wpX_save
  refine ph_keep (fun sr' sn' iS' sf' h1 h2 h3 h4 => ?_)
  have H0 : ph_Rel rg ro nu fi sr' sn' sf' iS' nw nw fl fl (fun _ => 1) rt rt ry := ph_Rsave H h1 h2 h3 h4 (fun _ _ => rfl) (fun _ _ => rfl) (fun _ _ => rfl) (fun _ _ => rfl)
  refine ph_vcfr H0 (fun fd' fs' hF => ?_)
  refine ph_save (fun th' og' sv' ot' g1 g2 g3 g4 P hP => ?_)
  have H1 := ph_Rsave H h1 h2 h3 h4 g1 g2 g3 g4
  refine ph_vfr H1 (fun se' hse => hP _ _ ⟨?_, H1⟩)
  exact ph_ans hF (fun m hm => (hse m hm).trans (ph_cg (fun _ _ => rfl) (fun _ _ => rfl) m))
theorem i_vc_back {k : Nat} {u : SX} {v : SY} (I : i_Rel k u v) (hk : k + 4 ≤ 2048) : wpX_back (fun r u' => wpY_back (fun r' v' => r' = r ∧ i_Rel (k + 4) u' v') v) u := by
  obtain ⟨c, rg, ro, nu, fi, sr, sn, sf, iS, fd, fs⟩ := u
  obtain ⟨nw, th, fl, og, sv, rt, ot, ry, se⟩ := v
  have H : ph_Rel rg ro nu fi sr sn sf iS nw th fl og sv rt ot ry := I
  unfold wpX_back
  refine ph_rest (fun ro' nu' fi' h1 h0 h2 h3 => ?_)
  have H0 : ph_Rel rg ro' nu' fi' sr sn sf iS (fun k => if sv k = 0 then nw k else th k) th (fun k => if sv (k / 2) = 0 then fl k else og k) og sv ot ot ry := ph_Rback H h1 h0 h2 h3 (fun _ _ => rfl) (fun _ _ => rfl) (fun _ _ => rfl)
  refine ph_vcfr H0 (fun fd' fs' hF => ?_)
  refine ph_back (fun nw' fl' rt' g1 g2 g3 P hP => ?_)
  have H1 := ph_Rback H h1 h0 h2 h3 g1 g2 g3
  refine ph_vfr H1 (fun se' hse => hP _ _ ⟨?_, H1⟩)
  exact ph_ans hF (fun m hm => (hse m hm).trans (ph_cg g3 g2 m))
section
variable {rg ro nu fi sr sn sf iS fd fs nw th fl og sv rt ot ry se : Nat → Int32} {c : Int32}
/-- the component's losing of what isn't saved, and its count -/
theorem ph_xl (H : ph_Rel rg ro nu fi sr sn sf iS nw th fl og sv rt ot ry) {post : Int32 → SX → Prop} (hp : ∀ rg' ro' nu' fi' fd' fs', (∀ nw' fl' rt' ry', (∀ k, k < 24 → nw' k = if sv k = 0 then nw k else th k) → (∀ k, k < 48 → fl' k = if sv (k / 2) = 0 then fl k else og k) → (∀ r, r < 3 → rt' r = ot r) → (∀ g, g < 4 → ry' g = nI 24) → ph_Rel rg' ro' nu' fi' sr sn sf iS nw' th fl' og sv rt' ot ry') → ph_F (ph_S1 ot) (ph_E 0 (fun k => if sv (k / 2) = 0 then fl k else og k) og sv) fd' → post (nI (ph_c fd' 25)) (nI (ph_c fd' 25), rg', ro', nu', fi', sr, sn, sf, iS, fd', fs')) : wX_crash_20 post c rg ro nu fi sr sn sf iS fd fs := by
  unfold wX_crash_20
  refine ph_lose (fun rg' ro' nu' fi' h5 h1 h0 h2 h3 => ?_)
  have Q : ∀ nw' fl' rt' ry', (∀ k, k < 24 → nw' k = if sv k = 0 then nw k else th k) → (∀ k, k < 48 → fl' k = if sv (k / 2) = 0 then fl k else og k) → (∀ r, r < 3 → rt' r = ot r) → (∀ g, g < 4 → ry' g = nI 24) → ph_Rel rg' ro' nu' fi' sr sn sf iS nw' th fl' og sv rt' ot ry' := by
    intro nw' fl' rt' ry' g1 g2 g3 g4
    exact ph_Rreg (ph_Rback H h1 h0 h2 h3 g1 g2 g3) (fun g hg => ph_P24 (h5 g hg) (g4 g hg))
  refine ph_vcfr (Q (fun k => if sv k = 0 then nw k else th k) (fun k => if sv (k / 2) = 0 then fl k else og k) ot (fun _ => nI 24) (fun _ _ => rfl) (fun _ _ => rfl) (fun _ _ => rfl) (fun _ _ => rfl)) (fun fd' fs' hF => ?_)
  exact hp rg' ro' nu' fi' fd' fs' Q hF
theorem ph_xl2 {x : Int32} (H : ph_Rel rg ro nu fi sr sn sf iS nw th fl og sv rt ot ry) {post : Int32 → SX → Prop} (hp : ∀ rg' ro' nu' fi' fd' fs', (∀ nw' fl' rt' ry', (∀ k, k < 24 → nw' k = if sv k = 0 then nw k else th k) → (∀ k, k < 48 → fl' k = if sv (k / 2) = 0 then fl k else og k) → (∀ r, r < 3 → rt' r = ot r) → (∀ g, g < 4 → ry' g = nI 24) → ph_Rel rg' ro' nu' fi' sr sn sf iS nw' th fl' og sv rt' ot ry') → ph_F (ph_S1 ot) (ph_E 0 (fun k => if sv (k / 2) = 0 then fl k else og k) og sv) fd' → post (nI (ph_c fd' 25)) (nI (ph_c fd' 25), rg', ro', nu', fi', sr, sn, sf, iS, fd', fs')) : wpX_collectAndCrash post (c, rg, ro, nu, fi, sr, sn, sf, iS, fd, fs) x := by
  unfold wpX_collectAndCrash
  refine ph_lose (fun rg' ro' nu' fi' h5 h1 h0 h2 h3 => ?_)
  have Q : ∀ nw' fl' rt' ry', (∀ k, k < 24 → nw' k = if sv k = 0 then nw k else th k) → (∀ k, k < 48 → fl' k = if sv (k / 2) = 0 then fl k else og k) → (∀ r, r < 3 → rt' r = ot r) → (∀ g, g < 4 → ry' g = nI 24) → ph_Rel rg' ro' nu' fi' sr sn sf iS nw' th fl' og sv rt' ot ry' := by
    intro nw' fl' rt' ry' g1 g2 g3 g4
    exact ph_Rreg (ph_Rback H h1 h0 h2 h3 g1 g2 g3) (fun g hg => ph_P24 (h5 g hg) (g4 g hg))
  refine ph_vcfr (Q (fun k => if sv k = 0 then nw k else th k) (fun k => if sv (k / 2) = 0 then fl k else og k) ot (fun _ => nI 24) (fun _ _ => rfl) (fun _ _ => rfl) (fun _ _ => rfl) (fun _ _ => rfl)) (fun fd' fs' hF => ?_)
  exact hp rg' ro' nu' fi' fd' fs' Q hF
/-- the reference's crash behind the saving, against the component's -/
theorem ph_yl {rg' ro' nu' fi' fd' ox : Nat → Int32} {fx fy gy : Nat → Int32} {k : Nat} {x : SX} (Q : ∀ nw' fl' rt' ry', (∀ k, k < 24 → nw' k = if sv k = 0 then nw k else th k) → (∀ k, k < 48 → fl' k = if sv (k / 2) = 0 then fl k else og k) → (∀ r, r < 3 → rt' r = ot r) → (∀ g, g < 4 → ry' g = nI 24) → ph_Rel rg' ro' nu' fi' sr sn sf iS nw' th fl' og sv rt' ot ry') (hF : ph_F (ph_S1 ox) (ph_E 0 fx fy gy) fd') (e1 : ∀ r, r < 3 → ot r = ox r) (e2 : ∀ k, k < 48 → (if sv (k / 2) = 0 then fl k else og k) = fx k) (hx : ∀ nw' fl' rt' ry' se', ph_Rel rg' ro' nu' fi' sr sn sf iS nw' th fl' og sv rt' ot ry' → i_Rel k x (nw', th, fl', og, sv, rt', ot, ry', se')) : ∃ n, wY_crash_23 (fun r' v' => r' = nI (ph_c fd' 25) ∧ i_Rel k x v') n 0 nw th fl og sv rt ot ry se := by
  refine ph_cry (fun nw' fl' rt' ry' g1 g2 g3 g4 P hP => ?_)
  have H1 := Q nw' fl' rt' ry' g1 g2 g3 g4
  refine ph_vfr H1 (fun se' hse => hP _ _ ⟨?_, hx nw' fl' rt' ry' se' H1⟩)
  exact ph_ans hF (fun m hm => (hse m hm).trans (ph_cg (fun r hr => (g3 r hr).trans (e1 r hr)) (fun k hk => (g2 k hk).trans (e2 k hk)) m))
end
/-- a saved side that is the present one of the reference, written otherwise -/
theorem ph_Rsv {rg ro nu fi sr sn sf iS nw nw0 fl fl0 rt rt0 ry th' og' sv' ot' : Nat → Int32} (H : ph_Rel rg ro nu fi sr sn sf iS nw nw0 fl fl0 (fun _ => 1) rt rt0 ry) (g1 : ∀ k, k < 24 → th' k = nw0 k) (g2 : ∀ k, k < 24 → sv' k = 1) (g3 : ∀ k, k < 48 → og' k = fl0 k) (g4 : ∀ r, r < 3 → ot' r = rt0 r) : ph_Rel rg ro nu fi sr sn sf iS nw th' fl og' sv' rt ot' ry := by
  obtain ⟨hg, hro, hsr, hf, hn0, hn, hsn, his, hsf, hsf0⟩ := H
  refine ⟨hg, hro, fun r hr => ?_, hf, hn0, hn, fun m hm => ?_, fun m hm => ?_, fun k hk _ => ?_, fun k hk z => ?_⟩
  · rw [g4 r hr]; exact hsr r hr
  · rw [g1 m hm]; exact hsn m hm
  · rw [g2 m hm]; exact his m hm
  · rw [g3 k hk]; exact hsf k hk (show ¬ (1 : Int32) = 0 by decide)
  · rw [g2 (k / 2) (by omega)] at z
    exact absurd z (by decide)
theorem i_vc_crash {k : Nat} {u : SX} {v : SY} (I : i_Rel k u v) (hk : k + 4 ≤ 2048) (v1 : Int32) : wpX_crash (fun r u' => wpY_crash (fun r' v' => r' = r ∧ i_Rel (k + 4) u' v') v v1) u v1 := by
  obtain ⟨c, rg, ro, nu, fi, sr, sn, sf, iS, fd, fs⟩ := u
  obtain ⟨nw, th, fl, og, sv, rt, ot, ry, se⟩ := v
  have H : ph_Rel rg ro nu fi sr sn sf iS nw th fl og sv rt ot ry := I
  unfold wpX_crash wpY_crash
  by_cases z0 : v1 < 0
  · exact br_t z0 (br_t z0 ⟨rfl, H⟩)
  · refine br_f z0 ?_
    by_cases z1 : v1 ≤ 2
    · refine br_t z1 ?_
      by_cases z2 : v1 = 2
      · refine br_t z2 (ph_keep (fun sr' sn' iS' sf' h1 h2 h3 h4 => ?_))
        have H0 : ph_Rel rg ro nu fi sr' sn' sf' iS' nw nw fl fl (fun _ => 1) rt rt ry := ph_Rsave H h1 h2 h3 h4 (fun _ _ => rfl) (fun _ _ => rfl) (fun _ _ => rfl) (fun _ _ => rfl)
        refine ph_xl H0 (fun rg' ro' nu' fi' fd' fs' Q hF => br_f z0 (br_t z1 (br_t z2 ?_)))
        refine ph_save (fun th' og' sv' ot' g1 g2 g3 g4 P hP => ?_)
        have H1 := ph_Rsave H h1 h2 h3 h4 g1 g2 g3 g4
        refine ph_vfr H1 (fun se' hse => hP _ _ ?_)
        refine ph_yl (fun nw' fl' rt' ry' q1 q2 q3 q4 => ?_) hF g4 (fun j hj => ?_) (fun nw' fl' rt' ry' se' h => h)
        · have H2 := Q nw' fl' rt' ry' (fun j hj => ?_) (fun j hj => ?_) (fun r hr => (q3 r hr).trans (g4 r hr)) q4
          · exact ph_Rsv H2 g1 g2 g3 g4
          · rw [q1 j hj, g2 j hj, g1 j hj]
          · rw [q2 j hj, g2 (j / 2) (by omega), g3 j hj]
        · rw [g2 (j / 2) (by omega), g3 j hj]
      · refine br_f z2 (ph_xl H (fun rg' ro' nu' fi' fd' fs' Q hF => br_f z0 (br_t z1 (br_f z2 ?_))))
        exact ph_yl Q hF (fun _ _ => rfl) (fun _ _ => rfl) (fun nw' fl' rt' ry' se' h => h)
    · exact br_f z1 (br_f z0 (br_f z1 ⟨rfl, H⟩))
theorem i_vc_collectAndCrash {k : Nat} {u : SX} {v : SY} (I : i_Rel k u v) (hk : k + 4 ≤ 2048) (v1 : Int32) : wpX_collectAndCrash (fun r u' => wpY_collectAndCrash (fun r' v' => r' = r ∧ i_Rel (k + 4) u' v') v v1) u v1 := by
  obtain ⟨c, rg, ro, nu, fi, sr, sn, sf, iS, fd, fs⟩ := u
  obtain ⟨nw, th, fl, og, sv, rt, ot, ry, se⟩ := v
  have H : ph_Rel rg ro nu fi sr sn sf iS nw th fl og sv rt ot ry := I
  have d1 : ¬ (0 : Int32) < 0 := by decide
  have d2 : (0 : Int32) ≤ 2 := by decide
  have d3 : ¬ (0 : Int32) = 2 := by decide
  refine ph_xl2 H (fun rg' ro' nu' fi' fd' fs' Q hF => ?_)
  unfold wpY_collectAndCrash wpY_crash
  refine br_f d1 (br_t d2 (br_f d3 ?_))
  exact ph_yl Q hF (fun _ _ => rfl) (fun _ _ => rfl) (fun nw' fl' rt' ry' se' h => h)
theorem i_vc_collect {k : Nat} {u : SX} {v : SY} (I : i_Rel k u v) (hk : k + 4 ≤ 2048) : wpX_collect (fun r u' => wpY_collect (fun r' v' => r' = r ∧ i_Rel (k + 4) u' v') v) u := by
  obtain ⟨c, rg, ro, nu, fi, sr, sn, sf, iS, fd, fs⟩ := u
  obtain ⟨nw, th, fl, og, sv, rt, ot, ry, se⟩ := v
  have H : ph_Rel rg ro nu fi sr sn sf iS nw th fl og sv rt ot ry := I
  unfold wpX_collect wpY_collect
  exact ph_vwn H (fun fd' fs' hF => ph_vnd H (fun se' hse => ⟨ph_ans hF hse, H⟩))
theorem i_vc_needed {k : Nat} {u : SX} {v : SY} (I : i_Rel k u v) (hk : k + 4 ≤ 2048) : wpX_needed (fun r u' => wpY_needed (fun r' v' => r' = r ∧ i_Rel (k + 4) u' v') v) u := by
  obtain ⟨c, rg, ro, nu, fi, sr, sn, sf, iS, fd, fs⟩ := u
  obtain ⟨nw, th, fl, og, sv, rt, ot, ry, se⟩ := v
  have H : ph_Rel rg ro nu fi sr sn sf iS nw th fl og sv rt ot ry := I
  unfold wpX_needed wpY_needed
  exact ph_vwn H (fun fd' fs' hF => ph_vnd H (fun se' hse => ⟨ph_ans hF hse, H⟩))
