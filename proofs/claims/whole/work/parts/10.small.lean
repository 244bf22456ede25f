theorem ph_X0_Register {post : Int32 → Prop} {p : Int32} (h : p < 0 ∨ nI 4 ≤ p) (hp : post 0) : wpX_isRegister post p := by
  by_cases z : p < 0
  · exact br_t z hp
  · rcases h with h | h
    · exact absurd h z
    · exact br_f z (br_t h hp)
theorem ph_X1_Register {post : Int32 → Prop} {g : Nat} (h : g < 4) (hp : post 1) : wpX_isRegister post (nI g) := br_f (nI_pos (by omega)) (br_f (nI_ge (b := 4) h (by decide)) hp)
theorem ph_Y0_Register {post : Int32 → Prop} {v : SY} {p : Int32} (h : p < 0 ∨ nI 4 ≤ p) (hp : post 0) : wpY_isRegister post v p := by
  by_cases z : p < 0
  · exact br_t z hp
  · rcases h with h | h
    · exact absurd h z
    · obtain ⟨j, hj, rfl⟩ := nI_of z
      have h2 := (nI_leI (a := 4) (by decide) hj).mp h
      exact br_f z (br_t (nI_lt (a := 3) (b := j) (by omega) hj) hp)
theorem ph_Y1_Register {post : Int32 → Prop} {v : SY} {g : Nat} (h : g < 4) (hp : post 1) : wpY_isRegister post v (nI g) := br_f (nI_pos (by omega)) (br_f (nI_nlt (a := 3) (b := g) (by omega) (by decide)) hp)
theorem ph_X0_Root {post : Int32 → Prop} {p : Int32} (h : p < 0 ∨ nI 3 ≤ p) (hp : post 0) : wpX_isRoot post p := by
  by_cases z : p < 0
  · exact br_t z hp
  · rcases h with h | h
    · exact absurd h z
    · exact br_f z (br_t h hp)
theorem ph_X1_Root {post : Int32 → Prop} {g : Nat} (h : g < 3) (hp : post 1) : wpX_isRoot post (nI g) := br_f (nI_pos (by omega)) (br_f (nI_ge (b := 3) h (by decide)) hp)
theorem ph_Y0_Root {post : Int32 → Prop} {v : SY} {p : Int32} (h : p < 0 ∨ nI 3 ≤ p) (hp : post 0) : wpY_isRoot post v p := by
  by_cases z : p < 0
  · exact br_t z hp
  · rcases h with h | h
    · exact absurd h z
    · obtain ⟨j, hj, rfl⟩ := nI_of z
      have h2 := (nI_leI (a := 3) (by decide) hj).mp h
      exact br_f z (br_t (nI_lt (a := 2) (b := j) (by omega) hj) hp)
theorem ph_Y1_Root {post : Int32 → Prop} {v : SY} {g : Nat} (h : g < 3) (hp : post 1) : wpY_isRoot post v (nI g) := br_f (nI_pos (by omega)) (br_f (nI_nlt (a := 2) (b := g) (by omega) (by decide)) hp)
theorem ph_X0_Field {post : Int32 → Prop} {p : Int32} (h : p < 0 ∨ nI 2 ≤ p) (hp : post 0) : wpX_isField post p := by
  by_cases z : p < 0
  · exact br_t z hp
  · rcases h with h | h
    · exact absurd h z
    · exact br_f z (br_t h hp)
theorem ph_X1_Field {post : Int32 → Prop} {g : Nat} (h : g < 2) (hp : post 1) : wpX_isField post (nI g) := br_f (nI_pos (by omega)) (br_f (nI_ge (b := 2) h (by decide)) hp)
/-- the reference's own look at a field's number -/
theorem ph_fY0 {A B : Prop} {p : Int32} (h : p < 0 ∨ nI 2 ≤ p) (hp : A) : (p < 0 → A) ∧ (¬ p < 0 → ((p ≤ 1 → B) ∧ (¬ p ≤ 1 → A))) := by
  by_cases z : p < 0
  · exact br_t z hp
  · rcases h with h | h
    · exact absurd h z
    · obtain ⟨j, hj, rfl⟩ := nI_of z
      have h2 := (nI_leI (a := 2) (by decide) hj).mp h
      exact br_f z (br_f (nI_ge (a := 1) (b := j) (by omega) hj) hp)
theorem ph_fY1 {A B C : Prop} {g : Nat} (h : g < 2) (hp : B) : (nI g < 0 → A) ∧ (¬ nI g < 0 → ((nI g ≤ 1 → B) ∧ (¬ nI g ≤ 1 → C))) := br_f (nI_pos (by omega)) (br_t (nI_le (a := g) (b := 1) (by omega) (by decide)) hp)
theorem ph_ix (x : Int32) (n : Nat) (hn : n < 2 ^ 31) : (x < 0 ∨ nI n ≤ x) ∨ ∃ j : Nat, j < n ∧ x = nI j := by
  rcases pk_ix x hn with h | h | h
  · exact Or.inl (Or.inl h)
  · exact Or.inl (Or.inr h)
  · exact Or.inr h
theorem i_vc0 : wpX_init (fun u => wpY_init (fun v => i_Rel 0 u v)) := by
  refine ph_initY (fun rt ot ry fl og h1 h2 h3 h4 h5 => ?_)
  exact ⟨fun g hg => ph_P24 rfl (h3 g hg), fun r hr => ph_P24 rfl (h1 r hr), fun r hr => ph_P24 rfl (h2 r hr), fun k hk => ph_P24 rfl (h4 k hk), rfl, fun _ _ => rfl, fun _ _ => rfl, fun _ _ => rfl, fun k hk _ => ph_P24 rfl (h5 k hk), fun _ _ _ => rfl⟩
theorem i_vc_fromRoot {k : Nat} {u : SX} {v : SY} (I : i_Rel k u v) (hk : k + 4 ≤ 2048) (v1 : Int32) (v2 : Int32) : wpX_fromRoot (fun r u' => wpY_fromRoot (fun r' v' => r' = r ∧ i_Rel (k + 4) u' v') v v1 v2) u v1 v2 := by
  obtain ⟨c, rg, ro, nu, fi, sr, sn, sf, iS, fd, fs⟩ := u
  obtain ⟨nw, th, fl, og, sv, rt, ot, ry, se⟩ := v
  have H : ph_Rel rg ro nu fi sr sn sf iS nw th fl og sv rt ot ry := I
  unfold wpX_fromRoot wpY_fromRoot
  rcases ph_ix v1 4 (by decide) with hb | ⟨g, hg, rfl⟩
  · exact ph_X0_Register hb (br_t rfl (ph_Y0_Register hb (br_t rfl ⟨rfl, H⟩)))
  · refine ph_X1_Register hg (br_f (by decide) ?_)
    rcases ph_ix v2 3 (by decide) with hb | ⟨q, hq, rfl⟩
    · exact ph_X0_Root hb (br_t rfl (ph_Y1_Register hg (br_f (by decide) (ph_Y0_Root hb (br_t rfl ⟨rfl, H⟩)))))
    · refine ph_X1_Root hq (br_f (by decide) ⟨vp_in_nI hq (by decide), vp_in_nI hg (by decide), nm_e ?_⟩)
      refine ph_Y1_Register hg (br_f (by decide) (ph_Y1_Root hq (br_f (by decide) ⟨vp_in_nI hq (by decide), vp_in_nI hg (by decide), nm_e ⟨rfl, ?_⟩⟩)))
      rw [nI_clamp (n := g) (by omega), nI_clamp (n := q) (by omega)]
      exact ph_Rreg H (ph_P_u H.1 (H.2.1 q hq))
theorem i_vc_toRoot {k : Nat} {u : SX} {v : SY} (I : i_Rel k u v) (hk : k + 4 ≤ 2048) (v1 : Int32) (v2 : Int32) : wpX_toRoot (fun r u' => wpY_toRoot (fun r' v' => r' = r ∧ i_Rel (k + 4) u' v') v v1 v2) u v1 v2 := by
  obtain ⟨c, rg, ro, nu, fi, sr, sn, sf, iS, fd, fs⟩ := u
  obtain ⟨nw, th, fl, og, sv, rt, ot, ry, se⟩ := v
  have H : ph_Rel rg ro nu fi sr sn sf iS nw th fl og sv rt ot ry := I
  unfold wpX_toRoot wpY_toRoot
  rcases ph_ix v1 3 (by decide) with hb | ⟨q, hq, rfl⟩
  · refine ph_X0_Root hb (br_t rfl ?_)
    rcases ph_ix v2 4 (by decide) with hc | ⟨g, hg, rfl⟩
    · exact ph_Y0_Register hc (br_t rfl ⟨rfl, H⟩)
    · exact ph_Y1_Register hg (br_f (by decide) (ph_Y0_Root hb (br_t rfl ⟨rfl, H⟩)))
  · refine ph_X1_Root hq (br_f (by decide) ?_)
    rcases ph_ix v2 4 (by decide) with hc | ⟨g, hg, rfl⟩
    · exact ph_X0_Register hc (br_t rfl (ph_Y0_Register hc (br_t rfl ⟨rfl, H⟩)))
    · refine ph_X1_Register hg (br_f (by decide) ⟨vp_in_nI hg (by decide), vp_in_nI hq (by decide), nm_e ?_⟩)
      refine ph_Y1_Register hg (br_f (by decide) (ph_Y1_Root hq (br_f (by decide) ⟨vp_in_nI hg (by decide), vp_in_nI hq (by decide), nm_e ⟨rfl, ?_⟩⟩)))
      rw [nI_clamp (n := g) (by omega), nI_clamp (n := q) (by omega)]
      exact ph_Rroot H (ph_P_u H.2.1 (H.1 g hg))
theorem i_vc_release {k : Nat} {u : SX} {v : SY} (I : i_Rel k u v) (hk : k + 4 ≤ 2048) (v1 : Int32) : wpX_release (fun r u' => wpY_release (fun r' v' => r' = r ∧ i_Rel (k + 4) u' v') v v1) u v1 := by
  obtain ⟨c, rg, ro, nu, fi, sr, sn, sf, iS, fd, fs⟩ := u
  obtain ⟨nw, th, fl, og, sv, rt, ot, ry, se⟩ := v
  have H : ph_Rel rg ro nu fi sr sn sf iS nw th fl og sv rt ot ry := I
  unfold wpX_release wpY_release
  rcases ph_ix v1 4 (by decide) with hb | ⟨g, hg, rfl⟩
  · exact ph_X0_Register hb (br_t rfl (ph_Y0_Register hb (br_t rfl ⟨rfl, H⟩)))
  · refine ph_X1_Register hg (br_f (by decide) ⟨vp_in_nI hg (by decide), nm_e ?_⟩)
    refine ph_Y1_Register hg (br_f (by decide) ⟨vp_in_nI hg (by decide), nm_e ⟨rfl, ?_⟩⟩)
    rw [nI_clamp (n := g) (by omega)]
    exact ph_Rreg H (ph_P_u H.1 ph_P0)
theorem i_vc_number {k : Nat} {u : SX} {v : SY} (I : i_Rel k u v) (hk : k + 4 ≤ 2048) (v1 : Int32) : wpX_number (fun r => wpY_number (fun r' => r' = r ∧ i_Rel (k + 4) u v) v v1) u v1 := by
  obtain ⟨c, rg, ro, nu, fi, sr, sn, sf, iS, fd, fs⟩ := u
  obtain ⟨nw, th, fl, og, sv, rt, ot, ry, se⟩ := v
  have H : ph_Rel rg ro nu fi sr sn sf iS nw th fl og sv rt ot ry := I
  unfold wpX_number wpY_number
  rcases ph_ix v1 4 (by decide) with hb | ⟨g, hg, rfl⟩
  · exact ph_X0_Register hb (br_t rfl (ph_Y0_Register hb (br_t rfl ⟨rfl, H⟩)))
  · refine ph_X1_Register hg (br_f (by decide) ⟨vp_in_nI hg (by decide), ?_⟩)
    obtain ⟨m, hm, e1, e2⟩ := H.1 g hg
    have hf := ph_fle hm
    rw [nI_clamp (n := g) (by omega), e1, nI_clamp (n := ph_f m) (by omega)]
    refine ⟨vp_in_nI (by omega) (by decide), ?_⟩
    refine ph_Y1_Register hg (br_f (by decide) ⟨vp_in_nI hg (by decide), ?_⟩)
    rw [e2]
    by_cases l : m < 24
    · refine br_f (nI_ge (b := 24) l (by decide)) ⟨vp_in_nI hg (by decide), vp_in_nI l (by decide), ?_⟩
      rw [nI_clamp (n := m) (by omega), ph_fl l]
      exact ⟨(H.2.2.2.2.2.1 m l).symm, H⟩
    · have e : m = 24 := by omega
      subst e
      exact br_t (nI_le (a := 24) (b := 24) (by decide) (by decide)) ⟨H.2.2.2.2.1.symm, H⟩
theorem i_vc_setNumber {k : Nat} {u : SX} {v : SY} (I : i_Rel k u v) (hk : k + 4 ≤ 2048) (v1 : Int32) (v2 : Int32) : wpX_setNumber (fun r u' => wpY_setNumber (fun r' v' => r' = r ∧ i_Rel (k + 4) u' v') v v1 v2) u v1 v2 := by
  obtain ⟨c, rg, ro, nu, fi, sr, sn, sf, iS, fd, fs⟩ := u
  obtain ⟨nw, th, fl, og, sv, rt, ot, ry, se⟩ := v
  have H : ph_Rel rg ro nu fi sr sn sf iS nw th fl og sv rt ot ry := I
  unfold wpX_setNumber wpY_setNumber
  rcases ph_ix v1 4 (by decide) with hb | ⟨g, hg, rfl⟩
  · exact ph_X0_Register hb (br_t rfl (ph_Y0_Register hb (br_t rfl ⟨rfl, H⟩)))
  · obtain ⟨m, hm, e1, e2⟩ := H.1 g hg
    have cg : (nI g).toNatClampNeg = g := nI_clamp (by omega)
    refine ph_X1_Register hg (br_f (by decide) ⟨vp_in_nI hg (by decide), nm_r ((congrArg rg cg).trans e1) ?_⟩)
    by_cases l : m < 24
    · rw [ph_fl l, nI_clamp (n := m + 1) (by omega)]
      refine br_f (nI_ne0 (by omega) (by omega)) ⟨vp_in_nI (by omega) (by decide), nm_e ?_⟩
      refine ph_Y1_Register hg (br_f (by decide) ⟨vp_in_nI hg (by decide), ?_⟩)
      rw [cg, e2, nI_clamp (n := m) (by omega)]
      exact br_f (fun z => absurd (ph_niq (n := 24) (by omega) (by omega) z) (by omega)) ⟨vp_in_nI hg (by decide), vp_in_nI l (by decide), nm_e ⟨rfl, ph_Rnum H⟩⟩
    · have e : m = 24 := by omega
      subst e
      refine br_t rfl (ph_Y1_Register hg (br_f (by decide) ⟨vp_in_nI hg (by decide), ?_⟩))
      rw [cg, e2]
      exact br_t rfl ⟨rfl, H⟩
theorem i_vc_same {k : Nat} {u : SX} {v : SY} (I : i_Rel k u v) (hk : k + 4 ≤ 2048) (v1 : Int32) (v2 : Int32) : wpX_same (fun r => wpY_same (fun r' => r' = r ∧ i_Rel (k + 4) u v) v v1 v2) u v1 v2 := by
  obtain ⟨c, rg, ro, nu, fi, sr, sn, sf, iS, fd, fs⟩ := u
  obtain ⟨nw, th, fl, og, sv, rt, ot, ry, se⟩ := v
  have H : ph_Rel rg ro nu fi sr sn sf iS nw th fl og sv rt ot ry := I
  unfold wpX_same wpY_same
  rcases ph_ix v1 4 (by decide) with hb | ⟨g, hg, rfl⟩
  · exact ph_X0_Register hb (br_t rfl (ph_Y0_Register hb (br_t rfl ⟨rfl, H⟩)))
  · refine ph_X1_Register hg (br_f (by decide) ?_)
    rcases ph_ix v2 4 (by decide) with hb | ⟨q, hq, rfl⟩
    · exact ph_X0_Register hb (br_t rfl (ph_Y1_Register hg (br_f (by decide) (ph_Y0_Register hb (br_t rfl ⟨rfl, H⟩)))))
    · refine ph_X1_Register hq (br_f (by decide) ⟨vp_in_nI hg (by decide), vp_in_nI hq (by decide), ?_⟩)
      obtain ⟨m, hm, e1, e2⟩ := H.1 g hg
      obtain ⟨b, hb, d1, d2⟩ := H.1 q hq
      have cg : (nI g).toNatClampNeg = g := nI_clamp (by omega)
      have cq : (nI q).toNatClampNeg = q := nI_clamp (by omega)
      rw [cg, cq, e1, d1]
      by_cases e : m = b
      · subst e
        refine br_t rfl (ph_Y1_Register hg (br_f (by decide) (ph_Y1_Register hq (br_f (by decide) ⟨vp_in_nI hg (by decide), vp_in_nI hq (by decide), ?_⟩))))
        rw [e2, d2]
        exact br_t rfl ⟨rfl, H⟩
      · refine br_f (fun z => e (ph_finj2 hm hb z)) (ph_Y1_Register hg (br_f (by decide) (ph_Y1_Register hq (br_f (by decide) ⟨vp_in_nI hg (by decide), vp_in_nI hq (by decide), ?_⟩))))
        rw [e2, d2]
        exact br_f (fun z => e (ph_niq (by omega) (by omega) z)) ⟨rfl, H⟩
