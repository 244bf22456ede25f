theorem i_vc_fromField {k : Nat} {u : SX} {v : SY} (I : i_Rel k u v) (hk : k + 4 ≤ 2048) (v1 : Int32) (v2 : Int32) (v3 : Int32) : wpX_fromField (fun r u' => wpY_fromField (fun r' v' => r' = r ∧ i_Rel (k + 4) u' v') v v1 v2 v3) u v1 v2 v3 := by
  obtain ⟨c, rg, ro, nu, fi, sr, sn, sf, iS, fd, fs⟩ := u
  obtain ⟨nw, th, fl, og, sv, rt, ot, ry, se⟩ := v
  have H : ph_Rel rg ro nu fi sr sn sf iS nw th fl og sv rt ot ry := I
  unfold wpX_fromField wpY_fromField
  rcases ph_ix v1 4 (by decide) with hb | ⟨g, hg, rfl⟩
  · exact ph_X0_Register hb (br_t rfl (ph_Y0_Register hb (br_t rfl ⟨rfl, H⟩)))
  · refine ph_X1_Register hg (br_f (by decide) ?_)
    rcases ph_ix v2 4 (by decide) with hb | ⟨s, hs, rfl⟩
    · exact ph_X0_Register hb (br_t rfl (ph_Y1_Register hg (br_f (by decide) (ph_Y0_Register hb (br_t rfl ⟨rfl, H⟩)))))
    · refine ph_X1_Register hs (br_f (by decide) ?_)
      rcases ph_ix v3 2 (by decide) with hb | ⟨f, hf, rfl⟩
      · exact ph_X0_Field hb (br_t rfl (ph_Y1_Register hg (br_f (by decide) (ph_Y1_Register hs (br_f (by decide) (ph_fY0 hb ⟨rfl, H⟩))))))
      · obtain ⟨m, hm, e1, e2⟩ := H.1 s hs
        have cg : (nI g).toNatClampNeg = g := nI_clamp (by omega)
        have cs : (nI s).toNatClampNeg = s := nI_clamp (by omega)
        refine ph_X1_Field hf (br_f (by decide) ⟨vp_in_nI hs (by decide), nm_r ((congrArg rg cs).trans e1) ?_⟩)
        by_cases l : m < 24
        · have ix : nI (m + 1) * 2 + nI f = nI (2 * m + f + 2) := (ph_i2 (m + 1) f).trans (congrArg nI (by omega))
          rw [ph_fl l, ix, nI_clamp (n := 2 * m + f + 2) (by omega)]
          refine br_f (nI_ne0 (by omega) (by omega)) ⟨vp_in_nI (by omega) (by decide), vp_in_nI hg (by decide), nm_e ?_⟩
          refine ph_Y1_Register hg (br_f (by decide) (ph_Y1_Register hs (br_f (by decide) (ph_fY1 hf ⟨vp_in_nI hs (by decide), ?_⟩))))
          rw [cs, e2, ph_2i, nI_clamp (n := 2 * m + f) (by omega), cg]
          exact br_f (fun z => absurd (ph_niq (n := 24) (by omega) (by omega) z) (by omega)) ⟨vp_in_nI hs (by decide), vp_in_nI (by omega) (by decide), vp_in_nI hg (by decide), nm_e ⟨rfl, ph_Rreg H (ph_P_u H.1 (H.2.2.2.1 (2 * m + f) (by omega)))⟩⟩
        · have e : m = 24 := by omega
          subst e
          refine br_t rfl (ph_Y1_Register hg (br_f (by decide) (ph_Y1_Register hs (br_f (by decide) (ph_fY1 hf ⟨vp_in_nI hs (by decide), ?_⟩)))))
          rw [cs, e2]
          exact br_t rfl ⟨rfl, H⟩
theorem ph_P_uf {a b : Nat → Int32} {k : Nat} {x y : Int32} (h : ∀ j, j < 48 → ph_P (a (j + 2)) (b j)) (hx : ph_P x y) : ∀ j, j < 48 → ph_P (upd a (k + 2) x (j + 2)) (upd b k y j) := by
  intro j hj
  by_cases e : j = k
  · subst e; rw [pk_us, pk_us]; exact hx
  · rw [pk_un e, pk_un (by omega)]; exact h j hj
theorem i_vc_toField {k : Nat} {u : SX} {v : SY} (I : i_Rel k u v) (hk : k + 4 ≤ 2048) (v1 : Int32) (v2 : Int32) (v3 : Int32) : wpX_toField (fun r u' => wpY_toField (fun r' v' => r' = r ∧ i_Rel (k + 4) u' v') v v1 v2 v3) u v1 v2 v3 := by
  obtain ⟨c, rg, ro, nu, fi, sr, sn, sf, iS, fd, fs⟩ := u
  obtain ⟨nw, th, fl, og, sv, rt, ot, ry, se⟩ := v
  have H : ph_Rel rg ro nu fi sr sn sf iS nw th fl og sv rt ot ry := I
  unfold wpX_toField wpY_toField
  rcases ph_ix v1 4 (by decide) with hb | ⟨s, hs, rfl⟩
  · refine ph_X0_Register hb (br_t rfl ?_)
    rcases ph_ix v3 4 (by decide) with hc | ⟨g, hg, rfl⟩
    · exact ph_Y0_Register hc (br_t rfl ⟨rfl, H⟩)
    · exact ph_Y1_Register hg (br_f (by decide) (ph_Y0_Register hb (br_t rfl ⟨rfl, H⟩)))
  · refine ph_X1_Register hs (br_f (by decide) ?_)
    rcases ph_ix v2 2 (by decide) with hb | ⟨f, hf, rfl⟩
    · refine ph_X0_Field hb (br_t rfl ?_)
      rcases ph_ix v3 4 (by decide) with hc | ⟨g, hg, rfl⟩
      · exact ph_Y0_Register hc (br_t rfl ⟨rfl, H⟩)
      · exact ph_Y1_Register hg (br_f (by decide) (ph_Y1_Register hs (br_f (by decide) (ph_fY0 hb ⟨rfl, H⟩))))
    · refine ph_X1_Field hf (br_f (by decide) ?_)
      rcases ph_ix v3 4 (by decide) with hb | ⟨g, hg, rfl⟩
      · exact ph_X0_Register hb (br_t rfl (ph_Y0_Register hb (br_t rfl ⟨rfl, H⟩)))
      · obtain ⟨m, hm, e1, e2⟩ := H.1 s hs
        have cg : (nI g).toNatClampNeg = g := nI_clamp (by omega)
        have cs : (nI s).toNatClampNeg = s := nI_clamp (by omega)
        refine ph_X1_Register hg (br_f (by decide) ⟨vp_in_nI hs (by decide), nm_r ((congrArg rg cs).trans e1) ?_⟩)
        by_cases l : m < 24
        · have ix : nI (m + 1) * 2 + nI f = nI (2 * m + f + 2) := (ph_i2 (m + 1) f).trans (congrArg nI (by omega))
          rw [ph_fl l, ix, nI_clamp (n := 2 * m + f + 2) (by omega)]
          refine br_f (nI_ne0 (by omega) (by omega)) ⟨vp_in_nI hg (by decide), vp_in_nI (by omega) (by decide), nm_e ?_⟩
          refine ph_Y1_Register hg (br_f (by decide) (ph_Y1_Register hs (br_f (by decide) (ph_fY1 hf ⟨vp_in_nI hs (by decide), ?_⟩))))
          rw [cs, e2, ph_2i, nI_clamp (n := 2 * m + f) (by omega), cg]
          exact br_f (fun z => absurd (ph_niq (n := 24) (by omega) (by omega) z) (by omega)) ⟨vp_in_nI hs (by decide), vp_in_nI hg (by decide), vp_in_nI (by omega) (by decide), nm_e ⟨rfl, ph_Rfield H (ph_P_uf H.2.2.2.1 (H.1 g hg))⟩⟩
        · have e : m = 24 := by omega
          subst e
          refine br_t rfl (ph_Y1_Register hg (br_f (by decide) (ph_Y1_Register hs (br_f (by decide) (ph_fY1 hf ⟨vp_in_nI hs (by decide), ?_⟩)))))
          rw [cs, e2]
          exact br_t rfl ⟨rfl, H⟩
theorem i_vc_make {k : Nat} {u : SX} {v : SY} (I : i_Rel k u v) (hk : k + 4 ≤ 2048) (v1 : Int32) (v2 : Int32) : wpX_make (fun r u' => wpY_make (fun r' v' => r' = r ∧ i_Rel (k + 4) u' v') v v1 v2) u v1 v2 := by
  obtain ⟨c, rg, ro, nu, fi, sr, sn, sf, iS, fd, fs⟩ := u
  obtain ⟨nw, th, fl, og, sv, rt, ot, ry, se⟩ := v
  have H : ph_Rel rg ro nu fi sr sn sf iS nw th fl og sv rt ot ry := I
  unfold wpX_make wpY_make
  rcases ph_ix v1 4 (by decide) with hb | ⟨g, hg, rfl⟩
  · exact ph_X0_Register hb (br_t rfl (ph_Y0_Register hb (br_t rfl ⟨rfl, H⟩)))
  · refine ph_X1_Register hg (br_f (by decide) ?_)
    refine ph_vwn H (fun fd' fs' hF => ?_)
    refine ph_snf (fun ha => ?_) (fun m hm z hl => ?_)
    · refine br_t rfl (ph_Y1_Register hg (br_f (by decide) (ph_vnd H (fun se' hse => ?_))))
      have full : ph_c se' 24 = 24 := ph_c_full 24 (fun j hj => (hse j hj).mpr ((hF.2 j hj).mp (ha j hj)))
      exact br_t (congrArg nI full) ⟨rfl, H⟩
    · refine br_f (nI_ne0 (by omega) (by omega)) ?_
      refine ph_fill hm (fun fi' sf' h1 h2 => ⟨vp_in_nI hg (by decide), nm_e ?_⟩)
      refine ph_Y1_Register hg (br_f (by decide) (ph_vnd H (fun se' hse => ?_)))
      have zs : se' m = 0 := Classical.byContradiction (fun y => (hF.2 m hm).mpr ((hse m hm).mp y) z)
      have ls : ∀ j, j < m → ¬ se' j = 0 := fun j hj => (hse j (by omega)).mpr ((hF.2 j (by omega)).mp (hl j hj))
      have lt := ph_c_lt 24 m hm zs
      refine br_f (fun y => absurd (ph_niq (n := 24) (by omega) (by omega) y) (by omega)) ⟨25, ?_⟩
      refine ph_m28 hg hm zs ls ?_ 24 0 (by omega) (Or.inl hm)
      refine ⟨rfl, ?_⟩
      rw [nI_clamp (n := g) (by omega)]
      exact ph_Rmake H hm h1 h2
