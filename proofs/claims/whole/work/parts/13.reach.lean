theorem i_vc_reach {k : Nat} {u : SX} {v : SY} (I : i_Rel k u v) (hk : k + 4 ≤ 2048) (v1 : Int32) : wpX_reach (fun r u' => wpY_reach (fun r' v' => r' = r ∧ i_Rel (k + 4) u' v') v v1) u v1 := by
  obtain ⟨c, rg, ro, nu, fi, sr, sn, sf, iS, fd, fs⟩ := u
  obtain ⟨nw, th, fl, og, sv, rt, ot, ry, se⟩ := v
  have H : ph_Rel rg ro nu fi sr sn sf iS nw th fl og sv rt ot ry := I
  have hf := H.2.2.2.1
  have hsf := H.2.2.2.2.2.2.2.2.1
  unfold wpX_reach wpY_reach
  rcases ph_ix v1 3 (by decide) with hb | ⟨q, hq, rfl⟩
  · exact ph_X0_Root hb (br_t rfl (ph_Y0_Root hb (br_t rfl ⟨rfl, H⟩)))
  · obtain ⟨m, hm, e1, e2⟩ := H.2.1 q hq
    have cq : (nI q).toNatClampNeg = q := nI_clamp (by omega)
    refine ph_X1_Root hq (br_f (by decide) (ph_start (fun fd0 z0 => ⟨vp_in_nI hq (by decide), ?_⟩)))
    rw [cq, e1]
    have w0 : ph_W (ph_R (fun a => a < 24 ∧ a = m) (ph_E 0 fl og sv)) fd0 fs 0 := ph_W_0 z0
    refine ph_find w0 hm (fun l => ph_R_s ⟨l, rfl⟩) (fun c1 fd1 fs1 w1 x1 f1 => ?_)
    refine ph_wp w1 (ph_E_fin hf) (ph_E_h2 hf) (fun c3 fd3 fs3 w3 x3 d3 => ?_)
    have en := ph_end (fun a b h => h.1) (fun a ha => by
      obtain ⟨la, e⟩ := ha
      subst e
      exact ⟨la, x3.2.1 _ (f1 la)⟩) w3 d3
    refine ph_Y1_Root hq (br_f (by decide) (ph_forget (fun se0 y0 => ⟨vp_in_nI hq (by decide), ?_⟩)))
    rw [e2, nI_clamp (n := m) (by omega)]
    refine ⟨vp_in_nI (by omega) (by decide), nm_e ?_⟩
    refine ph_follow (S := fun a => a < 24 ∧ a = m) (fun k hk => ph_Py (hf k hk)) (fun k hk z => ph_Py (hsf k hk z)) (ph_so_u (ph_so_0 y0) (fun l => ph_R_s ⟨l, rfl⟩)) (fun a ha => ⟨ha.1, by rw [ha.2]; exact ph_at_u ph_n1z⟩) (fun se' hse => ⟨?_, H⟩)
    rw [w3.2.1]
    exact ph_ans ⟨w3.1, en⟩ hse
