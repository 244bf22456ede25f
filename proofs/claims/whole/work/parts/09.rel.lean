/-- the two states, slot by slot -/
def ph_Rel (rg ro nu fi sr sn sf iS nw th fl og sv rt ot ry : Nat → Int32) : Prop :=
  (∀ g, g < 4 → ph_P (rg g) (ry g)) ∧ (∀ r, r < 3 → ph_P (ro r) (rt r)) ∧ (∀ r, r < 3 → ph_P (sr r) (ot r)) ∧ (∀ k, k < 48 → ph_P (fi (k + 2)) (fl k)) ∧ nu 0 = 0 ∧ (∀ m, m < 24 → nu (m + 1) = nw m) ∧ (∀ m, m < 24 → sn (m + 1) = th m) ∧ (∀ m, m < 24 → iS (m + 1) = sv m) ∧ (∀ k, k < 48 → ¬ sv (k / 2) = 0 → ph_P (sf (k + 2)) (og k)) ∧ (∀ k, k < 48 → sv (k / 2) = 0 → sf (k + 2) = 0)
def i_Rel (_ : Nat) (u : SX) (v : SY) : Prop := match u, v with
  | (_, rg, ro, nu, fi, sr, sn, sf, iS, _, _), (nw, th, fl, og, sv, rt, ot, ry, _) => ph_Rel rg ro nu fi sr sn sf iS nw th fl og sv rt ot ry
theorem i_up {k : Nat} {u : SX} {v : SY} (h : i_Rel k u v) : i_Rel (k + 4) u v := h
theorem ph_P0 : ph_P 0 (nI 24) := ⟨24, Nat.le_refl 24, rfl, rfl⟩
theorem ph_P24 {x y : Int32} (hx : x = 0) (hy : y = nI 24) : ph_P x y := by rw [hx, hy]; exact ph_P0
theorem ph_Pm {m : Nat} (h : m < 24) : ph_P (nI (m + 1)) (nI m) := ⟨m, by omega, by rw [ph_fl h], rfl⟩
theorem ph_P_u {a b : Nat → Int32} {n k : Nat} {x y : Int32} (h : ∀ j, j < n → ph_P (a j) (b j)) (hx : ph_P x y) : ∀ j, j < n → ph_P (upd a k x j) (upd b k y j) := by
  intro j hj
  by_cases e : j = k
  · subst e; rw [pk_us, pk_us]; exact hx
  · rw [pk_un e, pk_un e]; exact h j hj
/-- the seeds of the need: registers, roots, old roots -/
def ph_S (rt ot ry : Nat → Int32) (a : Nat) : Prop := a < 24 ∧ ((∃ g, g < 4 ∧ ry g = nI a) ∨ (∃ r, r < 3 ∧ rt r = nI a) ∨ (∃ r, r < 3 ∧ ot r = nI a))
def ph_S1 (rt : Nat → Int32) (a : Nat) : Prop := a < 24 ∧ ∃ r, r < 3 ∧ rt r = nI a
theorem ph_pin {a b : Nat → Int32} {n : Nat} {T : Nat → Prop} (h : ∀ r, r < n → ph_P (a r) (b r)) (t : ∀ r m, r < n → m < 24 → b r = nI m → T m) : ph_in a n T := by
  intro r hr
  obtain ⟨m, hm, e1, e2⟩ := h r hr
  exact ⟨m, hm, e1, fun l => t r m hr l e2⟩
theorem ph_piy {a b : Nat → Int32} {n : Nat} {T : Nat → Prop} (h : ∀ r, r < n → ph_P (a r) (b r)) (t : ∀ r m, r < n → m < 24 → b r = nI m → T m) : ph_iy b n T := by
  intro r hr
  obtain ⟨m, hm, e1, e2⟩ := h r hr
  exact ⟨m, hm, e2, fun l => t r m hr l e2⟩
theorem ph_Pf {x y : Int32} {b : Nat} (h : ph_P x y) (hb : b ≤ 24) (e : y = nI b) : x = nI (ph_f b) := by
  obtain ⟨m, hm, e1, e2⟩ := h
  have := ph_niq (by omega) (by omega) (e.symm.trans e2)
  subst this
  exact e1
theorem ph_Py {x y : Int32} (h : ph_P x y) : ∃ b, b ≤ 24 ∧ y = nI b := by
  obtain ⟨m, hm, _, e2⟩ := h
  exact ⟨m, hm, e2⟩
theorem ph_E_fin {bo : Int32} {fi fl og sv : Nat → Int32} (h : ∀ k, k < 48 → ph_P (fi (k + 2)) (fl k)) : ph_fin fi (ph_E bo fl og sv) := by
  intro m r hm hr
  obtain ⟨b, hb, e1, e2⟩ := h (2 * m + r) (by omega)
  exact ⟨b, hb, e1, fun l => ⟨l, 2 * m + r, by omega, by omega, Or.inl e2⟩⟩
theorem ph_E_fins {sf fl og sv : Nat → Int32} (h : ∀ k, k < 48 → ¬ sv (k / 2) = 0 → ph_P (sf (k + 2)) (og k)) (h0 : ∀ k, k < 48 → sv (k / 2) = 0 → sf (k + 2) = 0) : ph_fin sf (ph_E 1 fl og sv) := by
  intro m r hm hr
  by_cases z : sv ((2 * m + r) / 2) = 0
  · exact ⟨24, Nat.le_refl 24, h0 _ (by omega) z, fun l => absurd l (by omega)⟩
  · obtain ⟨b, hb, e1, e2⟩ := h (2 * m + r) (by omega) z
    have em : (2 * m + r) / 2 = m := by omega
    rw [em] at z
    exact ⟨b, hb, e1, fun l => ⟨l, 2 * m + r, by omega, em, Or.inr ⟨by decide, z, e2⟩⟩⟩
theorem ph_E_h2 {fi fl og sv : Nat → Int32} (h : ∀ k, k < 48 → ph_P (fi (k + 2)) (fl k)) : ∀ m b, m < 24 → ph_E 0 fl og sv m b → b < 24 → ∃ r, r < 2 ∧ fi (2 * m + r + 2) = nI (ph_f b) := by
  intro m b hm he hb
  obtain ⟨_, k, hk, ek, ho⟩ := he
  rcases ho with ho | ⟨ho, _⟩
  · have e : 2 * m + k % 2 = k := by omega
    refine ⟨k % 2, by omega, ?_⟩
    rw [e]
    exact ph_Pf (h k hk) (by omega) ho
  · exact absurd rfl ho
theorem ph_E_h2s {fi sf fl og sv : Nat → Int32} (h : ∀ k, k < 48 → ph_P (fi (k + 2)) (fl k)) (g : ∀ k, k < 48 → ¬ sv (k / 2) = 0 → ph_P (sf (k + 2)) (og k)) : ∀ m b, m < 24 → ph_E 1 fl og sv m b → b < 24 → (∃ r, r < 2 ∧ fi (2 * m + r + 2) = nI (ph_f b)) ∨ (∃ r, r < 2 ∧ sf (2 * m + r + 2) = nI (ph_f b)) := by
  intro m b hm he hb
  obtain ⟨_, k, hk, ek, ho⟩ := he
  have e : 2 * m + k % 2 = k := by omega
  rcases ho with ho | ⟨_, hs, ho⟩
  · refine Or.inl ⟨k % 2, by omega, ?_⟩
    rw [e]
    exact ph_Pf (h k hk) (by omega) ho
  · refine Or.inr ⟨k % 2, by omega, ?_⟩
    rw [e]
    rw [← ek] at hs
    exact ph_Pf (g k hk hs) (by omega) ho
section
variable {rg ro nu fi sr sn sf iS fd fs nw th fl og sv rt ot ry se : Nat → Int32} {c : Int32}
theorem ph_vwn (H : ph_Rel rg ro nu fi sr sn sf iS nw th fl og sv rt ot ry) {post : SX → Prop} (hp : ∀ fd' fs', ph_F (ph_S rt ot ry) (ph_E 1 fl og sv) fd' → post (nI (ph_c fd' 25), rg, ro, nu, fi, sr, sn, sf, iS, fd', fs')) : wpX_walkNeeded post (c, rg, ro, nu, fi, sr, sn, sf, iS, fd, fs) := by
  obtain ⟨hg, hro, hsr, hf, hn0, hn, hsn, his, hsf, hsf0⟩ := H
  refine ph_walkNeeded (S := ph_S rt ot ry) (E := ph_E 1 fl og sv) (fun a b h => h.1) (ph_E_fin hf) (ph_E_fins hsf hsf0) (ph_E_h2s hf hsf) (ph_pin hg (fun r m hr hm e => ⟨hm, Or.inl ⟨r, hr, e⟩⟩)) (ph_pin hro (fun r m hr hm e => ⟨hm, Or.inr (Or.inl ⟨r, hr, e⟩)⟩)) (ph_pin hsr (fun r m hr hm e => ⟨hm, Or.inr (Or.inr ⟨r, hr, e⟩)⟩)) (fun a ha => ⟨ha.1, ?_⟩) hp
  rcases ha.2 with ⟨g, l, e⟩ | ⟨g, l, e⟩ | ⟨g, l, e⟩
  · exact Or.inl ⟨g, l, ph_Pf (hg g l) (by have := ha.1; omega) e⟩
  · exact Or.inr (Or.inl ⟨g, l, ph_Pf (hro g l) (by have := ha.1; omega) e⟩)
  · exact Or.inr (Or.inr ⟨g, l, ph_Pf (hsr g l) (by have := ha.1; omega) e⟩)
theorem ph_vnd (H : ph_Rel rg ro nu fi sr sn sf iS nw th fl og sv rt ot ry) {post : Int32 → SY → Prop} (hp : ∀ se', (∀ m, m < 24 → (¬ se' m = 0 ↔ ph_R (ph_S rt ot ry) (ph_E 1 fl og sv) m)) → post (nI (ph_c se' 24)) (nw, th, fl, og, sv, rt, ot, ry, se')) : wpY_need post (nw, th, fl, og, sv, rt, ot, ry, se) := by
  obtain ⟨hg, hro, hsr, hf, hn0, hn, hsn, his, hsf, hsf0⟩ := H
  refine ph_need (S := ph_S rt ot ry) (fun k hk => ph_Py (hf k hk)) (fun k hk z => ph_Py (hsf k hk z)) (ph_piy hro (fun r m hr hm e => ⟨hm, Or.inr (Or.inl ⟨r, hr, e⟩)⟩)) (ph_piy hsr (fun r m hr hm e => ⟨hm, Or.inr (Or.inr ⟨r, hr, e⟩)⟩)) (ph_piy hg (fun r m hr hm e => ⟨hm, Or.inl ⟨r, hr, e⟩⟩)) (fun a ha => ⟨ha.1, ?_⟩) hp
  rcases ha.2 with h | h | h
  · exact Or.inr (Or.inr h)
  · exact Or.inl h
  · exact Or.inr (Or.inl h)
theorem ph_vcfr (H : ph_Rel rg ro nu fi sr sn sf iS nw th fl og sv rt ot ry) {post : Int32 → SX → Prop} (hp : ∀ fd' fs', ph_F (ph_S1 rt) (ph_E 0 fl og sv) fd' → post (nI (ph_c fd' 25)) (nI (ph_c fd' 25), rg, ro, nu, fi, sr, sn, sf, iS, fd', fs')) : wpX_countFromRoots post (c, rg, ro, nu, fi, sr, sn, sf, iS, fd, fs) := by
  obtain ⟨hg, hro, hsr, hf, hn0, hn, hsn, his, hsf, hsf0⟩ := H
  refine ph_cfr (S := ph_S1 rt) (E := ph_E 0 fl og sv) (fun a b h => h.1) (ph_E_fin hf) (ph_E_h2 hf) (ph_pin hro (fun r m hr hm e => ⟨hm, r, hr, e⟩)) (fun a ha => ⟨ha.1, ?_⟩) hp
  obtain ⟨la, g, l, e⟩ := ha
  exact ⟨g, l, ph_Pf (hro g l) (by omega) e⟩
theorem ph_vfr (H : ph_Rel rg ro nu fi sr sn sf iS nw th fl og sv rt ot ry) {post : Int32 → SY → Prop} (hp : ∀ se', (∀ m, m < 24 → (¬ se' m = 0 ↔ ph_R (ph_S1 rt) (ph_E 0 fl og sv) m)) → post (nI (ph_c se' 24)) (nw, th, fl, og, sv, rt, ot, ry, se')) : wpY_fromRoots post (nw, th, fl, og, sv, rt, ot, ry, se) := by
  obtain ⟨hg, hro, hsr, hf, hn0, hn, hsn, his, hsf, hsf0⟩ := H
  exact ph_fromRoots (S := ph_S1 rt) (fun k hk => ph_Py (hf k hk)) (fun k hk z => ph_Py (hsf k hk z)) (ph_piy hro (fun r m hr hm e => ⟨hm, r, hr, e⟩)) (fun a ha => ha) hp
theorem ph_ans {S : Nat → Prop} {E : Nat → Nat → Prop} (h : ph_F S E fd) (g : ∀ m, m < 24 → (¬ se m = 0 ↔ ph_R S E m)) : nI (ph_c se 24) = nI (ph_c fd 25) := by
  have e : ph_c fd 25 = ph_c se 24 := ph_c_shift h.1 24 (fun j hj => by
    constructor
    · intro z
      exact Classical.byContradiction (fun y => (h.2 j hj).mpr ((g j hj).mp y) z)
    · intro z
      exact Classical.byContradiction (fun y => (g j hj).mpr ((h.2 j hj).mp y) z))
  rw [e]
/-- after saving -/
theorem ph_Rsave {sr' sn' iS' sf' th' og' sv' ot' : Nat → Int32} (H : ph_Rel rg ro nu fi sr sn sf iS nw th fl og sv rt ot ry) (h1 : ∀ r, r < 3 → sr' r = ro r) (h2 : ∀ m, m < 24 → sn' (m + 1) = nu (m + 1)) (h3 : ∀ m, m < 24 → iS' (m + 1) = 1) (h4 : ∀ k, k < 50 → sf' k = fi k) (g1 : ∀ k, k < 24 → th' k = nw k) (g2 : ∀ k, k < 24 → sv' k = 1) (g3 : ∀ k, k < 48 → og' k = fl k) (g4 : ∀ r, r < 3 → ot' r = rt r) : ph_Rel rg ro nu fi sr' sn' sf' iS' nw th' fl og' sv' rt ot' ry := by
  obtain ⟨hg, hro, hsr, hf, hn0, hn, hsn, his, hsf, hsf0⟩ := H
  refine ⟨hg, hro, fun r hr => ?_, hf, hn0, hn, fun m hm => ?_, fun m hm => ?_, fun k hk _ => ?_, fun k hk z => ?_⟩
  · rw [h1 r hr, g4 r hr]; exact hro r hr
  · rw [h2 m hm, g1 m hm]; exact hn m hm
  · rw [h3 m hm, g2 m hm]
  · rw [h4 (k + 2) (by omega), g3 k hk]; exact hf k hk
  · rw [g2 (k / 2) (by omega)] at z
    exact absurd z (by decide)
/-- after going back -/
theorem ph_Rback {ro' nu' fi' nw' fl' rt' : Nat → Int32} (H : ph_Rel rg ro nu fi sr sn sf iS nw th fl og sv rt ot ry) (h1 : ∀ r, r < 3 → ro' r = sr r) (h0 : nu' 0 = nu 0) (h2 : ∀ m, m < 24 → nu' (m + 1) = if iS (m + 1) = 0 then nu (m + 1) else sn (m + 1)) (h3 : ∀ k, k < 48 → fi' (k + 2) = if iS (k / 2 + 1) = 0 then fi (k + 2) else sf (k + 2)) (g1 : ∀ k, k < 24 → nw' k = if sv k = 0 then nw k else th k) (g2 : ∀ k, k < 48 → fl' k = if sv (k / 2) = 0 then fl k else og k) (g3 : ∀ r, r < 3 → rt' r = ot r) : ph_Rel rg ro' nu' fi' sr sn sf iS nw' th fl' og sv rt' ot ry := by
  obtain ⟨hg, hro, hsr, hf, hn0, hn, hsn, his, hsf, hsf0⟩ := H
  refine ⟨hg, fun r hr => ?_, hsr, fun k hk => ?_, h0.trans hn0, fun m hm => ?_, hsn, his, hsf, hsf0⟩
  · rw [h1 r hr, g3 r hr]; exact hsr r hr
  · rw [h3 k hk, g2 k hk, his (k / 2) (by omega)]
    by_cases z : sv (k / 2) = 0
    · rw [if_pos z, if_pos z]; exact hf k hk
    · rw [if_neg z, if_neg z]; exact hsf k hk z
  · rw [h2 m hm, g1 m hm, his m hm]
    by_cases z : sv m = 0
    · rw [if_pos z, if_pos z]; exact hn m hm
    · rw [if_neg z, if_neg z]; exact hsn m hm
theorem ph_Rreg {rg' ry' : Nat → Int32} (H : ph_Rel rg ro nu fi sr sn sf iS nw th fl og sv rt ot ry) (h : ∀ g, g < 4 → ph_P (rg' g) (ry' g)) : ph_Rel rg' ro nu fi sr sn sf iS nw th fl og sv rt ot ry' := ⟨h, H.2⟩
theorem ph_Rroot {ro' rt' : Nat → Int32} (H : ph_Rel rg ro nu fi sr sn sf iS nw th fl og sv rt ot ry) (h : ∀ r, r < 3 → ph_P (ro' r) (rt' r)) : ph_Rel rg ro' nu fi sr sn sf iS nw th fl og sv rt' ot ry := ⟨H.1, h, H.2.2⟩
theorem ph_Rfield {fi' fl' : Nat → Int32} (H : ph_Rel rg ro nu fi sr sn sf iS nw th fl og sv rt ot ry) (h : ∀ k, k < 48 → ph_P (fi' (k + 2)) (fl' k)) : ph_Rel rg ro nu fi' sr sn sf iS nw th fl' og sv rt ot ry := ⟨H.1, H.2.1, H.2.2.1, h, H.2.2.2.2⟩
theorem ph_Rnum {m : Nat} {x : Int32} (H : ph_Rel rg ro nu fi sr sn sf iS nw th fl og sv rt ot ry) : ph_Rel rg ro (upd nu (m + 1) x) fi sr sn sf iS (upd nw m x) th fl og sv rt ot ry := by
  obtain ⟨hg, hro, hsr, hf, hn0, hn, hsn, his, hsf, hsf0⟩ := H
  refine ⟨hg, hro, hsr, hf, ?_, fun j hj => ?_, hsn, his, hsf, hsf0⟩
  · rw [pk_un (by omega)]; exact hn0
  · by_cases e : j = m
    · subst e; rw [pk_us, pk_us]
    · rw [pk_un e, pk_un (by omega)]; exact hn j hj
theorem ph_Rmake {fi' sf' : Nat → Int32} {m g : Nat} {x : Int32} (H : ph_Rel rg ro nu fi sr sn sf iS nw th fl og sv rt ot ry) (hm : m < 24) (h1 : ∀ r, r < 2 → fi' (2 * m + r + 2) = 0 ∧ sf' (2 * m + r + 2) = 0) (h2 : ∀ j, j < 2 * m + 2 ∨ 2 * m + 4 ≤ j → fi' j = fi j ∧ sf' j = sf j) : ph_Rel (upd rg g (nI (m + 1))) ro (upd nu (m + 1) x) fi' sr sn sf' (upd iS (m + 1) 0) (upd nw m x) th (upd (upd fl (2 * m) (nI 24)) (2 * m + 1) (nI 24)) og (upd sv m 0) rt ot (upd ry g (nI m)) := by
  have H2 := ph_Rnum (m := m) (x := x) H
  obtain ⟨hg, hro, hsr, hf, hn0, hn, hsn, his, hsf, hsf0⟩ := H2
  have at0 : ∀ k, k / 2 = m → fi' (k + 2) = 0 ∧ sf' (k + 2) = 0 := by
    intro k e
    have ek : k + 2 = 2 * m + k % 2 + 2 := by omega
    rw [ek]
    exact h1 (k % 2) (by omega)
  refine ⟨ph_P_u hg (ph_Pm hm), hro, hsr, fun k hk => ?_, hn0, hn, hsn, fun j hj => ?_, fun k hk z => ?_, fun k hk z => ?_⟩
  · by_cases e : k / 2 = m
    · refine ph_P24 (at0 k e).1 ?_
      by_cases e1 : k = 2 * m + 1
      · rw [e1, pk_us]
      · have e2 : k = 2 * m := by omega
        rw [pk_un e1, e2, pk_us]
    · rw [pk_un (by omega), pk_un (by omega), (h2 (k + 2) (by omega)).1]; exact hf k hk
  · by_cases e : j = m
    · subst e; rw [pk_us, pk_us]
    · rw [pk_un e, pk_un (by omega)]; exact his j hj
  · by_cases e : k / 2 = m
    · rw [e, pk_us] at z; exact absurd rfl z
    · rw [pk_un e] at z
      rw [(h2 (k + 2) (by omega)).2]; exact hsf k hk z
  · by_cases e : k / 2 = m
    · exact (at0 k e).2
    · rw [pk_un e] at z
      rw [(h2 (k + 2) (by omega)).2]; exact hsf0 k hk z
end
