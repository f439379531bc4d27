/-! THE COMPONENT'S CHECK: all of it -/
section XE
variable {xlim xpc xnd xwc xit xfc xwt xan xlp : Int32}
variable {xpo xpb xwd xwk xnk xco xcb xml xme xro xow xol xla xsh xoe xoh xsr xss xse xms xfm xfa xfd xcv xcr : Nat → Int32}
variable {op b : Nat → Nat} {n : Nat} {M : Nat → Nat → (Nat → Nat) → Prop}
theorem xe_l39 (post : Int32 → SX → Prop) (J : Int32 → Int32 → Int32 → Int32 → Int32 → Int32 → Int32 → Int32 → Int32 → Int32 → Int32 → (Nat → Int32) → (Nat → Int32) → (Nat → Int32) → (Nat → Int32) → (Nat → Int32) → (Nat → Int32) → (Nat → Int32) → (Nat → Int32) → (Nat → Int32) → (Nat → Int32) → (Nat → Int32) → (Nat → Int32) → (Nat → Int32) → (Nat → Int32) → (Nat → Int32) → (Nat → Int32) → (Nat → Int32) → (Nat → Int32) → (Nat → Int32) → (Nat → Int32) → (Nat → Int32) → (Nat → Int32) → (Nat → Int32) → (Nat → Int32) → (Nat → Int32) → Prop) {p : Nat} {D0 W0 : Nat → Nat} (hc : xw_code xpo xpb op b n)
    (hJ1 : ∀ wd wk wc nk nd D W, xw_T wd wk D W → rl_b wc → xw_A D0 W0 D W 0 wc → (wc = 0 → ∀ k, k < n → ∀ d, D0 k = d + 1 → xw_Q op b n D0 W0 D0 W0 k d) → (xw_Ce op b n M → xw_C M D W) → J 1 (nI (p + 1)) xlim xpc nd wc xit xfc xwt xan xlp xpo xpb wd wk nk xco xcb xml xme xro xow xol xla xsh xoe xoh xsr xss xse xms xfm xfa xfd xcv xcr)
    (hJ0 : ¬ xw_Ce op b n M → ∀ wd wk wc nk nd, J 0 (nI (p + 1)) xlim xpc nd wc xit xfc xwt xan xlp xpo xpb wd wk nk xco xcb xml xme xro xow xol xla xsh xoe xoh xsr xss xse xms xfm xfa xfd xcv xcr) :
    ∀ e k m wd wk wc nk nd D W, k + e = n → e < m → xw_T wd wk D W → rl_b wc → xw_A D0 W0 D W 0 wc → (wc = 0 → ∀ k', k' < k → ∀ d, D0 k' = d + 1 → xw_Q op b n D0 W0 D0 W0 k' d) → (xw_Ce op b n M → xw_C M D W) → wX_goesWellEveryWay_39 post J (nI n) (nI p) m 1 (nI k) xlim xpc nd wc xit xfc xwt xan xlp xpo xpb wd wk nk xco xcb xml xme xro xow xol xla xsh xoe xoh xsr xss xse xms xfm xfa xfd xcv xcr := by
  have hn := hc.1
  intro e
  induction e with
  | zero =>
    intro k m wd wk wc nk nd D W hk hm hT ha hA hQ hC
    obtain ⟨m, rfl⟩ : ∃ q, m = q + 1 := ⟨m - 1, by omega⟩
    obtain rfl : k = n := by omega
    exact br_t (nI_le (Nat.le_refl _) (by omega)) (nm_r (nI_1 p) (hJ1 wd wk wc nk nd D W hT ha hA hQ hC))
  | succ e ih =>
    intro k m wd wk wc nk nd D W hk hm hT ha hA hQ hC
    obtain ⟨m, rfl⟩ : ∃ q, m = q + 2 := ⟨m - 2, by omega⟩
    have e0 : (nI k).toNatClampNeg = k := nI_clamp (by omega)
    refine br_f (nI_ge (by omega) (by omega)) (br_f (by decide) ⟨pk_in k 16 (by omega), ?_⟩)
    rw [e0, (hT.1 k (by omega)).1]
    refine br_c (fun z => ?_) (fun z => ?_)
    · have y0 : D k = 0 := by
        have h5 := (hT.1 k (by omega)).2
        cases hq : D k with
        | zero => rfl
        | succ q =>
          rw [hq, rl_s1] at z
          have := nI_pos (n := q) (by omega)
          rw [z] at this
          exact absurd (by decide) this
      refine nm_r (nI_1 k) (ih (k + 1) (m + 1) wd wk wc nk nd D W (by omega) (by omega) hT ha hA (fun w k' hk' d hd => ?_) hC)
      by_cases q : k' = k
      · rcases hA.2.2 with ⟨rfl, _, _⟩ | ⟨h, _⟩
        · rw [q, y0] at hd
          omega
        · rw [h] at w
          exact absurd w (by decide)
      · exact hQ w k' (by omega) d hd
    · have y0 : D k ≠ 0 := fun q => z (by rw [q]; exact rl_m1)
      obtain ⟨d, hd⟩ : ∃ d, D k = d + 1 := ⟨D k - 1, by omega⟩
      refine xw_from (M := M) _ hc (by omega) hT ha hd hC (fun wd' wk' wc' nk' nd' D' W' q1 q2 q3 q4 q5 => nm_r (nI_1 k) (ih (k + 1) (m + 1) wd' wk' wc' nk' nd' D' W' (by omega) (by omega) q1 q2 (xw_A_tr hA q3) (fun w k' hk' d' hd' => ?_) q5)) (fun w wd' wk' wc' nk' nd' => nm_r (nI_1 k) (br_c (fun _ => nm_r (nI_1 p) (hJ0 w _ _ _ _ _)) (fun _ => br_t rfl (nm_r (nI_1 p) (hJ0 w _ _ _ _ _)))))
      rcases q3.2.2 with ⟨rfl, rfl, rfl⟩ | ⟨h, _⟩
      · rcases hA.2.2 with ⟨rfl, rfl, _⟩ | ⟨h, _⟩
        · by_cases q : k' = k
          · subst q
            rw [hd] at hd'
            obtain rfl : d = d' := by omega
            exact q4
          · exact hQ w k' (by omega) d' hd'
        · rw [h] at w
          exact absurd w (by decide)
      · rw [h] at w
        exact absurd w (by decide)
theorem xe_l13 (post : Int32 → SX → Prop) (hn0 : 0 < n) (hc : xw_code xpo xpb op b n) (hM : ck_good op b n → xw_Ce op b n M)
    (h1 : ck_good op b n → ∀ wd wk wc nk nd, post 1 (xlim, xpc, nd, wc, xit, xfc, xwt, xan, xlp, xpo, xpb, wd, wk, nk, xco, xcb, xml, xme, xro, xow, xol, xla, xsh, xoe, xoh, xsr, xss, xse, xms, xfm, xfa, xfd, xcv, xcr)) (h0 : ¬ ck_good op b n → ∀ wd wk wc nk nd, post 0 (xlim, xpc, nd, wc, xit, xfc, xwt, xan, xlp, xpo, xpb, wd, wk, nk, xco, xcb, xml, xme, xro, xow, xol, xla, xsh, xoe, xoh, xsr, xss, xse, xms, xfm, xfa, xfd, xcv, xcr)) :
    ∀ e p m wd wk nk nd D W, p + e = 145 → e < m → xw_T wd wk D W → D 0 = 1 → ck_has (W 0) 1 → ck_has (W 1) 0 → p + 1 ≤ ck_mu D W → (xw_Ce op b n M → xw_C M D W) → wX_goesWellEveryWay_13 post (nI n) m 1 (nI p) xlim xpc nd 1 xit xfc xwt xan xlp xpo xpb wd wk nk xco xcb xml xme xro xow xol xla xsh xoe xoh xsr xss xse xms xfm xfa xfd xcv xcr := by
  intro e
  induction e with
  | zero =>
    intro p m wd wk nk nd D W hp hm hT d0 w0 w1 hmu hC
    have := ck_mu_le (D := D) hT.2.2.1
    omega
  | succ e ih =>
    intro p m wd wk nk nd D W hp hm hT d0 w0 w1 hmu hC
    obtain ⟨m, rfl⟩ : ∃ q, m = q + 2 := ⟨m - 2, by omega⟩
    have hml := ck_mu_le (D := D) hT.2.2.1
    refine br_f (nI_ge (b := 145) (by omega) (by decide)) (br_f (by decide) (br_f (by decide) ⟨n + 1, ?_⟩))
    refine xe_l39 (M := M) post _ (D0 := D) (W0 := W) hc (fun wd' wk' wc' nk' nd' D' W' q1 q2 q3 q4 q5 => ?_) (fun w wd' wk' wc' nk' nd' => ?_) n 0 _ wd wk 0 nk nd D W (by omega) (by omega) hT (Or.inl rfl) xw_A_rf (fun _ k' hk' => absurd hk' (by omega)) hC
    · rcases q3.2.2 with ⟨rfl, rfl, rfl⟩ | ⟨rfl, hlt⟩
      · have hg : ck_good op b n := ck_xg hn0 (xw_code_p hc) d0 w0 w1 (fun k hk d hd => q4 rfl k hk d hd)
        exact br_c (fun _ => ⟨rfl, h1 hg _ _ _ _ _⟩) (fun _ => br_f (by decide) (br_t rfl ⟨rfl, h1 hg _ _ _ _ _⟩))
      · refine ih (p + 1) (m + 1) wd' wk' nk' nd' D' W' (by omega) (by omega) q1 ?_ (q3.2.1 0 (by decide) 1 w0) (q3.2.1 1 (by decide) 0 w1) (by omega) q5
        rw [q3.1 0 (by decide) (by omega), d0]
    · have hg : ¬ ck_good op b n := fun g => w (hM g)
      exact br_c (fun _ => ⟨rfl, h0 hg _ _ _ _ _⟩) (fun _ => br_t rfl ⟨rfl, h0 hg _ _ _ _ _⟩)
def xe_W0 : Nat → Nat := fun i => if i = 0 then 1 else if i = 1 then 4 else 0
def xe_D0 : Nat → Nat := fun k => if k = 0 then 1 else 0
theorem xe_T0 {wd wk : Nat → Int32} (h1 : ∀ k, k < 16 → wd k = -1) (h2 : ∀ i, i < 96 → wk i = 0) : xw_T (upd wd 0 0) (upd (upd wk 0 1) 1 4) xe_D0 xe_W0 := by
  refine ⟨fun k hk => ?_, fun i hi => ?_, fun i => ?_, fun k hk d hd j hj => ?_, fun k hk h0 j hj => ?_⟩
  · unfold xe_D0
    by_cases e : k = 0
    · subst e
      rw [pk_us, if_pos rfl]
      exact ⟨by decide, by decide⟩
    · rw [pk_un e, if_neg e, h1 k hk]
      exact ⟨rl_m1.symm, by omega⟩
  · unfold xe_W0
    by_cases e1 : i = 1
    · subst e1
      rw [pk_us]
      decide
    · rw [pk_un e1]
      by_cases e : i = 0
      · subst e
        rw [pk_us]
        decide
      · rw [pk_un e, if_neg e, if_neg e1, h2 i hi]
        decide
  · unfold xe_W0
    split
    · exact ⟨by omega, fun _ => by omega⟩
    · split
      · rename_i _ e
        exact ⟨by omega, fun h => absurd h (by omega)⟩
      · exact ⟨by omega, fun _ => by omega⟩
  · unfold xe_D0 at hd
    by_cases e : k = 0
    · subst e
      rw [if_pos rfl] at hd
      obtain rfl | rfl : j = 0 ∨ j = 1 := by omega
      · decide
      · decide
    · rw [if_neg e] at hd
      omega
  · unfold xe_D0 at h0
    by_cases e : k = 0
    · rw [if_pos e] at h0
      omega
    · unfold xe_W0
      rw [if_neg (by omega), if_neg (by omega)]
theorem xe_C0 (hM : M 0 0 ck_f0) : xw_C M xe_D0 xe_W0 := by
  intro k d hk hd
  unfold xe_D0 at hd
  by_cases e : k = 0
  · subst e
    rw [if_pos rfl] at hd
    obtain rfl : d = 0 := by omega
    refine ⟨⟨_, hM⟩, fun j hj c hc => ⟨_, hM, ?_⟩⟩
    obtain ⟨h3, hx⟩ := hc
    obtain rfl | rfl : j = 0 ∨ j = 1 := by omega
    · obtain rfl | rfl | rfl : c = 0 ∨ c = 1 ∨ c = 2 := by omega
      · exact absurd (by decide) hx
      · rfl
      · exact absurd (by decide) hx
    · obtain rfl | rfl | rfl : c = 0 ∨ c = 1 ∨ c = 2 := by omega
      · rfl
      · exact absurd (by decide) hx
      · exact absurd (by decide) hx
  · rw [if_neg e] at hd
    omega
theorem xe_begin (post : SX → Prop) (hp : ∀ wd wk, xw_T wd wk xe_D0 xe_W0 → post (xlim, xpc, xnd, xwc, xit, xfc, xwt, xan, xlp, xpo, xpb, wd, wk, xnk, xco, xcb, xml, xme, xro, xow, xol, xla, xsh, xoe, xoh, xsr, xss, xse, xms, xfm, xfa, xfd, xcv, xcr)) : wpX_beginWays post (xlim, xpc, xnd, xwc, xit, xfc, xwt, xan, xlp, xpo, xpb, xwd, xwk, xnk, xco, xcb, xml, xme, xro, xow, xol, xla, xsh, xoe, xoh, xsr, xss, xse, xms, xfm, xfa, xfd, xcv, xcr) := by
  have k2 : ∀ e i m wd wk, i + e = 96 → e < m → (∀ k, k < 16 → wd k = -1) → (∀ j, j < i → wk j = 0) → wX_beginWays_23 post xlim xpc xnd xwc xit xfc xwt xan xlp m (nI i) xpo xpb wd wk xnk xco xcb xml xme xro xow xol xla xsh xoe xoh xsr xss xse xms xfm xfa xfd xcv xcr := by
    intro e
    induction e with
    | zero =>
      intro i m wd wk hi hm h1 h2
      obtain ⟨m, rfl⟩ : ∃ q, m = q + 1 := ⟨m - 1, by omega⟩
      obtain rfl : i = 96 := by omega
      exact br_t (by decide) (nm_e (nm_e (nm_e (hp _ _ (xe_T0 h1 h2)))))
    | succ e ih =>
      intro i m wd wk hi hm h1 h2
      obtain ⟨m, rfl⟩ : ∃ q, m = q + 1 := ⟨m - 1, by omega⟩
      refine br_f (nI_ge (b := 96) (by omega) (by decide)) ⟨pk_in i 96 (by omega), nm_e (nm_r (nI_1 i) (ih (i + 1) m wd _ (by omega) (by omega) h1 (fun j hj => ?_)))⟩
      rw [nI_clamp (by omega)]
      by_cases q : j = i
      · rw [q, pk_us]
      · rw [pk_un q]
        exact h2 j (by omega)
  have k1 : ∀ e i m wd, i + e = 16 → e < m → (∀ j, j < i → wd j = -1) → wX_beginWays_2 post xlim xpc xnd xwc xit xfc xwt xan xlp m (nI i) xpo xpb wd xwk xnk xco xcb xml xme xro xow xol xla xsh xoe xoh xsr xss xse xms xfm xfa xfd xcv xcr := by
    intro e
    induction e with
    | zero =>
      intro i m wd hi hm h1
      obtain ⟨m, rfl⟩ : ∃ q, m = q + 1 := ⟨m - 1, by omega⟩
      obtain rfl : i = 16 := by omega
      exact br_t (by decide) ⟨97, k2 96 0 97 wd xwk (by omega) (by omega) h1 (fun j hj => absurd hj (by omega))⟩
    | succ e ih =>
      intro i m wd hi hm h1
      obtain ⟨m, rfl⟩ : ∃ q, m = q + 1 := ⟨m - 1, by omega⟩
      refine br_f (nI_ge (b := 16) (by omega) (by decide)) ⟨pk_in i 16 (by omega), nm_e (nm_r (nI_1 i) (ih (i + 1) m _ (by omega) (by omega) (fun j hj => ?_)))⟩
      rw [nI_clamp (by omega)]
      by_cases q : j = i
      · rw [q, pk_us]
      · rw [pk_un q]
        exact h1 j (by omega)
  exact ⟨17, k1 16 0 17 xwd (by omega) (by omega) (fun j hj => absurd hj (by omega))⟩
theorem xe_mu0 : 0 + 1 ≤ ck_mu xe_D0 xe_W0 := by decide +kernel
theorem xe_every (post : Int32 → SX → Prop) (hn0 : 0 < n) (hc : xw_code xpo xpb op b n)
    (h1 : ck_good op b n → ∀ wd wk wc nk nd, post 1 (xlim, xpc, nd, wc, xit, xfc, xwt, xan, xlp, xpo, xpb, wd, wk, nk, xco, xcb, xml, xme, xro, xow, xol, xla, xsh, xoe, xoh, xsr, xss, xse, xms, xfm, xfa, xfd, xcv, xcr)) (h0 : ¬ ck_good op b n → ∀ wd wk wc nk nd, post 0 (xlim, xpc, nd, wc, xit, xfc, xwt, xan, xlp, xpo, xpb, wd, wk, nk, xco, xcb, xml, xme, xro, xow, xol, xla, xsh, xoe, xoh, xsr, xss, xse, xms, xfm, xfa, xfd, xcv, xcr)) : wpX_goesWellEveryWay post (xlim, xpc, xnd, xwc, xit, xfc, xwt, xan, xlp, xpo, xpb, xwd, xwk, xnk, xco, xcb, xml, xme, xro, xow, xol, xla, xsh, xoe, xoh, xsr, xss, xse, xms, xfm, xfa, xfd, xcv, xcr) (nI n) := by
  have hM : ∃ M : Nat → Nat → (Nat → Nat) → Prop, ck_good op b n → xw_Ce op b n M ∧ M 0 0 ck_f0 := by
    by_cases g : ck_good op b n
    · obtain ⟨M, g1, g2, g3⟩ := g
      exact ⟨M, fun _ => ⟨⟨g2, g3⟩, g1⟩⟩
    · exact ⟨fun _ _ _ => True, fun z => absurd z g⟩
  obtain ⟨M, hM⟩ := hM
  refine xe_begin _ (fun wd wk hT => ⟨146, ?_⟩)
  by_cases g : ck_good op b n
  · exact xe_l13 (M := M) post hn0 hc (fun z => (hM z).1) h1 h0 145 0 146 wd wk xnk xnd xe_D0 xe_W0 (by omega) (by omega) hT rfl (by decide) (by decide) xe_mu0 (fun _ => xe_C0 (hM g).2)
  · exact xe_l13 (M := fun k d f => k = 0 ∧ d = 0 ∧ f = ck_f0) post hn0 hc (fun z => absurd z g) h1 h0 145 0 146 wd wk xnk xnd xe_D0 xe_W0 (by omega) (by omega) hT rfl (by decide) (by decide) xe_mu0 (fun _ => xe_C0 ⟨rfl, rfl, rfl⟩)
end XE
