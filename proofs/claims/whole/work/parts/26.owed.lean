/-! THE OWED STATEMENTS BUT INSTALL AND RUN -/
section OW
variable {xlim xpc xnd xwc xit xfc xwt xan xlp : Int32}
variable {xpo xpb xwd xwk xnk xco xcb xml xme xro xow xol xla xsh xoe xoh xsr xss xse xms xfm xfa xfd xcv xcr : Nat → Int32}
variable {ylim ywa ysk ylo yrn ysp yaw yan ywh you ygd yop : Int32}
variable {ymd : Int64}
variable {yops ybs ysz yex yow yle yel yla ysh yro yoe yoh yor yrw ynx ydp ypl ykd ymt ytd yht : Nat → Int32}
variable {yst yos : Nat → Int64}
theorem ow_init (post : SY → Prop) {L : Int32} (h : post (L, 0, 0, 0, 0, 0, -1, 0, -1, 0, 0, 0, 0, (fun _ => 0), (fun _ => 0), (fun _ => 0), (fun _ => 0), (fun _ => 0), (fun _ => 0), (fun _ => 0), (fun _ => 0), (fun _ => 0), (fun _ => 0), lo_f (fun _ => -1) 0 6 (fun _ => 0), (fun _ => 0), (fun _ => 0), (fun _ => 0), (fun _ => 0), (fun _ => 0), (fun _ => 0), (fun _ => 0), (fun _ => 0), (fun _ => 0), (fun _ => 0), (fun _ => 0), (fun _ => 0))) : ∃ n, wY_init_218 post L 0 0 0 0 0 0 0 0 0 0 0 0 n 0 (fun _ => 0) (fun _ => 0) (fun _ => 0) (fun _ => 0) (fun _ => 0) (fun _ => 0) (fun _ => 0) (fun _ => 0) (fun _ => 0) (fun _ => 0) (fun _ => 0) (fun _ => 0) (fun _ => 0) (fun _ => 0) (fun _ => 0) (fun _ => 0) (fun _ => 0) (fun _ => 0) (fun _ => 0) (fun _ => 0) (fun _ => 0) (fun _ => 0) (fun _ => 0) := by
  have key : ∀ e c m ro, c + e = 6 → e < m → post (L, 0, 0, 0, 0, 0, -1, 0, -1, 0, 0, 0, 0, (fun _ => 0), (fun _ => 0), (fun _ => 0), (fun _ => 0), (fun _ => 0), (fun _ => 0), (fun _ => 0), (fun _ => 0), (fun _ => 0), (fun _ => 0), lo_f (fun _ => -1) c 6 ro, (fun _ => 0), (fun _ => 0), (fun _ => 0), (fun _ => 0), (fun _ => 0), (fun _ => 0), (fun _ => 0), (fun _ => 0), (fun _ => 0), (fun _ => 0), (fun _ => 0), (fun _ => 0)) → wY_init_218 post L 0 0 0 0 0 0 0 0 0 0 0 0 m (nI c) (fun _ => 0) (fun _ => 0) (fun _ => 0) (fun _ => 0) (fun _ => 0) (fun _ => 0) (fun _ => 0) (fun _ => 0) (fun _ => 0) (fun _ => 0) ro (fun _ => 0) (fun _ => 0) (fun _ => 0) (fun _ => 0) (fun _ => 0) (fun _ => 0) (fun _ => 0) (fun _ => 0) (fun _ => 0) (fun _ => 0) (fun _ => 0) (fun _ => 0) := by
    intro e
    induction e with
    | zero =>
      intro c m ro hc hm hp
      obtain ⟨m, rfl⟩ : ∃ q, m = q + 1 := ⟨m - 1, by omega⟩
      obtain rfl : c = 6 := by omega
      rw [lo_e] at hp
      exact br_t (by decide) hp
    | succ e ih =>
      intro c m ro hc hm hp
      obtain ⟨m, rfl⟩ : ∃ q, m = q + 1 := ⟨m - 1, by omega⟩
      rw [← lo_s (val := fun _ => -1) (by omega)] at hp
      exact br_f (nI_ge (b := 6) (by omega) (by decide)) ⟨pk_in c 6 (by omega), nm_r (by rw [nI_clamp (by omega)]) (nm_r (nI_1 c) (ih (c + 1) m _ (by omega) (by omega) hp))⟩
  exact ⟨7, key 6 0 7 (fun _ => 0) (by omega) (by omega) h⟩
theorem ow_rel0 {l : Nat} {L : Int32} (hl : l ≤ 250) (e : L = nI l) : i_Rel 1 (L, 0, 0, 0, 0, 0, -1, 0, -1, (fun _ => 0), (fun _ => 0), (fun _ => 0), (fun _ => 0), (fun _ => 0), (fun _ => 0), (fun _ => 0), (fun _ => 0), (fun _ => 0), (fun _ => 0), (fun _ => 0), (fun _ => 0), (fun _ => 0), (fun _ => 0), (fun _ => 0), (fun _ => 0), (fun _ => 0), (fun _ => 0), (fun _ => 0), (fun _ => 0), (fun _ => 0), (fun _ => 0), (fun _ => 0), (fun _ => 0), (fun _ => 0)) (L, 0, 0, 0, 0, 0, -1, 0, -1, 0, 0, 0, 0, (fun _ => 0), (fun _ => 0), (fun _ => 0), (fun _ => 0), (fun _ => 0), (fun _ => 0), (fun _ => 0), (fun _ => 0), (fun _ => 0), (fun _ => 0), lo_f (fun _ => -1) 0 6 (fun _ => 0), (fun _ => 0), (fun _ => 0), (fun _ => 0), (fun _ => 0), (fun _ => 0), (fun _ => 0), (fun _ => 0), (fun _ => 0), (fun _ => 0), (fun _ => 0), (fun _ => 0), (fun _ => 0)) := by
  subst e
  refine ⟨rfl, rfl, ⟨l, hl, rfl, rfl⟩, ⟨0, by omega, rfl, rfl, fun i hi => absurd hi (by omega)⟩, fun m hm => ⟨0, by omega, rfl, rfl, rfl, Or.inl rfl, fun k hk => absurd hk (by omega), fun z => absurd z (by omega)⟩, ⟨fun r hr => ?_, fun o ho => ⟨rfl, rfl, rfl, rfl, Or.inl rfl, Or.inl rfl, ⟨0, by omega, rfl⟩, ⟨0, by omega, rfl⟩⟩, fun i hi => ⟨rfl, pr_sv0⟩⟩, ⟨rfl, Or.inl rfl, ⟨0, by omega, rfl, fun o ho => ⟨0, by omega, rfl⟩, fun z => absurd z (by decide)⟩, fun z => absurd z (by decide)⟩, ⟨rfl, Or.inl rfl⟩, rfl, rfl⟩
  rw [lo_i (by omega) hr]
  exact rl_rf0
theorem i_vc0 (k0 : Int32) : wpX_init (fun u => wpY_init (fun v => i_Rel 1 u v) k0) k0 := by
  by_cases h1 : 20 ≤ k0
  · by_cases h2 : k0 ≤ 250
    · obtain ⟨l, hl, e⟩ := nI_of (x := k0) (Int32.not_lt.mpr (Int32.le_trans (by decide) h1))
      have hl2 : l ≤ 250 := by
        rw [e] at h2
        exact (nI_leI (b := 250) hl (by decide)).mp h2
      exact br_t h1 (br_t h2 (br_t h1 (br_t h2 (ow_init _ (ow_rel0 hl2 e)))))
    · exact br_t h1 (br_f h2 (br_t h1 (br_f h2 (ow_init _ (ow_rel0 (l := 250) (by omega) rfl)))))
  · exact br_f h1 (br_f h1 (ow_init _ (ow_rel0 (l := 20) (by omega) rfl)))
theorem i_vc_result {k : Nat} {u : SX} {v : SY} (I : i_Rel k u v) (hk : k + 4 ≤ 2049) : wpX_result (fun r => wpY_result (fun r' => r' = r ∧ i_Rel (k + 4) u v) v) u := by
  obtain ⟨xlim, xpc, xnd, xwc, xit, xfc, xwt, xan, xlp, xpo, xpb, xwd, xwk, xnk, xco, xcb, xml, xme, xro, xow, xol, xla, xsh, xoe, xoh, xsr, xss, xse, xms, xfm, xfa, xfd, xcv, xcr⟩ := u
  obtain ⟨ylim, ywa, ysk, ylo, yrn, ysp, yaw, yan, ywh, you, ymd, ygd, yop, yops, ybs, ysz, yex, yst, yow, yle, yel, yla, ysh, yro, yos, yoe, yoh, yor, yrw, ynx, ydp, ypl, ykd, ymt, ytd, yht⟩ := v
  obtain ⟨hfc, hit, hL, hP, hM, hO, hT, hW, han, hlp⟩ := I
  exact ⟨han.symm, ⟨hfc, hit, hL, hP, hM, hO, re_T_up hT (by omega), hW, han, hlp⟩⟩
theorem i_vc_place {k : Nat} {u : SX} {v : SY} (I : i_Rel k u v) (hk : k + 4 ≤ 2049) : wpX_place (fun r => wpY_place (fun r' => r' = r ∧ i_Rel (k + 4) u v) v) u := by
  obtain ⟨xlim, xpc, xnd, xwc, xit, xfc, xwt, xan, xlp, xpo, xpb, xwd, xwk, xnk, xco, xcb, xml, xme, xro, xow, xol, xla, xsh, xoe, xoh, xsr, xss, xse, xms, xfm, xfa, xfd, xcv, xcr⟩ := u
  obtain ⟨ylim, ywa, ysk, ylo, yrn, ysp, yaw, yan, ywh, you, ymd, ygd, yop, yops, ybs, ysz, yex, yst, yow, yle, yel, yla, ysh, yro, yos, yoe, yoh, yor, yrw, ynx, ydp, ypl, ykd, ymt, ytd, yht⟩ := v
  obtain ⟨hfc, hit, hL, hP, hM, hO, hT, hW, han, hlp⟩ := I
  exact ⟨hlp.symm, ⟨hfc, hit, hL, hP, hM, hO, re_T_up hT (by omega), hW, han, hlp⟩⟩
theorem ow_100 (x : Int32) : 100 < x ↔ ¬ x ≤ 100 := by
  rw [Int32.lt_iff_toInt_lt, Int32.le_iff_toInt_le]
  omega
theorem i_vc_tear {k : Nat} {u : SX} {v : SY} (I : i_Rel k u v) (hk : k + 4 ≤ 2049) (v1 : Int32) : wpX_tear (fun r u' => wpY_tear (fun r' v' => r' = r ∧ i_Rel (k + 4) u' v') v v1) u v1 := by
  obtain ⟨xlim, xpc, xnd, xwc, xit, xfc, xwt, xan, xlp, xpo, xpb, xwd, xwk, xnk, xco, xcb, xml, xme, xro, xow, xol, xla, xsh, xoe, xoh, xsr, xss, xse, xms, xfm, xfa, xfd, xcv, xcr⟩ := u
  obtain ⟨ylim, ywa, ysk, ylo, yrn, ysp, yaw, yan, ywh, you, ymd, ygd, yop, yops, ybs, ysz, yex, yst, yow, yle, yel, yla, ysh, yro, yos, yoe, yoh, yor, yrw, ynx, ydp, ypl, ykd, ymt, ytd, yht⟩ := v
  obtain ⟨hfc, hit, hL, hP, hM, hO, hT, hW, han, hlp⟩ := I
  by_cases h0 : v1 < 0
  · exact br_t h0 (br_t h0 ⟨rfl, ⟨hfc, hit, hL, hP, hM, hO, re_T_up hT (by omega), ⟨rfl, Or.inl rfl⟩, han, hlp⟩⟩)
  · by_cases h1 : v1 ≤ 100
    · obtain ⟨a, ha, e⟩ := nI_of h0
      have ha2 : a ≤ 100 := by
        rw [e] at h1
        exact (nI_leI (b := 100) ha (by decide)).mp h1
      exact br_f h0 (br_f (fun z => (ow_100 v1).mp z h1) (br_f h0 (br_t h1 ⟨rfl, ⟨hfc, hit, hL, hP, hM, hO, re_T_up hT (by omega), ⟨rfl, Or.inr ⟨a, ha2, e⟩⟩, han, hlp⟩⟩)))
    · exact br_f h0 (br_t ((ow_100 v1).mpr h1) (br_f h0 (br_f h1 ⟨rfl, ⟨hfc, hit, hL, hP, hM, hO, re_T_up hT (by omega), ⟨rfl, Or.inl rfl⟩, han, hlp⟩⟩)))
theorem i_vc_reset {k : Nat} {u : SX} {v : SY} (I : i_Rel k u v) (hk : k + 4 ≤ 2049) : wpX_reset (fun u' => wpY_reset (fun v' => i_Rel (k + 4) u' v') v) u := by
  obtain ⟨xlim, xpc, xnd, xwc, xit, xfc, xwt, xan, xlp, xpo, xpb, xwd, xwk, xnk, xco, xcb, xml, xme, xro, xow, xol, xla, xsh, xoe, xoh, xsr, xss, xse, xms, xfm, xfa, xfd, xcv, xcr⟩ := u
  obtain ⟨ylim, ywa, ysk, ylo, yrn, ysp, yaw, yan, ywh, you, ymd, ygd, yop, yops, ybs, ysz, yex, yst, yow, yle, yel, yla, ysh, yro, yos, yoe, yoh, yor, yrw, ynx, ydp, ypl, ykd, ymt, ytd, yht⟩ := v
  obtain ⟨hfc, hit, hL, hP, hM, hO, hT, hW, han, hlp⟩ := I
  unfold wpX_reset
  exact lo_lose _ (lo_reset _ ⟨hfc, hit, hL, hP, hM, pr_reset hO, re_T_up hT (by omega), ⟨rfl, Or.inl rfl⟩, han, hlp⟩)
/-! views -/
theorem ow_23 (x : Int32) : 2 < x ↔ 3 ≤ x := by
  rw [Int32.lt_iff_toInt_lt, Int32.le_iff_toInt_le, show (2 : Int32).toInt = 2 from by decide, show (3 : Int32).toInt = 3 from by decide]
  omega
theorem ow_12 (x : Int32) : x ≤ 1 ↔ ¬ 2 ≤ x := by
  rw [Int32.le_iff_toInt_le, Int32.le_iff_toInt_le, show (1 : Int32).toInt = 1 from by decide, show (2 : Int32).toInt = 2 from by decide]
  omega
def ow_out (a r : Int32) : Prop := a < 0 ∨ 3 ≤ a ∨ r < 0 ∨ 2 ≤ r
theorem ow_c (a r : Int32) : ow_out a r ∨ ∃ i j : Nat, i < 3 ∧ j < 2 ∧ a = nI i ∧ r = nI j := by
  rcases pk_ix a (n := 3) (by omega) with h | h | ⟨i, hi, e⟩
  · exact Or.inl (Or.inl h)
  · exact Or.inl (Or.inr (Or.inl h))
  · rcases pk_ix r (n := 2) (by omega) with h | h | ⟨j, hj, e'⟩
    · exact Or.inl (Or.inr (Or.inr (Or.inl h)))
    · exact Or.inl (Or.inr (Or.inr (Or.inr h)))
    · exact Or.inr ⟨i, j, hi, hj, e, e'⟩
theorem ow_xo (P : Int32 → Prop) {a r : Int32} (ho : ow_out a r) (h : P 0) : wpX_isInRange P a r := by
  refine br_c (fun _ => h) (fun z1 => br_c (fun _ => h) (fun z2 => br_c (fun _ => h) (fun z3 => br_c (fun _ => h) (fun z4 => ?_))))
  rcases ho with q | q | q | q
  · exact absurd q z1
  · exact absurd q z2
  · exact absurd q z3
  · exact absurd q z4
theorem ow_xi (P : Int32 → Prop) {i j : Nat} (hi : i < 3) (hj : j < 2) (h : P 1) : wpX_isInRange P (nI i) (nI j) :=
  br_f (nI_pos (by omega)) (br_f (nI_ge (b := 3) hi (by decide)) (br_f (nI_pos (by omega)) (br_f (nI_ge (b := 2) hj (by decide)) h)))
/-- the reference's four questions -/
theorem ow_yo {A C : Prop} {a r : Int32} (ho : ow_out a r) (h : A) : ((a < 0 → A) ∧ (¬ a < 0 → (((2 < a → A) ∧ (¬ 2 < a → (((r < 0 → A) ∧ (¬ r < 0 → (((r ≤ 1 → C) ∧ (¬ r ≤ 1 → A))))))))))) := by
  refine br_c (fun _ => h) (fun z1 => br_c (fun _ => h) (fun z2 => br_c (fun _ => h) (fun z3 => br_c (fun z4 => ?_) (fun _ => h))))
  rcases ho with q | q | q | q
  · exact absurd q z1
  · exact absurd ((ow_23 a).mpr q) z2
  · exact absurd q z3
  · exact absurd q ((ow_12 r).mp z4)
theorem ow_yi {A C : Prop} {i j : Nat} (hi : i < 3) (hj : j < 2) (h : C) : ((nI i < 0 → A) ∧ (¬ nI i < 0 → (((2 < nI i → A) ∧ (¬ 2 < nI i → (((nI j < 0 → A) ∧ (¬ nI j < 0 → (((nI j ≤ 1 → C) ∧ (¬ nI j ≤ 1 → A))))))))))) :=
  br_f (nI_pos (by omega)) (br_f (nI_nlt (a := 2) (by omega) (by decide)) (br_f (nI_pos (by omega)) (br_t (nI_le (b := 1) (by omega) (by decide)) h)))
theorem ow_xroot (P : Int32 → Prop) {i j : Nat} (hi : i < 3) (hj : j < 2) (h : P (xro (2 * i + j))) : wpX_objectOfRoot P (xlim, xpc, xnd, xwc, xit, xfc, xwt, xan, xlp, xpo, xpb, xwd, xwk, xnk, xco, xcb, xml, xme, xro, xow, xol, xla, xsh, xoe, xoh, xsr, xss, xse, xms, xfm, xfa, xfd, xcv, xcr) (nI i) (nI j) := by
  unfold wpX_objectOfRoot
  refine ow_xi _ hi hj (br_f (by decide) ?_)
  rw [pr_2b, nI_clamp (by omega)]
  exact ⟨vp_in_nI (by omega) (by omega), h⟩
theorem ow_xrooto (P : Int32 → Prop) {a r : Int32} (ho : ow_out a r) (h : P 0) : wpX_objectOfRoot P (xlim, xpc, xnd, xwc, xit, xfc, xwt, xan, xlp, xpo, xpb, xwd, xwk, xnk, xco, xcb, xml, xme, xro, xow, xol, xla, xsh, xoe, xoh, xsr, xss, xse, xms, xfm, xfa, xfd, xcv, xcr) a r := by
  unfold wpX_objectOfRoot
  exact ow_xo _ ho (br_t rfl h)
theorem ow_yroot (P : Int32 → Prop) {i j : Nat} (hi : i < 3) (hj : j < 2) (h : P (yro (2 * i + j))) : wpY_rootOf P (ylim, ywa, ysk, ylo, yrn, ysp, yaw, yan, ywh, you, ymd, ygd, yop, yops, ybs, ysz, yex, yst, yow, yle, yel, yla, ysh, yro, yos, yoe, yoh, yor, yrw, ynx, ydp, ypl, ykd, ymt, ytd, yht) (nI i) (nI j) := by
  refine ow_yi hi hj ?_
  rw [pr_2b, nI_clamp (by omega)]
  exact ⟨vp_in_nI (by omega) (by omega), h⟩
theorem ow_yrooto (P : Int32 → Prop) {a r : Int32} (ho : ow_out a r) (h : P (-1)) : wpY_rootOf P (ylim, ywa, ysk, ylo, yrn, ysp, yaw, yan, ywh, you, ymd, ygd, yop, yops, ybs, ysz, yex, yst, yow, yle, yel, yla, ysh, yro, yos, yoe, yoh, yor, yrw, ynx, ydp, ypl, ykd, ymt, ytd, yht) a r := ow_yo ho h
theorem i_vc_length {k : Nat} {u : SX} {v : SY} (I : i_Rel k u v) (hk : k + 4 ≤ 2049) (v1 : Int32) (v2 : Int32) : wpX_length (fun r => wpY_length (fun r' => r' = r ∧ i_Rel (k + 4) u v) v v1 v2) u v1 v2 := by
  obtain ⟨xlim, xpc, xnd, xwc, xit, xfc, xwt, xan, xlp, xpo, xpb, xwd, xwk, xnk, xco, xcb, xml, xme, xro, xow, xol, xla, xsh, xoe, xoh, xsr, xss, xse, xms, xfm, xfa, xfd, xcv, xcr⟩ := u
  obtain ⟨ylim, ywa, ysk, ylo, yrn, ysp, yaw, yan, ywh, you, ymd, ygd, yop, yops, ybs, ysz, yex, yst, yow, yle, yel, yla, ysh, yro, yos, yoe, yoh, yor, yrw, ynx, ydp, ypl, ykd, ymt, ytd, yht⟩ := v
  obtain ⟨hfc, hit, hL, hP, hM, hO, hT, hW, han, hlp⟩ := I
  have J : i_Rel (k + 4) (xlim, xpc, xnd, xwc, xit, xfc, xwt, xan, xlp, xpo, xpb, xwd, xwk, xnk, xco, xcb, xml, xme, xro, xow, xol, xla, xsh, xoe, xoh, xsr, xss, xse, xms, xfm, xfa, xfd, xcv, xcr) (ylim, ywa, ysk, ylo, yrn, ysp, yaw, yan, ywh, you, ymd, ygd, yop, yops, ybs, ysz, yex, yst, yow, yle, yel, yla, ysh, yro, yos, yoe, yoh, yor, yrw, ynx, ydp, ypl, ykd, ymt, ytd, yht) := ⟨hfc, hit, hL, hP, hM, hO, re_T_up hT (by omega), hW, han, hlp⟩
  unfold wpX_length
  rcases ow_c v1 v2 with ho | ⟨i, j, hi, hj, rfl, rfl⟩
  · refine ow_xrooto _ ho (br_t rfl ?_)
    unfold wpY_length
    exact ow_yrooto _ ho (br_f (by decide) ⟨rfl, J⟩)
  · refine ow_xroot _ hi hj ?_
    rcases rl_rf_c (hO.1 (2 * i + j) (by omega)) with ⟨e1, e2⟩ | ⟨o, ho, e1, e2⟩
    · rw [e1]
      refine br_t rfl ?_
      unfold wpY_length
      refine ow_yroot _ hi hj ?_
      rw [e2]
      exact br_f (by decide) ⟨rfl, J⟩
    · rw [e1]
      refine br_f (nI_ne0 (by omega) (by omega)) ⟨vp_in_nI (by omega) (by omega), ?_⟩
      rw [nI_clamp (by omega)]
      unfold wpY_length
      refine ow_yroot _ hi hj ?_
      rw [e2]
      refine br_t (nI_pos' (by omega)) ⟨vp_in_nI (by omega) (by omega), ?_⟩
      rw [nI_clamp (by omega)]
      exact ⟨(hO.2.1 o ho).2.1.symm, J⟩
theorem i_vc_element {k : Nat} {u : SX} {v : SY} (I : i_Rel k u v) (hk : k + 4 ≤ 2049) (v1 : Int32) (v2 : Int32) (v3 : Int32) : wpX_element (fun r => wpY_element (fun r' => r' = r ∧ i_Rel (k + 4) u v) v v1 v2 v3) u v1 v2 v3 := by
  obtain ⟨xlim, xpc, xnd, xwc, xit, xfc, xwt, xan, xlp, xpo, xpb, xwd, xwk, xnk, xco, xcb, xml, xme, xro, xow, xol, xla, xsh, xoe, xoh, xsr, xss, xse, xms, xfm, xfa, xfd, xcv, xcr⟩ := u
  obtain ⟨ylim, ywa, ysk, ylo, yrn, ysp, yaw, yan, ywh, you, ymd, ygd, yop, yops, ybs, ysz, yex, yst, yow, yle, yel, yla, ysh, yro, yos, yoe, yoh, yor, yrw, ynx, ydp, ypl, ykd, ymt, ytd, yht⟩ := v
  obtain ⟨hfc, hit, hL, hP, hM, hO, hT, hW, han, hlp⟩ := I
  have J : i_Rel (k + 4) (xlim, xpc, xnd, xwc, xit, xfc, xwt, xan, xlp, xpo, xpb, xwd, xwk, xnk, xco, xcb, xml, xme, xro, xow, xol, xla, xsh, xoe, xoh, xsr, xss, xse, xms, xfm, xfa, xfd, xcv, xcr) (ylim, ywa, ysk, ylo, yrn, ysp, yaw, yan, ywh, you, ymd, ygd, yop, yops, ybs, ysz, yex, yst, yow, yle, yel, yla, ysh, yro, yos, yoe, yoh, yor, yrw, ynx, ydp, ypl, ykd, ymt, ytd, yht) := ⟨hfc, hit, hL, hP, hM, hO, re_T_up hT (by omega), hW, han, hlp⟩
  unfold wpX_element
  rcases ow_c v1 v2 with ho | ⟨i, j, hi, hj, rfl, rfl⟩
  · refine ow_xrooto _ ho (br_t rfl ?_)
    unfold wpY_element
    exact ow_yrooto _ ho (br_t (by decide) ⟨rfl, J⟩)
  · refine ow_xroot _ hi hj ?_
    rcases rl_rf_c (hO.1 (2 * i + j) (by omega)) with ⟨e1, e2⟩ | ⟨o, ho, e1, e2⟩
    · rw [e1]
      refine br_t rfl ?_
      unfold wpY_element
      refine ow_yroot _ hi hj ?_
      rw [e2]
      exact br_t (by decide) ⟨rfl, J⟩
    · obtain ⟨a1, a2, a3, a4, a5, a6, a7, ln, hln, eln⟩ := hO.2.1 o ho
      have nz : ¬ nI o < 0 := nI_pos (by omega)
      rw [e1]
      by_cases z : v3 < 0
      · refine br_f (nI_ne0 (by omega) (by omega)) (br_t z ?_)
        unfold wpY_element
        refine ow_yroot _ hi hj ?_
        rw [e2]
        exact br_f nz (br_t z ⟨rfl, J⟩)
      · refine br_f (nI_ne0 (by omega) (by omega)) (br_f z ⟨vp_in_nI (by omega) (by omega), ?_⟩)
        rw [nI_clamp (by omega), a2]
        by_cases y : v3 < yle o
        · obtain ⟨q, hq, rfl⟩ := sb_ix eln hln ⟨z, y⟩
          have e3 : (4 : Int32) * nI (o + 1) + nI q = nI (4 * (o + 1) + q) := pr_4b _ _
          have e4 : (4 : Int32) * nI o + nI q = nI (4 * o + q) := pr_4b _ _
          rw [e3, nI_clamp (by omega)]
          refine br_t y ⟨vp_in_nI (by omega) (by omega), ?_⟩
          unfold wpY_element
          refine ow_yroot _ hi hj ?_
          rw [e2]
          refine br_f nz (br_f z ⟨vp_in_nI (by omega) (by omega), ?_⟩)
          rw [nI_clamp (by omega), e4, nI_clamp (by omega)]
          refine br_t y ⟨vp_in_nI (by omega) (by omega), ?_, J⟩
          rw [show 4 * (o + 1) + q = 4 + (4 * o + q) by omega]
          exact (hO.2.2 (4 * o + q) (by omega)).1.symm
        · refine br_f y ?_
          unfold wpY_element
          refine ow_yroot _ hi hj ?_
          rw [e2]
          refine br_f nz (br_f z ⟨vp_in_nI (by omega) (by omega), ?_⟩)
          rw [nI_clamp (by omega)]
          exact br_f y ⟨rfl, J⟩
theorem ow_tr (a : Nat) (ha : a < 3) : ∀ x y : Int32, ((4 : Int32) * nI a + x) + y = (nI a * 4 + x) + y := fun x y => by
  rw [show (4 : Int32) * nI a = nI (4 * a) from pk_mul 4 a, show nI a * 4 = nI (a * 4) from pk_mul a 4, Nat.mul_comm]
theorem i_vc_traits {k : Nat} {u : SX} {v : SY} (I : i_Rel k u v) (hk : k + 4 ≤ 2049) (v1 : Int32) (v2 : Int32) : wpX_traits (fun r => wpY_traits (fun r' => r' = r ∧ i_Rel (k + 4) u v) v v1 v2) u v1 v2 := by
  obtain ⟨xlim, xpc, xnd, xwc, xit, xfc, xwt, xan, xlp, xpo, xpb, xwd, xwk, xnk, xco, xcb, xml, xme, xro, xow, xol, xla, xsh, xoe, xoh, xsr, xss, xse, xms, xfm, xfa, xfd, xcv, xcr⟩ := u
  obtain ⟨ylim, ywa, ysk, ylo, yrn, ysp, yaw, yan, ywh, you, ymd, ygd, yop, yops, ybs, ysz, yex, yst, yow, yle, yel, yla, ysh, yro, yos, yoe, yoh, yor, yrw, ynx, ydp, ypl, ykd, ymt, ytd, yht⟩ := v
  obtain ⟨hfc, hit, hL, hP, hM, hO, hT, hW, han, hlp⟩ := I
  have J : i_Rel (k + 4) (xlim, xpc, xnd, xwc, xit, xfc, xwt, xan, xlp, xpo, xpb, xwd, xwk, xnk, xco, xcb, xml, xme, xro, xow, xol, xla, xsh, xoe, xoh, xsr, xss, xse, xms, xfm, xfa, xfd, xcv, xcr) (ylim, ywa, ysk, ylo, yrn, ysp, yaw, yan, ywh, you, ymd, ygd, yop, yops, ybs, ysz, yex, yst, yow, yle, yel, yla, ysh, yro, yos, yoe, yoh, yor, yrw, ynx, ydp, ypl, ykd, ymt, ytd, yht) := ⟨hfc, hit, hL, hP, hM, hO, re_T_up hT (by omega), hW, han, hlp⟩
  unfold wpX_traits
  rcases ow_c v1 v2 with ho | ⟨i, j, hi, hj, rfl, rfl⟩
  · refine ow_xrooto _ ho (br_t rfl ?_)
    unfold wpY_traits
    exact ow_yrooto _ ho (br_f (by decide) ⟨rfl, J⟩)
  · refine ow_xroot _ hi hj ?_
    rcases rl_rf_c (hO.1 (2 * i + j) (by omega)) with ⟨e1, e2⟩ | ⟨o, ho, e1, e2⟩
    · rw [e1]
      refine br_t rfl ?_
      unfold wpY_traits
      refine ow_yroot _ hi hj ?_
      rw [e2]
      exact br_f (by decide) ⟨rfl, J⟩
    · obtain ⟨a1, a2, a3, a4, a5, a6, ⟨a, ha, ea⟩, a8⟩ := hO.2.1 o ho
      have c1 : (nI (o + 1)).toNatClampNeg = o + 1 := nI_clamp (by omega)
      have c0 : (nI o).toNatClampNeg = o := nI_clamp (by omega)
      have w1 : vp_in (nI (o + 1)) 9 := vp_in_nI (by omega) (by omega)
      have w0 : vp_in (nI o) 8 := vp_in_nI (by omega) (by omega)
      have y37 : ∀ z r : Int32, (ysh o = 0 → (yow o * 4 + z) + 0 = r) → (¬ ysh o = 0 → (yow o * 4 + z) + 1 = r) → wY_traits_37 (fun r' => r' = r ∧ i_Rel (k + 4) (xlim, xpc, xnd, xwc, xit, xfc, xwt, xan, xlp, xpo, xpb, xwd, xwk, xnk, xco, xcb, xml, xme, xro, xow, xol, xla, xsh, xoe, xoh, xsr, xss, xse, xms, xfm, xfa, xfd, xcv, xcr) (ylim, ywa, ysk, ylo, yrn, ysp, yaw, yan, ywh, you, ymd, ygd, yop, yops, ybs, ysz, yex, yst, yow, yle, yel, yla, ysh, yro, yos, yoe, yoh, yor, yrw, ynx, ydp, ypl, ykd, ymt, ytd, yht)) (nI o) z (yow o * 4) ylim ywa ysk ylo yrn ysp yaw yan ywh you ymd ygd yop yops ybs ysz yex yst yow yle yel yla ysh yro yos yoe yoh yor yrw ynx ydp ypl ykd ymt ytd yht := fun z r q1 q2 => by
        refine ⟨w0, ?_⟩
        rw [c0]
        exact br_c (fun q => ⟨q1 q, J⟩) (fun q => ⟨q2 q, J⟩)
      have yall : ∀ r : Int32, (yla o = 0 → ysh o = 0 → (yow o * 4 + 0) + 0 = r) → (yla o = 0 → ¬ ysh o = 0 → (yow o * 4 + 0) + 1 = r) → (¬ yla o = 0 → ysh o = 0 → (yow o * 4 + 2) + 0 = r) → (¬ yla o = 0 → ¬ ysh o = 0 → (yow o * 4 + 2) + 1 = r) → wpY_traits (fun r' => r' = r ∧ i_Rel (k + 4) (xlim, xpc, xnd, xwc, xit, xfc, xwt, xan, xlp, xpo, xpb, xwd, xwk, xnk, xco, xcb, xml, xme, xro, xow, xol, xla, xsh, xoe, xoh, xsr, xss, xse, xms, xfm, xfa, xfd, xcv, xcr) (ylim, ywa, ysk, ylo, yrn, ysp, yaw, yan, ywh, you, ymd, ygd, yop, yops, ybs, ysz, yex, yst, yow, yle, yel, yla, ysh, yro, yos, yoe, yoh, yor, yrw, ynx, ydp, ypl, ykd, ymt, ytd, yht)) (ylim, ywa, ysk, ylo, yrn, ysp, yaw, yan, ywh, you, ymd, ygd, yop, yops, ybs, ysz, yex, yst, yow, yle, yel, yla, ysh, yro, yos, yoe, yoh, yor, yrw, ynx, ydp, ypl, ykd, ymt, ytd, yht) (nI i) (nI j) := fun r q1 q2 q3 q4 => by
        unfold wpY_traits
        refine ow_yroot _ hi hj ?_
        rw [e2]
        refine br_t (nI_pos' (by omega)) ⟨w0, w0, ?_⟩
        rw [c0]
        exact br_c (fun q => y37 0 r (q1 q) (q2 q)) (fun q => y37 2 r (q3 q) (q4 q))
      have x27 : ∀ z : Int32, (∀ s : Int32, (ysh o = 0 ∧ s = 0) ∨ (¬ ysh o = 0 ∧ s = 1) → wpY_traits (fun r' => r' = ((4 : Int32) * yow o + z) + s ∧ i_Rel (k + 4) (xlim, xpc, xnd, xwc, xit, xfc, xwt, xan, xlp, xpo, xpb, xwd, xwk, xnk, xco, xcb, xml, xme, xro, xow, xol, xla, xsh, xoe, xoh, xsr, xss, xse, xms, xfm, xfa, xfd, xcv, xcr) (ylim, ywa, ysk, ylo, yrn, ysp, yaw, yan, ywh, you, ymd, ygd, yop, yops, ybs, ysz, yex, yst, yow, yle, yel, yla, ysh, yro, yos, yoe, yoh, yor, yrw, ynx, ydp, ypl, ykd, ymt, ytd, yht)) (ylim, ywa, ysk, ylo, yrn, ysp, yaw, yan, ywh, you, ymd, ygd, yop, yops, ybs, ysz, yex, yst, yow, yle, yel, yla, ysh, yro, yos, yoe, yoh, yor, yrw, ynx, ydp, ypl, ykd, ymt, ytd, yht) (nI i) (nI j)) → wX_traits_27 (fun r => wpY_traits (fun r' => r' = r ∧ i_Rel (k + 4) (xlim, xpc, xnd, xwc, xit, xfc, xwt, xan, xlp, xpo, xpb, xwd, xwk, xnk, xco, xcb, xml, xme, xro, xow, xol, xla, xsh, xoe, xoh, xsr, xss, xse, xms, xfm, xfa, xfd, xcv, xcr) (ylim, ywa, ysk, ylo, yrn, ysp, yaw, yan, ywh, you, ymd, ygd, yop, yops, ybs, ysz, yex, yst, yow, yle, yel, yla, ysh, yro, yos, yoe, yoh, yor, yrw, ynx, ydp, ypl, ykd, ymt, ytd, yht)) (ylim, ywa, ysk, ylo, yrn, ysp, yaw, yan, ywh, you, ymd, ygd, yop, yops, ybs, ysz, yex, yst, yow, yle, yel, yla, ysh, yro, yos, yoe, yoh, yor, yrw, ynx, ydp, ypl, ykd, ymt, ytd, yht) (nI i) (nI j)) (nI (o + 1)) z xlim xpc xnd xwc xit xfc xwt xan xlp xpo xpb xwd xwk xnk xco xcb xml xme xro xow xol xla xsh xoe xoh xsr xss xse xms xfm xfa xfd xcv xcr := fun z hq => by
        refine ⟨w1, ?_⟩
        rw [c1, a4]
        refine br_c (fun q => ⟨w1, ?_⟩) (fun q => ⟨w1, ?_⟩)
        · rw [c1, a1]
          exact hq 0 (Or.inl ⟨q, rfl⟩)
        · rw [c1, a1]
          exact hq 1 (Or.inr ⟨q, rfl⟩)
      rw [e1]
      refine br_f (nI_ne0 (by omega) (by omega)) ⟨w1, ?_⟩
      rw [c1, a3]
      refine br_c (fun z => x27 0 (fun s hs => yall _ (fun _ q => ?_) (fun _ q => ?_) (fun w => absurd z w) (fun w => absurd z w))) (fun z => x27 2 (fun s hs => yall _ (fun w => absurd w z) (fun w => absurd w z) (fun _ q => ?_) (fun _ q => ?_)))
      all_goals (rw [ea, ow_tr a ha]; rcases hs with ⟨h1, rfl⟩ | ⟨h1, rfl⟩)
      all_goals first | rfl | exact absurd q h1 | exact absurd h1 q
theorem i_vc_same {k : Nat} {u : SX} {v : SY} (I : i_Rel k u v) (hk : k + 4 ≤ 2049) (v1 : Int32) (v2 : Int32) : wpX_same (fun r => wpY_same (fun r' => r' = r ∧ i_Rel (k + 4) u v) v v1 v2) u v1 v2 := by
  obtain ⟨xlim, xpc, xnd, xwc, xit, xfc, xwt, xan, xlp, xpo, xpb, xwd, xwk, xnk, xco, xcb, xml, xme, xro, xow, xol, xla, xsh, xoe, xoh, xsr, xss, xse, xms, xfm, xfa, xfd, xcv, xcr⟩ := u
  obtain ⟨ylim, ywa, ysk, ylo, yrn, ysp, yaw, yan, ywh, you, ymd, ygd, yop, yops, ybs, ysz, yex, yst, yow, yle, yel, yla, ysh, yro, yos, yoe, yoh, yor, yrw, ynx, ydp, ypl, ykd, ymt, ytd, yht⟩ := v
  obtain ⟨hfc, hit, hL, hP, hM, hO, hT, hW, han, hlp⟩ := I
  have J : i_Rel (k + 4) (xlim, xpc, xnd, xwc, xit, xfc, xwt, xan, xlp, xpo, xpb, xwd, xwk, xnk, xco, xcb, xml, xme, xro, xow, xol, xla, xsh, xoe, xoh, xsr, xss, xse, xms, xfm, xfa, xfd, xcv, xcr) (ylim, ywa, ysk, ylo, yrn, ysp, yaw, yan, ywh, you, ymd, ygd, yop, yops, ybs, ysz, yex, yst, yow, yle, yel, yla, ysh, yro, yos, yoe, yoh, yor, yrw, ynx, ydp, ypl, ykd, ymt, ytd, yht) := ⟨hfc, hit, hL, hP, hM, hO, re_T_up hT (by omega), hW, han, hlp⟩
  rcases pk_ix v1 (n := 6) (by omega) with h | h | ⟨i, hi, rfl⟩
  · exact br_t h (br_t h ⟨rfl, J⟩)
  · have h' : ¬ v1 < 0 := fun z => absurd (Int32.le_trans (a := 0) (by decide) h) (Int32.not_le.mpr z)
    exact br_f h' (br_t h (br_f h' (br_t h ⟨rfl, J⟩)))
  · have p1 : ¬ nI i < 0 := nI_pos (by omega)
    have p2 : ¬ (6 : Int32) ≤ nI i := nI_ge (b := 6) hi (by decide)
    rcases pk_ix v2 (n := 6) (by omega) with h | h | ⟨j, hj, rfl⟩
    · exact br_f p1 (br_f p2 (br_t h (br_f p1 (br_f p2 (br_t h ⟨rfl, J⟩)))))
    · have h' : ¬ v2 < 0 := fun z => absurd (Int32.le_trans (a := 0) (by decide) h) (Int32.not_le.mpr z)
      exact br_f p1 (br_f p2 (br_f h' (br_f (Int32.not_lt.mpr h) (br_f p1 (br_f p2 (br_f h' (br_t h ⟨rfl, J⟩)))))))
    · have q1 : ¬ nI j < 0 := nI_pos (by omega)
      have q2 : ¬ (6 : Int32) ≤ nI j := nI_ge (b := 6) hj (by decide)
      have c1 : (nI i).toNatClampNeg = i := nI_clamp (by omega)
      have c2 : (nI j).toNatClampNeg = j := nI_clamp (by omega)
      have w1 : vp_in (nI i) 6 := vp_in_nI (by omega) (by omega)
      have w2 : vp_in (nI j) 6 := vp_in_nI (by omega) (by omega)
      have yy : ∀ r : Int32, (yro i < 0 → (0 : Int32) = r) → (¬ yro i < 0 → yro i = yro j → (1 : Int32) = r) → (¬ yro i < 0 → ¬ yro i = yro j → (0 : Int32) = r) → wpY_same (fun r' => r' = r ∧ i_Rel (k + 4) (xlim, xpc, xnd, xwc, xit, xfc, xwt, xan, xlp, xpo, xpb, xwd, xwk, xnk, xco, xcb, xml, xme, xro, xow, xol, xla, xsh, xoe, xoh, xsr, xss, xse, xms, xfm, xfa, xfd, xcv, xcr) (ylim, ywa, ysk, ylo, yrn, ysp, yaw, yan, ywh, you, ymd, ygd, yop, yops, ybs, ysz, yex, yst, yow, yle, yel, yla, ysh, yro, yos, yoe, yoh, yor, yrw, ynx, ydp, ypl, ykd, ymt, ytd, yht)) (ylim, ywa, ysk, ylo, yrn, ysp, yaw, yan, ywh, you, ymd, ygd, yop, yops, ybs, ysz, yex, yst, yow, yle, yel, yla, ysh, yro, yos, yoe, yoh, yor, yrw, ynx, ydp, ypl, ykd, ymt, ytd, yht) (nI i) (nI j) := fun r g1 g2 g3 => by
        refine br_f p1 (br_f p2 (br_f q1 (br_f q2 ⟨w1, ?_⟩)))
        rw [c1]
        refine br_c (fun z => ⟨g1 z, J⟩) (fun z => ⟨w1, w2, ?_⟩)
        rw [c2]
        exact br_c (fun y => ⟨g2 z y, J⟩) (fun y => ⟨g3 z y, J⟩)
      refine br_f p1 (br_f p2 (br_f q1 (br_t (nI_lt (b := 6) hj (by decide)) ⟨w1, ?_⟩)))
      rw [c1]
      rcases rl_rf_c (hO.1 i hi) with ⟨e1, e2⟩ | ⟨o, ho, e1, e2⟩
      · have n1 : yro i < 0 := by rw [e2]; decide
        exact br_t e1 (yy 0 (fun _ => rfl) (fun z => absurd n1 z) (fun z => absurd n1 z))
      · have n1 : ¬ yro i < 0 := by rw [e2]; exact nI_pos (by omega)
        have e3 : xro i = xro j ↔ yro i = yro j := by
          rw [e1, e2]
          exact ⟨fun z => ((sn_rf (hO.1 j hj) ho).mp z.symm).symm, fun z => ((sn_rf (hO.1 j hj) ho).mpr z.symm).symm⟩
        refine br_f (by rw [e1]; exact nI_ne0 (by omega) (by omega)) ⟨w1, w2, ?_⟩
        rw [c2]
        exact br_c (fun z => yy 1 (fun q => absurd q n1) (fun _ _ => rfl) (fun _ q => absurd (e3.mp z) q)) (fun z => yy 0 (fun q => absurd q n1) (fun _ q => absurd (e3.mpr q) z) (fun _ _ => rfl))
theorem i_vc_held {k : Nat} {u : SX} {v : SY} (I : i_Rel k u v) (hk : k + 4 ≤ 2049) : wpX_held (fun r u' => wpY_held (fun r' => r' = r ∧ i_Rel (k + 4) u' v) v) u := by
  obtain ⟨xlim, xpc, xnd, xwc, xit, xfc, xwt, xan, xlp, xpo, xpb, xwd, xwk, xnk, xco, xcb, xml, xme, xro, xow, xol, xla, xsh, xoe, xoh, xsr, xss, xse, xms, xfm, xfa, xfd, xcv, xcr⟩ := u
  obtain ⟨ylim, ywa, ysk, ylo, yrn, ysp, yaw, yan, ywh, you, ymd, ygd, yop, yops, ybs, ysz, yex, yst, yow, yle, yel, yla, ysh, yro, yos, yoe, yoh, yor, yrw, ynx, ydp, ypl, ykd, ymt, ytd, yht⟩ := v
  obtain ⟨hfc, hit, hL, hP, hM, hO, hT, hW, han, hlp⟩ := I
  obtain ⟨oh, hoh, hcount⟩ := he_count (xlim := xlim) (xpc := xpc) (xnd := xnd) (xwc := xwc) (xit := xit) (xfc := xfc) (xwt := xwt) (xan := xan) (xlp := xlp) (xpo := xpo) (xpb := xpb) (xwd := xwd) (xwk := xwk) (xnk := xnk) (xco := xco) (xcb := xcb) (xml := xml) (xme := xme) (xro := xro) (xow := xow) (xol := xol) (xla := xla) (xsh := xsh) (xoe := xoe) (xoh := xoh) (xsr := xsr) (xss := xss) (xse := xse) (xms := xms) (xfm := xfm) (xfa := xfa) (xfd := xfd) (xcv := xcv) (xcr := xcr) (T := 0) (by omega) hfc (fun r hr => by
    obtain ⟨o, ho, e, _⟩ := hO.1 r hr
    exact ⟨o, ho, e⟩) (fun w => absurd hit w) (fun g hg => absurd hg (by omega))
  have hiff : ∀ o, o < 8 → ((oh (o + 1)).toNatClampNeg = 0 ∨ (oh (o + 1)).toNatClampNeg = 1) ∧ ((oh (o + 1)).toNatClampNeg = 1 ↔ ∃ r, r < 6 ∧ yro r = nI o) := fun o ho => by
    obtain ⟨h01, h1⟩ := hoh (o + 1) (by omega)
    have key : oh (o + 1) = 1 ↔ ∃ r, r < 6 ∧ yro r = nI o := by
      refine h1.trans ⟨fun z => ?_, fun z => ?_⟩
      · rcases z with ⟨r, hr, q | q⟩ | ⟨g, hg, _⟩
        · exact ⟨r, hr, (sn_rf (hO.1 r hr) ho).mp q⟩
        · exact absurd hit q.1
        · exact absurd hg (by omega)
      · obtain ⟨r, hr, q⟩ := z
        exact Or.inl ⟨r, hr, Or.inl ((sn_rf (hO.1 r hr) ho).mpr q)⟩
    rw [← key]
    rcases h01 with q | q
    · rw [q]
      exact ⟨Or.inl (by decide), by decide⟩
    · rw [q]
      exact ⟨Or.inr (by decide), by decide⟩
  unfold wpX_held
  exact hcount _ (he_held _ hiff ⟨rfl, ⟨hfc, hit, hL, hP, hM, hO, re_T_up hT (by omega), hW, han, hlp⟩⟩)
end OW
