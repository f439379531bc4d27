/-! PUT, INSTALL, RUN -/
section OP
variable {xlim xpc xnd xwc xit xfc xwt xan xlp : Int32}
variable {xpo xpb xwd xwk xnk xco xcb xml xme xro xow xol xla xsh xoe xoh xsr xss xse xms xfm xfa xfd xcv xcr : Nat → Int32}
variable {ylim ywa ysk ylo yrn ysp yaw yan ywh you ygd yop : Int32}
variable {ymd : Int64}
variable {yops ybs ysz yex yow yle yel yla ysh yro yoe yoh yor yrw ynx ydp ypl ykd ymt ytd yht : Nat → Int32}
variable {yst yos : Nat → Int64}
theorem op_cg {op b op' b' : Nat → Nat} {n : Nat} (h : ck_good op b n) (e : ∀ k, k < n → op' k = op k ∧ b' k = b k) : ck_good op' b' n := by
  obtain ⟨M, h0, hc, hu⟩ := h
  refine ⟨M, h0, fun k d f hM => ?_, hu⟩
  obtain ⟨h1, h2, h3, h4⟩ := hc k d f hM
  obtain ⟨e1, e2⟩ := e k h1
  rw [e1, e2]
  exact ⟨h1, h2, h3, h4⟩
theorem op_M {ops' bs' sz' : Nat → Int32} (h : rl_M xco xcb xml xme yops ybs ysz yex) (h1 : ∀ i, i < 96 → ops' i = yops i ∧ bs' i = ybs i) (h2 : ∀ m, m < 6 → sz' m = ysz m) : rl_M xco xcb xml xme ops' bs' sz' yex := by
  intro m hm
  obtain ⟨n, a1, a2, a3, a4, a5, a6, a7⟩ := h m hm
  refine ⟨n, a1, a2, by rw [h2 m hm]; exact a3, a4, a5, fun k hk => ?_, fun z => ?_⟩
  · rw [(h1 _ (by omega)).1, (h1 _ (by omega)).2]
    exact a6 k hk
  · obtain ⟨b1, b2, b3⟩ := a7 z
    refine ⟨b1, fun k hk => ?_, op_cg b3 (fun k hk => ?_)⟩
    · rw [(h1 _ (by omega)).1, (h1 _ (by omega)).2]
      exact b2 k hk
    · unfold rl_nn
      rw [(h1 (16 * m + k) (by omega)).1, (h1 (16 * m + k) (by omega)).2]
      exact ⟨rfl, rfl⟩
theorem op_byte : ∀ o, o < 25 → vp_nar .byte (nI o).toInt8.toInt32 = nI o ∧ vp_nar .byte (nI o) = nI o := by
  intro o ho
  have h : (nI o).toInt8.toInt32 = nI o := by
    have : ∀ q, q < 25 → (nI q).toInt8.toInt32 = nI q := by decide +kernel
    exact this o ho
  rw [vp_nar_byte, vp_nar_byte, h]
  exact ⟨h, rfl⟩
theorem op_24 {x : Int32} (h0 : ¬ x < 0) (h1 : ¬ 24 < x) : ∃ o, o < 25 ∧ x = nI o := by
  obtain ⟨o, ho, rfl⟩ := nI_of h0
  refine ⟨o, ?_, rfl⟩
  rcases Nat.lt_or_ge o 25 with q | q
  · exact q
  · exact absurd (nI_lt (a := 24) (by omega) ho) h1
theorem i_vc_put {k : Nat} {u : SX} {v : SY} (I : i_Rel k u v) (hk : k + 4 ≤ 2049) (v1 : Int32) (v2 : Int32) : wpX_put (fun r u' => wpY_put (fun r' v' => r' = r ∧ i_Rel (k + 4) u' v') v v1 v2) u v1 v2 := by
  obtain ⟨xlim, xpc, xnd, xwc, xit, xfc, xwt, xan, xlp, xpo, xpb, xwd, xwk, xnk, xco, xcb, xml, xme, xro, xow, xol, xla, xsh, xoe, xoh, xsr, xss, xse, xms, xfm, xfa, xfd, xcv, xcr⟩ := u
  obtain ⟨ylim, ywa, ysk, ylo, yrn, ysp, yaw, yan, ywh, you, ymd, ygd, yop, yops, ybs, ysz, yex, yst, yow, yle, yel, yla, ysh, yro, yos, yoe, yoh, yor, yrw, ynx, ydp, ypl, ykd, ymt, ytd, yht⟩ := v
  obtain ⟨hfc, hit, hL, hP, hM, hO, hT, hW, han, hlp⟩ := I
  have J : i_Rel (k + 4) (xlim, xpc, xnd, xwc, xit, xfc, xwt, xan, xlp, xpo, xpb, xwd, xwk, xnk, xco, xcb, xml, xme, xro, xow, xol, xla, xsh, xoe, xoh, xsr, xss, xse, xms, xfm, xfa, xfd, xcv, xcr) (ylim, ywa, ysk, ylo, yrn, ysp, yaw, yan, ywh, you, ymd, ygd, yop, yops, ybs, ysz, yex, yst, yow, yle, yel, yla, ysh, yro, yos, yoe, yoh, yor, yrw, ynx, ydp, ypl, ykd, ymt, ytd, yht) := ⟨hfc, hit, hL, hP, hM, hO, re_T_up hT (by omega), hW, han, hlp⟩
  by_cases h0 : v1 < 0
  · exact br_t h0 (br_t h0 ⟨rfl, J⟩)
  · by_cases h1 : 24 < v1
    · exact br_f h0 (br_t h1 (br_f h0 (br_t h1 ⟨rfl, J⟩)))
    · obtain ⟨o, ho, rfl⟩ := op_24 h0 h1
      obtain ⟨p, hp, e1, e2, h⟩ := hP
      subst e1
      by_cases z : p < 16
      · have e3 : ((96 : Int32) + nI p).toNatClampNeg = 96 + p := pk_cl (96 + p) (nI_add 96 p)
        have w : vp_in ((96 : Int32) + nI p) 112 := pk_in (96 + p) 112 (by omega) (nI_add 96 p)
        have c0 : (nI p).toNatClampNeg = p := nI_clamp (by omega)
        have n16 : ¬ ysz 6 = 16 := by
          rw [e2]
          exact fun q => absurd ((nI_eq (b := 16) (by omega) (by decide)).mp q) (by omega)
        have hP' : rl_P (upd xpo p (nI o)) (upd xpb p v2) (nI (p + 1)) (upd yops (96 + p) (nI o)) (upd ybs (96 + p) v2) (upd ysz 6 (nI (p + 1))) := by
          refine ⟨p + 1, by omega, rfl, pk_us, fun i hi => ?_⟩
          by_cases q : i = p
          · subst q
            rw [pk_us, pk_us, pk_us, pk_us]
            exact ⟨rfl, rfl, o, ho, rfl⟩
          · rw [pk_un q, pk_un q, pk_un (by omega), pk_un (by omega)]
            exact h i (by omega)
        have hM' : rl_M xco xcb xml xme (upd yops (96 + p) (nI o)) (upd ybs (96 + p) v2) (upd ysz 6 (nI (p + 1))) yex := op_M hM (fun i hi => ⟨pk_un (by omega), pk_un (by omega)⟩) (fun m hm => pk_un (by omega))
        refine br_f h0 (br_f h1 (br_t (nI_lt (b := 16) z (by decide)) ⟨vp_in_nI z (by omega), nm_r (by rw [c0]) ⟨vp_in_nI z (by omega), nm_r (by rw [c0]) (nm_r (nI_1 p) (br_f h0 (br_f h1 (br_f n16 ?_))))⟩⟩))
        rw [e2]
        refine ⟨w, nm_r (by rw [e3, (op_byte o ho).1]) (nm_r (by rw [nI_1]) ⟨w, nm_r (by rw [e3]) ⟨pk_us, ⟨hfc, hit, hL, hP', hM', hO, re_T_up hT (by omega), hW, han, hlp⟩⟩⟩)⟩
      · obtain rfl : p = 16 := by omega
        exact br_f h0 (br_f h1 (br_f (by decide) (br_f h0 (br_f h1 (br_t e2 ⟨rfl, J⟩)))))
/-! install -/
theorem op_x57 (P : Int32 → SX → Prop) {r p : Nat} {e3 : Int32} (hr : r < 6) (hp : p ≤ 16) (he : rl_b e3) (h : P (nI p) (xlim, xpc, xnd, xwc, xit, xfc, xwt, xan, xlp, xpo, xpb, xwd, xwk, xnk, lo_f (fun i => xpo (i - 16 * r)) (16 * r) (16 * r + p) xco, lo_f (fun i => xpb (i - 16 * r)) (16 * r) (16 * r + p) xcb, upd xml r (nI p), upd xme r e3, xro, xow, xol, xla, xsh, xoe, xoh, xsr, xss, xse, xms, xfm, xfa, xfd, xcv, xcr)) : ∃ n, wX_install_57 P e3 (nI p) (nI r) xlim xpc xnd xwc xit xfc xwt xan xlp n 0 xpo xpb xwd xwk xnk xco xcb xml xme xro xow xol xla xsh xoe xoh xsr xss xse xms xfm xfa xfd xcv xcr := by
  have c0 : (nI r).toNatClampNeg = r := nI_clamp (by omega)
  have w0 : vp_in (nI r) 6 := vp_in_nI hr (by omega)
  have key : ∀ e c m co cb, c + e = p → e < m → P (nI p) (xlim, xpc, xnd, xwc, xit, xfc, xwt, xan, xlp, xpo, xpb, xwd, xwk, xnk, lo_f (fun i => xpo (i - 16 * r)) (16 * r + c) (16 * r + p) co, lo_f (fun i => xpb (i - 16 * r)) (16 * r + c) (16 * r + p) cb, upd xml r (nI p), upd xme r e3, xro, xow, xol, xla, xsh, xoe, xoh, xsr, xss, xse, xms, xfm, xfa, xfd, xcv, xcr) → wX_install_57 P e3 (nI p) (nI r) xlim xpc xnd xwc xit xfc xwt xan xlp m (nI c) xpo xpb xwd xwk xnk co cb xml xme xro xow xol xla xsh xoe xoh xsr xss xse xms xfm xfa xfd xcv xcr := by
    intro e
    induction e with
    | zero =>
      intro c m co cb hc hm hq
      obtain ⟨m, rfl⟩ : ∃ q, m = q + 1 := ⟨m - 1, by omega⟩
      obtain rfl : c = p := by omega
      rw [lo_e, lo_e] at hq
      exact br_t (nI_le (Nat.le_refl _) (by omega)) ⟨w0, nm_r (by rw [c0]) ⟨w0, nm_r (by rw [c0, rl_b_n he]) hq⟩⟩
    | succ e ih =>
      intro c m co cb hc hm hq
      obtain ⟨m, rfl⟩ : ∃ q, m = q + 1 := ⟨m - 1, by omega⟩
      have c1 : (nI c).toNatClampNeg = c := nI_clamp (by omega)
      have w1 : vp_in (nI c) 16 := vp_in_nI (by omega) (by omega)
      have c2 : ((16 : Int32) * nI r + nI c).toNatClampNeg = 16 * r + c := pk_cl _ (pr_16 r c)
      have w2 : vp_in ((16 : Int32) * nI r + nI c) 96 := pk_in (16 * r + c) 96 (by omega) (pr_16 r c)
      have s1 : 16 * r + c - 16 * r = c := by omega
      rw [← lo_s (val := fun i => xpo (i - 16 * r)) (by omega), ← lo_s (val := fun i => xpb (i - 16 * r)) (by omega)] at hq
      refine br_f (nI_ge (by omega) (by omega)) ⟨w1, w2, nm_r (e' := upd co (16 * r + c) (xpo (16 * r + c - 16 * r))) (by rw [c1, c2, s1]) ⟨w1, w2, nm_r (e' := upd cb (16 * r + c) (xpb (16 * r + c - 16 * r))) (by rw [c1, c2, s1]) (nm_r (nI_1 c) (ih (c + 1) m _ _ (by omega) (by omega) hq))⟩⟩
  exact ⟨p + 1, key p 0 (p + 1) xco xcb (by omega) (by omega) h⟩
theorem op_y64 (P : Int32 → SY → Prop) {r p : Nat} {e3 : Int32} (hr : r < 6) (hp : p ≤ 16) (he : rl_b e3) (hop : ∀ k, k < p → ∃ o, o < 25 ∧ yops (96 + k) = nI o) (h : P (nI p) (ylim, ywa, ysk, ylo, yrn, ysp, yaw, yan, ywh, you, ymd, ygd, yop, lo_f (fun i => yops (96 + (i - 16 * r))) (16 * r) (16 * r + p) yops, lo_f (fun i => ybs (96 + (i - 16 * r))) (16 * r) (16 * r + p) ybs, upd ysz r (nI p), upd yex r e3, yst, yow, yle, yel, yla, ysh, yro, yos, yoe, yoh, yor, yrw, ynx, ydp, ypl, ykd, ymt, ytd, yht)) : ∃ n, wY_install_64 P e3 (nI p) (nI r) ylim ywa ysk ylo yrn ysp yaw yan ywh you ymd ygd yop n 0 yops ybs ysz yex yst yow yle yel yla ysh yro yos yoe yoh yor yrw ynx ydp ypl ykd ymt ytd yht := by
  have c0 : (nI r).toNatClampNeg = r := nI_clamp (by omega)
  have w0 : vp_in (nI r) 6 := vp_in_nI hr (by omega)
  have w7 : vp_in (nI r) 7 := vp_in_nI (by omega) (by omega)
  have key : ∀ e c m ops bs, c + e = p → e < m → (∀ j, ops (96 + j) = yops (96 + j)) → (∀ j, bs (96 + j) = ybs (96 + j)) → P (nI p) (ylim, ywa, ysk, ylo, yrn, ysp, yaw, yan, ywh, you, ymd, ygd, yop, lo_f (fun i => yops (96 + (i - 16 * r))) (16 * r + c) (16 * r + p) ops, lo_f (fun i => ybs (96 + (i - 16 * r))) (16 * r + c) (16 * r + p) bs, upd ysz r (nI p), upd yex r e3, yst, yow, yle, yel, yla, ysh, yro, yos, yoe, yoh, yor, yrw, ynx, ydp, ypl, ykd, ymt, ytd, yht) → wY_install_64 P e3 (nI p) (nI r) ylim ywa ysk ylo yrn ysp yaw yan ywh you ymd ygd yop m (nI c) ops bs ysz yex yst yow yle yel yla ysh yro yos yoe yoh yor yrw ynx ydp ypl ykd ymt ytd yht := by
    intro e
    induction e with
    | zero =>
      intro c m ops bs hc hm i1 i2 hq
      obtain ⟨m, rfl⟩ : ∃ q, m = q + 1 := ⟨m - 1, by omega⟩
      obtain rfl : c = p := by omega
      rw [lo_e, lo_e] at hq
      exact br_t (nI_le (Nat.le_refl _) (by omega)) ⟨w7, nm_r (by rw [c0]) ⟨w0, nm_r (by rw [c0, rl_b_n he]) hq⟩⟩
    | succ e ih =>
      intro c m ops bs hc hm i1 i2 hq
      obtain ⟨m, rfl⟩ : ∃ q, m = q + 1 := ⟨m - 1, by omega⟩
      have c1 : ((96 : Int32) + nI c).toNatClampNeg = 96 + c := pk_cl (96 + c) (nI_add 96 c)
      have w1 : vp_in ((96 : Int32) + nI c) 112 := pk_in (96 + c) 112 (by omega) (nI_add 96 c)
      have c2 : ((16 : Int32) * nI r + nI c).toNatClampNeg = 16 * r + c := pk_cl _ (pr_16 r c)
      have w2 : vp_in ((16 : Int32) * nI r + nI c) 112 := pk_in (16 * r + c) 112 (by omega) (pr_16 r c)
      have s1 : 16 * r + c - 16 * r = c := by omega
      obtain ⟨o, ho, eo⟩ := hop c (by omega)
      rw [← lo_s (val := fun i => yops (96 + (i - 16 * r))) (by omega), ← lo_s (val := fun i => ybs (96 + (i - 16 * r))) (by omega)] at hq
      refine br_f (nI_ge (by omega) (by omega)) ⟨w1, w2, nm_r (e' := upd ops (16 * r + c) (yops (96 + (16 * r + c - 16 * r)))) (by rw [c1, c2, s1, i1, eo, (op_byte o ho).2]) ⟨w1, w2, nm_r (e' := upd bs (16 * r + c) (ybs (96 + (16 * r + c - 16 * r)))) (by rw [c1, c2, s1, i2]) (nm_r (nI_1 c) (ih (c + 1) m _ _ (by omega) (by omega) (fun j => ?_) (fun j => ?_) hq))⟩⟩
      · rw [pk_un (by omega)]
        exact i1 j
      · rw [pk_un (by omega)]
        exact i2 j
  exact ⟨p + 1, key p 0 (p + 1) yops ybs (by omega) (by omega) (fun _ => rfl) (fun _ => rfl) h⟩
/-- the relation after a code was taken in -/
theorem op_newM {r p : Nat} {e3 : Int32} (hr : r < 6) (hp : p ≤ 16) (he : rl_b e3) (hM : rl_M xco xcb xml xme yops ybs ysz yex) (hpo : ∀ i, i < p → xpo i = yops (96 + i) ∧ xpb i = ybs (96 + i) ∧ ∃ o, o < 25 ∧ yops (96 + i) = nI o) (hfb : ch_fb (fun k => (yops (96 + k)).toNatClampNeg) (fun k => ybs (96 + k)) p) (hg : ck_good (fun k => (yops (96 + k)).toNatClampNeg) (fun k => (ybs (96 + k)).toNatClampNeg) p) :
    rl_M (lo_f (fun i => xpo (i - 16 * r)) (16 * r) (16 * r + p) xco) (lo_f (fun i => xpb (i - 16 * r)) (16 * r) (16 * r + p) xcb) (upd xml r (nI p)) (upd xme r e3) (lo_f (fun i => yops (96 + (i - 16 * r))) (16 * r) (16 * r + p) yops) (lo_f (fun i => ybs (96 + (i - 16 * r))) (16 * r) (16 * r + p) ybs) (upd (upd ysz 6 0) r (nI p)) (upd yex r e3) := by
  intro m hm
  by_cases e : m = r
  · subst e
    have L : ∀ k, k < p → lo_f (fun i => xpo (i - 16 * m)) (16 * m) (16 * m + p) xco (16 * m + k) = yops (96 + k) ∧ lo_f (fun i => xpb (i - 16 * m)) (16 * m) (16 * m + p) xcb (16 * m + k) = ybs (96 + k) ∧ lo_f (fun i => yops (96 + (i - 16 * m))) (16 * m) (16 * m + p) yops (16 * m + k) = yops (96 + k) ∧ lo_f (fun i => ybs (96 + (i - 16 * m))) (16 * m) (16 * m + p) ybs (16 * m + k) = ybs (96 + k) := fun k hk => by
      have s1 : 16 * m + k - 16 * m = k := by omega
      rw [lo_i (by omega) (by omega), lo_i (by omega) (by omega), lo_i (by omega) (by omega), lo_i (by omega) (by omega), s1]
      exact ⟨(hpo k hk).1, (hpo k hk).2.1, rfl, rfl⟩
    refine ⟨p, hp, pk_us, pk_us, by rw [pk_us, pk_us], by rw [pk_us]; exact he, fun k hk => ?_, fun _ => ⟨hp, fun k hk => ?_, op_cg hg (fun k hk => ?_)⟩⟩
    · obtain ⟨l1, l2, l3, l4⟩ := L k hk
      rw [l1, l2, l3, l4]
      exact ⟨rfl, rfl⟩
    · obtain ⟨l1, l2, l3, l4⟩ := L k hk
      obtain ⟨o, ho, eo⟩ := (hpo k hk).2.2
      have := hfb k hk
      dsimp only at this
      rw [eo, nI_clamp (by omega)] at this
      rw [l3, l4]
      exact ⟨o, ho, eo, this⟩
    · obtain ⟨l1, l2, l3, l4⟩ := L k hk
      unfold rl_nn
      rw [l3, l4]
      exact ⟨rfl, rfl⟩
  · obtain ⟨n, a1, a2, a3, a4, a5, a6, a7⟩ := hM m hm
    have L : ∀ k, k < 16 → ∀ (va a : Nat → Int32), lo_f va (16 * r) (16 * r + p) a (16 * m + k) = a (16 * m + k) := fun k hk va a => lo_o (by omega)
    refine ⟨n, a1, by rw [pk_un e]; exact a2, by rw [pk_un e, pk_un (by omega)]; exact a3, by rw [pk_un e, pk_un e]; exact a4, by rw [pk_un e]; exact a5, fun k hk => ?_, fun z => ?_⟩
    · rw [L k (by omega), L k (by omega), L k (by omega), L k (by omega)]
      exact a6 k hk
    · obtain ⟨b1, b2, b3⟩ := a7 z
      refine ⟨b1, fun k hk => ?_, op_cg b3 (fun k hk => ?_)⟩
      · rw [L k (by omega), L k (by omega)]
        exact b2 k hk
      · unfold rl_nn
        rw [L k (by omega), L k (by omega)]
        exact ⟨rfl, rfl⟩
theorem i_vc_install {k : Nat} {u : SX} {v : SY} (I : i_Rel k u v) (hk : k + 4 ≤ 2049) (v1 : Int32) (v2 : Int32) (v3 : Int32) : wpX_install (fun r u' => wpY_install (fun r' v' => r' = r ∧ i_Rel (k + 4) u' v') v v1 v2 (lw_bz v3)) u v1 v2 (lw_bz v3) := by
  obtain ⟨xlim, xpc, xnd, xwc, xit, xfc, xwt, xan, xlp, xpo, xpb, xwd, xwk, xnk, xco, xcb, xml, xme, xro, xow, xol, xla, xsh, xoe, xoh, xsr, xss, xse, xms, xfm, xfa, xfd, xcv, xcr⟩ := u
  obtain ⟨ylim, ywa, ysk, ylo, yrn, ysp, yaw, yan, ywh, you, ymd, ygd, yop, yops, ybs, ysz, yex, yst, yow, yle, yel, yla, ysh, yro, yos, yoe, yoh, yor, yrw, ynx, ydp, ypl, ykd, ymt, ytd, yht⟩ := v
  obtain ⟨hfc, hit, hL, hP, hM, hO, hT, hW, han, hlp⟩ := I
  obtain ⟨p, hp, e1, e2, hpo⟩ := hP
  subst e1
  have hP0 : ∀ xpo xpb yops ybs (sz : Nat → Int32), sz 6 = 0 → rl_P xpo xpb 0 yops ybs sz := fun _ _ _ _ sz hz => ⟨0, by omega, rfl, hz, fun i hi => absurd hi (by omega)⟩
  have hM0 : rl_M xco xcb xml xme yops ybs (upd ysz 6 0) yex := op_M hM (fun i _ => ⟨rfl, rfl⟩) (fun m hm => pk_un (by omega))
  have J : ∀ xwd xwk xwc xnk xnd ywa ytd ymt yht ysk ylo ygd, i_Rel (k + 4) (xlim, 0, xnd, xwc, xit, xfc, xwt, xan, xlp, xpo, xpb, xwd, xwk, xnk, xco, xcb, xml, xme, xro, xow, xol, xla, xsh, xoe, xoh, xsr, xss, xse, xms, xfm, xfa, xfd, xcv, xcr) (ylim, ywa, ysk, ylo, yrn, ysp, yaw, yan, ywh, you, ymd, ygd, yop, yops, ybs, upd ysz 6 0, yex, yst, yow, yle, yel, yla, ysh, yro, yos, yoe, yoh, yor, yrw, ynx, ydp, ypl, ykd, ymt, ytd, yht) := fun xwd xwk xwc xnk xnd ywa ytd ymt yht ysk ylo ygd => ⟨hfc, hit, hL, hP0 _ _ _ _ _ pk_us, hM0, hO, re_T_up hT (by omega), hW, han, hlp⟩
  unfold wpX_install
  rcases ow_c v1 v2 with ho | ⟨i, j, hi, hj, rfl, rfl⟩
  · refine ow_xo _ ho (br_t rfl (nm_e (nm_e (ow_yo ho ⟨rfl, J _ _ _ _ _ _ _ _ _ _ _ _⟩))))
  · refine ow_xi _ hi hj (br_f (by decide) ?_)
    by_cases z : p = 0
    · subst z
      exact br_t rfl (nm_r e2 (nm_e (ow_yi hi hj (br_t rfl ⟨rfl, J _ _ _ _ _ _ _ _ _ _ _ _⟩))))
    · have hp0 : 0 < p := by omega
      have nz : ¬ nI p = 0 := nI_ne0 hp0 (by omega)
      have hc : ∀ q, q < p → (yops (96 + q)).toNatClampNeg < 25 ∧ yops (96 + q) = nI (yops (96 + q)).toNatClampNeg := fun q hq => by
        obtain ⟨o, ho, eo⟩ := (hpo q hq).2.2
        rw [eo, nI_clamp (by omega)]
        exact ⟨ho, rfl⟩
      have hcx : ∀ q, q < p → (yops (96 + q)).toNatClampNeg < 25 ∧ xpo q = nI (yops (96 + q)).toNatClampNeg := fun q hq => ⟨(hc q hq).1, by rw [(hpo q hq).1]; exact (hc q hq).2⟩
      have fbx : ch_fb (fun q => (yops (96 + q)).toNatClampNeg) xpb p ↔ ch_fb (fun q => (yops (96 + q)).toNatClampNeg) (fun q => ybs (96 + q)) p := by
        refine ⟨fun w q hq => ?_, fun w q hq => ?_⟩
        · have := w q hq
          rw [(hpo q hq).2.1] at this
          exact this
        · rw [(hpo q hq).2.1]
          exact w q hq
      have bad : ∀ xwd xwk xwc xnk xnd, ¬ (ch_fb (fun q => (yops (96 + q)).toNatClampNeg) (fun q => ybs (96 + q)) p ∧ ck_good (fun q => (yops (96 + q)).toNatClampNeg) (fun q => (ybs (96 + q)).toNatClampNeg) p) → wpY_install (fun r' v' => r' = 10 ∧ i_Rel (k + 4) (xlim, 0, xnd, xwc, xit, xfc, xwt, xan, xlp, xpo, xpb, xwd, xwk, xnk, xco, xcb, xml, xme, xro, xow, xol, xla, xsh, xoe, xoh, xsr, xss, xse, xms, xfm, xfa, xfd, xcv, xcr) v') (ylim, ywa, ysk, ylo, yrn, ysp, yaw, yan, ywh, you, ymd, ygd, yop, yops, ybs, ysz, yex, yst, yow, yle, yel, yla, ysh, yro, yos, yoe, yoh, yor, yrw, ynx, ydp, ypl, ykd, ymt, ytd, yht) (nI i) (nI j) (lw_bz v3) := fun xwd xwk xwc xnk xnd hno => by
        refine nm_r e2 (nm_e (ow_yi hi hj (br_f nz ?_)))
        exact ch_Y _ hp0 hp hc (fun q _ => rfl) (fun g => absurd g hno) (fun _ wa td mt ht sk lo gd => br_t rfl ⟨rfl, J _ _ _ _ _ _ _ _ _ _ _ _⟩)
      refine br_f nz ?_
      refine ch_X _ hp hcx (fun hfb => br_f (by decide) ?_) (fun hno => br_t rfl (bad _ _ _ _ _ (fun w => hno (fbx.mpr w.1))))
      have hcode : xw_code xpo xpb (fun q => (yops (96 + q)).toNatClampNeg) (fun q => (ybs (96 + q)).toNatClampNeg) p := ⟨hp, fun q hq => ⟨(hcx q hq).1, (hcx q hq).2, hfb q hq, by rw [(hpo q hq).2.1]⟩⟩
      refine xe_every _ hp0 hcode (fun hg wd wk wc nk nd => br_f (by decide) (nm_r (pr_2b i j) ?_)) (fun hg wd wk wc nk nd => br_t rfl (bad _ _ _ _ _ (fun w => hg w.2)))
      have hbz := lw_bz_01 v3
      refine op_x57 _ (by omega) hp hbz ?_
      refine nm_r e2 (nm_e (ow_yi hi hj (br_f nz ?_)))
      refine ch_Y _ hp0 hp hc (fun q _ => rfl) (fun _ wa td mt ht sk lo gd => br_f (by decide) (nm_r (pr_2b i j) ?_)) (fun hno => absurd ⟨fbx.mp hfb, hg⟩ hno)
      refine op_y64 _ (by omega) hp hbz (fun q hq => (hpo q hq).2.2) ⟨rfl, ?_⟩
      exact ⟨hfc, hit, hL, hP0 _ _ _ _ _ (by rw [pk_un (by omega), pk_us]), op_newM (by omega) hp hbz hM hpo (fbx.mp hfb) hg, hO, re_T_up hT (by omega), hW, han, hlp⟩
/-! run -/
theorem op_start (P : SY → Prop) {m : Nat} {v : Int32} (h : P (ylim, ywa, ysk, ylo, nI 1, ysp, yaw, yan, ywh, you, ymd, ygd, yop, yops, ybs, ysz, yex, yst, yow, yle, yel, yla, ysh, yro, yos, yoe, yoh, yor, upd yrw 0 (nI m), upd ynx 0 0, upd ydp 0 0, upd ypl 0 v.toInt16.toInt32, upd (upd ykd 0 1) 1 0, ymt, ytd, yht)) : wpY_start P (ylim, ywa, ysk, ylo, 0, ysp, yaw, yan, ywh, you, ymd, ygd, yop, yops, ybs, ysz, yex, yst, yow, yle, yel, yla, ysh, yro, yos, yoe, yoh, yor, yrw, ynx, ydp, ypl, ykd, ymt, ytd, yht) (nI m) v := by
  have b0 : vp_nar .byte 0 = 0 := pr_b012' 0 (by decide)
  have b1 : vp_nar .byte 1 = 1 := pr_b012' 1 (by decide)
  exact ⟨pk_in 0 4 (by decide), nm_e ⟨pk_in 0 4 (by decide), nm_e ⟨pk_in 0 4 (by decide), nm_e (nm_r (e' := nI 0) (by decide) ⟨pk_in 0 32 (by decide), nm_r (e' := upd ykd 0 1) (by rw [b1]; rfl) ⟨pk_in 0 32 (by decide), nm_e ⟨pk_in 1 32 (by decide), nm_r (e' := upd (upd ykd 0 1) 1 0) (by rw [b0]; rfl) (nm_r (e' := nI 1) (by decide) h)⟩⟩⟩)⟩⟩⟩
theorem i_vc_run {k : Nat} {u : SX} {v : SY} (I : i_Rel k u v) (hk : k + 4 ≤ 2049) (v1 : Int32) (v2 : Int32) (v3 : Int32) : wpX_run (fun r u' => wpY_run (fun r' v' => r' = r ∧ i_Rel (k + 4) u' v') v v1 v2 v3) u v1 v2 v3 := by
  obtain ⟨xlim, xpc, xnd, xwc, xit, xfc, xwt, xan, xlp, xpo, xpb, xwd, xwk, xnk, xco, xcb, xml, xme, xro, xow, xol, xla, xsh, xoe, xoh, xsr, xss, xse, xms, xfm, xfa, xfd, xcv, xcr⟩ := u
  obtain ⟨ylim, ywa, ysk, ylo, yrn, ysp, yaw, yan, ywh, you, ymd, ygd, yop, yops, ybs, ysz, yex, yst, yow, yle, yel, yla, ysh, yro, yos, yoe, yoh, yor, yrw, ynx, ydp, ypl, ykd, ymt, ytd, yht⟩ := v
  obtain ⟨hfc, hit, hL, hP, hM, hO, hT, hW, han, hlp⟩ := I
  have J : i_Rel (k + 4) (xlim, xpc, xnd, xwc, xit, xfc, xwt, xan, xlp, xpo, xpb, xwd, xwk, xnk, xco, xcb, xml, xme, xro, xow, xol, xla, xsh, xoe, xoh, xsr, xss, xse, xms, xfm, xfa, xfd, xcv, xcr) (ylim, ywa, ysk, ylo, yrn, ysp, yaw, yan, ywh, you, ymd, ygd, yop, yops, ybs, ysz, yex, yst, yow, yle, yel, yla, ysh, yro, yos, yoe, yoh, yor, yrw, ynx, ydp, ypl, ykd, ymt, ytd, yht) := ⟨hfc, hit, hL, hP, hM, hO, re_T_up hT (by omega), hW, han, hlp⟩
  unfold wpX_run
  rcases ow_c v1 v2 with ho | ⟨i, j, hi, hj, rfl, rfl⟩
  · exact ow_xo _ ho (br_t rfl (ow_yo ho ⟨rfl, J⟩))
  · refine ow_xi _ hi hj (br_f (by decide) (nm_r (pr_2b i j) ⟨vp_in_nI (by omega) (by omega), ?_⟩))
    have c0 : (nI (2 * i + j)).toNatClampNeg = 2 * i + j := nI_clamp (by omega)
    rw [c0]
    obtain ⟨n, hn, hml, hyz, hme, hex, hco, hcd⟩ := hM (2 * i + j) (by omega)
    have w7 : vp_in (nI (2 * i + j)) 7 := vp_in_nI (by omega) (by omega)
    by_cases z : n = 0
    · subst z
      refine br_t hml (ow_yi hi hj ?_)
      rw [pr_2b, c0]
      exact ⟨w7, br_t hyz ⟨rfl, J⟩⟩
    · have n1 : ¬ xml (2 * i + j) = 0 := by rw [hml]; exact nI_ne0 (by omega) (by omega)
      have n2 : ¬ ysz (2 * i + j) = 0 := by rw [hyz]; exact nI_ne0 (by omega) (by omega)
      obtain ⟨l, hl, el1, el2⟩ := hL
      have hop0 : yop = 0 := hT.1.symm.trans hit
      have hszb : (ysz (2 * i + j)).toNatClampNeg = n := by rw [hyz]; exact nI_clamp (by omega)
      have hty0 : rl_ty yops ybs ysz (2 * i + j) 0 0 ck_f0 := by
        unfold rl_ty
        rw [hszb]
        exact ck_ty0 (hcd (by omega)).2.2
      have hT0 : rl_T (300 * k) xit xsr xss xse xms 0 yor yoh yoe yst yos ymd := by
        rw [hop0] at hT
        exact hT
      have h : rr (300 * k) 0 (2 * i + j) 0 0 ck_f0 (xlim, xpc, xnd, xwc, xit, nI 1, xwt, xan, xlp, xpo, xpb, xwd, xwk, xnk, xco, xcb, xml, xme, xro, xow, xol, xla, xsh, xoe, xoh, xsr, xss, xse, xms, upd xfm 0 (nI (2 * i + j)), upd xfa 0 0, upd xfd 0 0, upd xcv 0 v3.toInt16.toInt32, upd (upd xcr 0 0) 1 0) (ylim, ywa, ysk, ylo, nI 1, 0, yaw, 0, ywh, you, ymd, ygd, 0, yops, ybs, ysz, yex, yst, yow, yle, yel, yla, ysh, yro, yos, yoe, yoh, yor, upd yrw 0 (nI (2 * i + j)), upd ynx 0 0, upd ydp 0 0, upd ypl 0 v3.toInt16.toInt32, upd (upd ykd 0 1) 1 0, ymt, ytd, yht) := by
        refine ⟨by omega, rfl, rfl, rfl, ⟨l, hl, el1, el2⟩, hP, hM, hO, hT0, hW, fun g hg => absurd hg (by omega), by omega, by omega, by omega, by rw [hszb]; omega, pk_us, pk_us, pk_us, pk_us, pk_us, pk_us, hty0, fun q hq => ?_⟩
        obtain rfl | rfl : q = 0 ∨ q = 1 := by omega
        · exact rl_n1 (rl_sv_c v3)
        · exact Or.inl ⟨rfl, rfl, rfl⟩
      obtain ⟨r, u'', v'', g1, g2, g3⟩ := ru_loop hl l 0 (300 * k) 0 (2 * i + j) 0 0 ck_f0 _ _ (by omega) (by omega) h el1 el2 rfl
      subst hfc
      refine br_f n1 (pr_enter _ (t := 0) (by omega) ⟨l + 2, g1 _ (l + 2) (by omega) (ow_yi hi hj ?_)⟩)
      rw [pr_2b, c0]
      have hfin : i_Rel (k + 4) u'' v'' := by
        obtain ⟨xlim1, xpc1, xnd1, xwc1, xit1, xfc1, xwt1, xan1, xlp1, xpo1, xpb1, xwd1, xwk1, xnk1, xco1, xcb1, xml1, xme1, xro1, xow1, xol1, xla1, xsh1, xoe1, xoh1, xsr1, xss1, xse1, xms1, xfm1, xfa1, xfd1, xcv1, xcr1⟩ := u''
        obtain ⟨ylim1, ywa1, ysk1, ylo1, yrn1, ysp1, yaw1, yan1, ywh1, you1, ymd1, ygd1, yop1, yops1, ybs1, ysz1, yex1, yst1, yow1, yle1, yel1, yla1, ysh1, yro1, yos1, yoe1, yoh1, yor1, yrw1, ynx1, ydp1, ypl1, ykd1, ymt1, ytd1, yht1⟩ := v''
        obtain ⟨f1, f2, f3, f4, f5, f6, f7, f8, f9, f10, f11, f12⟩ := g3
        exact ⟨f3, f4, f5, f6, f7, f8, re_T_up f9 (by omega), f10, f11, f12⟩
      have hq := g2 (fun r' v' => r' = r ∧ i_Rel (k + 4) u'' v') (l + 2) (by omega) ⟨rfl, hfin⟩
      exact ⟨w7, br_f n2 (op_start _ ⟨l + 2, hq⟩)⟩
end OP
