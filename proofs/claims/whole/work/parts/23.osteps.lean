/-! THE STEPS ON OBJECTS, AND TRANSACTIONS -/
section SB
variable {xlim xpc xnd xwc xit xfc xwt xan xlp : Int32}
variable {xpo xpb xwd xwk xnk xco xcb xml xme xro xow xol xla xsh xoe xoh xsr xss xse xms xfm xfa xfd xcv xcr : Nat → Int32}
variable {ylim ywa ysk ylo yrn ysp yaw yan ywh you ygd yop : Int32}
variable {ymd : Int64}
variable {yops ybs ysz yex yow yle yel yla ysh yro yoe yoh yor yrw ynx ydp ypl ykd ymt ytd yht : Nat → Int32}
variable {yst yos : Nat → Int64}
variable {B t m k d l s n b : Nat} {f : Nat → Nat} {Bv : Int32}
theorem sb_Oro {r : Nat} {x y : Int32} (hO : rl_O xro xow xol xla xsh xoe yro yow yle yla ysh yel) (h : rl_rf x y) : rl_O (upd xro r x) xow xol xla xsh xoe (upd yro r y) yow yle yla ysh yel := by
  refine ⟨fun q hq => ?_, hO.2⟩
  by_cases e : q = r
  · rw [e, pk_us, pk_us]
    exact h
  · rw [pk_un e, pk_un e]
    exact hO.1 q hq
theorem sb_Osh {o : Nat} (hO : rl_O xro xow xol xla xsh xoe yro yow yle yla ysh yel) : rl_O xro xow xol xla (upd xsh (o + 1) 1) xoe yro yow yle yla (upd ysh o 1) yel := by
  refine ⟨hO.1, fun q hq => ?_, hO.2.2⟩
  obtain ⟨a1, a2, a3, a4, a5, a6, a7, a8⟩ := hO.2.1 q hq
  by_cases e : q = o
  · subst e
    rw [pk_us, pk_us]
    exact ⟨a1, a2, a3, rfl, a5, Or.inr rfl, a7, a8⟩
  · rw [pk_un (by omega), pk_un e]
    exact ⟨a1, a2, a3, a4, a5, a6, a7, a8⟩
theorem sb_Oel {o i : Nat} {x : Int32} (hi : i < 4) (hO : rl_O xro xow xol xla xsh xoe yro yow yle yla ysh yel) (h : rl_sv x) : rl_O xro xow xol xla xsh (upd xoe (4 * (o + 1) + i) x) yro yow yle yla ysh (upd yel (4 * o + i) x) := by
  refine ⟨hO.1, hO.2.1, fun q hq => ?_⟩
  by_cases e : q = 4 * o + i
  · rw [show 4 + q = 4 * (o + 1) + i by omega, e, pk_us, pk_us]
    exact ⟨rfl, h⟩
  · rw [pk_un (by omega), pk_un e]
    exact hO.2.2 q hq
/-- an index that is within -/
theorem sb_ix {iv x : Int32} {ln : Nat} (hx : x = nI ln) (hl : ln ≤ 4) (h : ¬ iv < 0 ∧ iv < x) : ∃ i, i < 4 ∧ iv = nI i := by
  obtain ⟨i, hi, rfl⟩ := nI_of h.1
  rw [hx] at h
  have := (nI_ltI hi (by omega)).mp h.2
  exact ⟨i, by omega, rfl⟩
theorem st_10 (h : rr B t m k d f (nI l, xpc, xnd, xwc, xit, nI (t + 1), xwt, xan, xlp, xpo, xpb, xwd, xwk, xnk, xco, xcb, xml, xme, xro, xow, xol, xla, xsh, xoe, xoh, xsr, xss, xse, xms, xfm, xfa, xfd, xcv, xcr) (nI l, ywa, ysk, ylo, nI (t + 1), nI s, yaw, yan, ywh, you, ymd, ygd, yop, yops, ybs, ysz, yex, yst, yow, yle, yel, yla, ysh, yro, yos, yoe, yoh, yor, yrw, ynx, ydp, ypl, ykd, ymt, ytd, yht)) (hs : ¬ nI s = nI l) (H : re_H xfm xfa xco xcb t m k 10 Bv) (S : re_S yrw ynx yops ybs t m k 10 Bv) (hfb : rl_fb 10 Bv n) (hos : ck_os [2] d f) (hgo : k + 1 < 16 ∧ rl_ty yops ybs ysz m (k + 1) (ck_rd [2] d) (ck_rk [2] d f)) (hB : b ≤ 1 ∧ Bv = nI b) : so B l s (nI l, xpc, xnd, xwc, xit, nI (t + 1), xwt, xan, xlp, xpo, xpb, xwd, xwk, xnk, xco, xcb, xml, xme, xro, xow, xol, xla, xsh, xoe, xoh, xsr, xss, xse, xms, xfm, xfa, xfd, xcv, xcr) (nI l, ywa, ysk, ylo, nI (t + 1), nI s, yaw, yan, ywh, you, ymd, ygd, yop, yops, ybs, ysz, yex, yst, yow, yle, yel, yla, ysh, yro, yos, yoe, yoh, yor, yrw, ynx, ydp, ypl, ykd, ymt, ytd, yht) := by
  have h2 := h
  obtain ⟨ht, _, _, hya, hL, hP, hM, hO, hT, hW, hlo, htp⟩ := h
  have htp2 := htp
  obtain ⟨hm6, hk16, hd4, hsz, hfm, hrw, hfa, hnx, hfd, hdp, hty, hcs⟩ := htp2
  obtain ⟨hb1, rfl⟩ := hB
  have h0 : 0 < d := hos.1.1
  obtain ⟨d, rfl⟩ : ∃ q, d = q + 1 := ⟨d - 1, by omega⟩
  have f1 : f (d + 2) = 2 := hos.1.2
  have c1 := hcs (d + 2) (by omega)
  rw [f1] at c1
  have e1 := (rl_ce2 c1).2.2
  by_cases w0 : xwt = 0
  · have w1 : yaw = 0 := hW.1.symm.trans w0
    exact so_f (r := 9) (oh := xoh) (by decide) h2 (fun P hp => re_xt P H w0 (fun post h => br_t (by decide) h) (fun post h => br_f (by decide) <| br_f (by decide) <| br_t rfl <|  h) hp) (fun v' hE Q hq => re_ys Q (fun post => post v') S hs (by decide) (fun z => absurd z (by decide)) (fun _ _ z9 z10 z16 z17 => absurd rfl z10) (fun _ post h => yo_10t post w1 hE h) hq)
  · have w1 : ¬ yaw = 0 := fun q => w0 (hW.1.trans q)
    obtain ⟨lo', tp'⟩ := so_topn (k' := k + 1) (d' := d) ht hlo htp hgo.1 (by omega) hgo.2
    refine Or.inl ⟨(nI l, xpc, xnd, xwc, xit, nI (t + 1), re_pd xwt, xan, xlp, xpo, xpb, xwd, xwk, xnk, xco, xcb, xml, xme, upd xro (2 * (m / 2) + b) (xcv (6 * t + (d + 2))), xow, xol, xla, xsh, xoe, xoh, xsr, xss, xse, xms, xfm, upd xfa t (nI (k + 1)), upd xfd t (nI d), xcv, xcr), (nI l, ywa, ysk, ylo, nI (t + 1), nI (s + 1), re_pd yaw, yan, ywh, you, ymd, ygd, yop, yops, ybs, ysz, yex, yst, yow, yle, yel, yla, ysh, upd yro (2 * (m / 2) + b) (ypl (8 * t + (d + 2))), yos, yoe, yoh, yor, yrw, upd ynx t (nI (k + 1)), upd ydp t (nI d), ypl, ykd, ymt, ytd, yht), t, m, k + 1, d, _, fun P hp => ?_, fun Q hq => ?_, ⟨by omega, rfl, rfl, hya, hL, hP, hM, sb_Oro hO e1, re_T_up hT (by omega), re_W_pd hW w0, lo', tp'⟩, rfl, rfl, rfl⟩
    · exact re_xw P (oh := xoh) H w0 (fun post h => br_t (by decide) h) (fun post h => br_f (by decide) <| br_f (by decide) <| br_t rfl <|  h) (re_76o P ht hfa (by decide) (by decide) (fun post h => xo_10 post ht hfm hm6 hfd (by omega) hb1 h) hp)
    · exact re_ys Q (fun post => post (nI l, ywa, ysk, ylo, nI (t + 1), nI (s + 1), re_pd yaw, yan, ywh, you, ymd, ygd, yop, yops, ybs, ysz, yex, yst, yow, yle, yel, yla, ysh, upd yro (2 * (m / 2) + b) (ypl (8 * t + (d + 2))), yos, yoe, yoh, yor, yrw, upd ynx t (nI (k + 1)), upd ydp t (nI d), ypl, ykd, ymt, ytd, yht)) S hs (by decide) (fun z => absurd z (by decide)) (fun _ _ z9 z10 z16 z17 => absurd rfl z10) (fun _ post h => yo_10 post ht hnx hrw hm6 hdp (by omega) hb1 w1 h) hq
theorem st_14 (h : rr B t m k d f (nI l, xpc, xnd, xwc, xit, nI (t + 1), xwt, xan, xlp, xpo, xpb, xwd, xwk, xnk, xco, xcb, xml, xme, xro, xow, xol, xla, xsh, xoe, xoh, xsr, xss, xse, xms, xfm, xfa, xfd, xcv, xcr) (nI l, ywa, ysk, ylo, nI (t + 1), nI s, yaw, yan, ywh, you, ymd, ygd, yop, yops, ybs, ysz, yex, yst, yow, yle, yel, yla, ysh, yro, yos, yoe, yoh, yor, yrw, ynx, ydp, ypl, ykd, ymt, ytd, yht)) (hs : ¬ nI s = nI l) (H : re_H xfm xfa xco xcb t m k 14 Bv) (S : re_S yrw ynx yops ybs t m k 14 Bv) (hfb : rl_fb 14 Bv n) (hos : ck_os [2] d f) (hgo : k + 1 < 16 ∧ rl_ty yops ybs ysz m (k + 1) (ck_rd [2] d) (ck_rk [2] d f))  : so B l s (nI l, xpc, xnd, xwc, xit, nI (t + 1), xwt, xan, xlp, xpo, xpb, xwd, xwk, xnk, xco, xcb, xml, xme, xro, xow, xol, xla, xsh, xoe, xoh, xsr, xss, xse, xms, xfm, xfa, xfd, xcv, xcr) (nI l, ywa, ysk, ylo, nI (t + 1), nI s, yaw, yan, ywh, you, ymd, ygd, yop, yops, ybs, ysz, yex, yst, yow, yle, yel, yla, ysh, yro, yos, yoe, yoh, yor, yrw, ynx, ydp, ypl, ykd, ymt, ytd, yht) := by
  have h2 := h
  obtain ⟨ht, _, _, hya, hL, hP, hM, hO, hT, hW, hlo, htp⟩ := h
  have htp2 := htp
  obtain ⟨hm6, hk16, hd4, hsz, hfm, hrw, hfa, hnx, hfd, hdp, hty, hcs⟩ := htp2
  have h0 : 0 < d := hos.1.1
  obtain ⟨d, rfl⟩ : ∃ q, d = q + 1 := ⟨d - 1, by omega⟩
  have f1 : f (d + 2) = 2 := hos.1.2
  have c1 := hcs (d + 2) (by omega)
  rw [f1] at c1
  rcases rl_rf_c (rl_ce2 c1).2.2 with ⟨n1, n2⟩ | ⟨o, ho, x1, y1⟩
  · exact so_f (r := 2) (oh := xoh) (by decide) h2 (fun P hp => re_xf P H (by decide) (fun post h => br_f (by decide) <| br_f (by decide) <| br_f (by decide) <| br_f (by decide) <| br_f (by decide) <| br_t rfl <|  xo_sn _ ht hfd (by omega) n1 h) hp) (fun v' hE Q hq => re_ys Q (fun post => post v') S hs (by decide) (fun z => absurd z (by decide)) (fun _ _ _ _ _ _ post h => yb_nul_14 post ht hdp (by omega) n2 hE h) (fun z => absurd z (by decide)) hq)
  · obtain ⟨a1, a2, a3, a4, a5, a6, a7, a8⟩ := hO.2.1 o ho
    by_cases w : yow o = nI (m / 2)
    · have w' : xow (o + 1) = nI (m / 2) := a1.trans w
      by_cases w0 : xwt = 0
      · have w1 : yaw = 0 := hW.1.symm.trans w0
        exact so_f (r := 9) (oh := xoh) (by decide) h2 (fun P hp => re_xt P H w0 (fun post h => br_f (by decide) <| br_f (by decide) <| br_f (by decide) <| br_f (by decide) <| br_f (by decide) <| br_t rfl <|  xo_s _ ht hfm hm6 hfd (by omega) x1 ho (fun _ => h) (fun q => absurd w' q)) (fun post h => br_f (by decide) <| br_f (by decide) <| br_f (by decide) <| br_f (by decide) <| br_f (by decide) <| br_f (by decide) <| br_t rfl <|  h) hp) (fun v' hE Q hq => re_ys Q (fun post => post v') S hs (by decide) (fun z => absurd z (by decide)) (fun _ _ _ _ _ _ post h => yb_ref_14 post ht hrw hm6 hdp (by omega) y1 ho (fun _ => br_t rfl (br_f (by decide) (br_f (by decide) (br_t rfl (yb_torn_14 post w1 hE h))))) (fun q => absurd w q)) (fun z => absurd z (by decide)) hq)
      · have w1 : ¬ yaw = 0 := fun q => w0 (hW.1.trans q)
        obtain ⟨lo', tp'⟩ := so_topn (k' := k + 1) (d' := d) ht hlo htp hgo.1 (by omega) hgo.2
        refine Or.inl ⟨(nI l, xpc, xnd, xwc, xit, nI (t + 1), re_pd xwt, xan, xlp, xpo, xpb, xwd, xwk, xnk, xco, xcb, xml, xme, xro, xow, xol, xla, upd xsh (o + 1) 1, xoe, xoh, xsr, xss, xse, xms, xfm, upd xfa t (nI (k + 1)), upd xfd t (nI d), xcv, xcr), (nI l, ywa, ysk, ylo, nI (t + 1), nI (s + 1), re_pd yaw, yan, ywh, you, ymd, ygd, yop, yops, ybs, ysz, yex, yst, yow, yle, yel, yla, upd ysh o 1, yro, yos, yoe, yoh, yor, yrw, upd ynx t (nI (k + 1)), upd ydp t (nI d), ypl, ykd, ymt, ytd, yht), t, m, k + 1, d, _, fun P hp => ?_, fun Q hq => ?_, ⟨by omega, rfl, rfl, hya, hL, hP, hM, sb_Osh hO, re_T_up hT (by omega), re_W_pd hW w0, lo', tp'⟩, rfl, rfl, rfl⟩
        · exact re_xw P (oh := xoh) H w0 (fun post h => br_f (by decide) <| br_f (by decide) <| br_f (by decide) <| br_f (by decide) <| br_f (by decide) <| br_t rfl <|  xo_s _ ht hfm hm6 hfd (by omega) x1 ho (fun _ => h) (fun q => absurd w' q)) (fun post h => br_f (by decide) <| br_f (by decide) <| br_f (by decide) <| br_f (by decide) <| br_f (by decide) <| br_f (by decide) <| br_t rfl <|  h) (re_76o P ht hfa (by decide) (by decide) (fun post h => xo_14 post ht hfd (by omega) x1 (by omega) h) hp)
        · exact re_ys Q (fun post => post (nI l, ywa, ysk, ylo, nI (t + 1), nI (s + 1), re_pd yaw, yan, ywh, you, ymd, ygd, yop, yops, ybs, ysz, yex, yst, yow, yle, yel, yla, upd ysh o 1, yro, yos, yoe, yoh, yor, yrw, upd ynx t (nI (k + 1)), upd ydp t (nI d), ypl, ykd, ymt, ytd, yht)) S hs (by decide) (fun z => absurd z (by decide)) (fun _ _ _ _ _ _ post h => yb_ref_14 post ht hrw hm6 hdp (by omega) y1 ho (fun _ => br_t rfl (br_f (by decide) (br_f (by decide) (br_t rfl (yb_due_14 post w1 (yb_14 post ht hnx hdp (by omega) ho h)))))) (fun q => absurd w q)) (fun z => absurd z (by decide)) hq
    · have w' : ¬ xow (o + 1) = nI (m / 2) := fun q => w (a1.symm.trans q)
      exact so_f (r := 3) (oh := xoh) (by decide) h2 (fun P hp => re_xf P H (by decide) (fun post h => br_f (by decide) <| br_f (by decide) <| br_f (by decide) <| br_f (by decide) <| br_f (by decide) <| br_t rfl <|  xo_s _ ht hfm hm6 hfd (by omega) x1 ho (fun q => absurd q w') (fun _ => h)) hp) (fun v' hE Q hq => re_ys Q (fun post => post v') S hs (by decide) (fun z => absurd z (by decide)) (fun _ _ _ _ _ _ post h => yb_wall_14 post ht hrw hm6 hdp (by omega) y1 ho w hE h) (fun z => absurd z (by decide)) hq)
theorem st_15 (h : rr B t m k d f (nI l, xpc, xnd, xwc, xit, nI (t + 1), xwt, xan, xlp, xpo, xpb, xwd, xwk, xnk, xco, xcb, xml, xme, xro, xow, xol, xla, xsh, xoe, xoh, xsr, xss, xse, xms, xfm, xfa, xfd, xcv, xcr) (nI l, ywa, ysk, ylo, nI (t + 1), nI s, yaw, yan, ywh, you, ymd, ygd, yop, yops, ybs, ysz, yex, yst, yow, yle, yel, yla, ysh, yro, yos, yoe, yoh, yor, yrw, ynx, ydp, ypl, ykd, ymt, ytd, yht)) (hs : ¬ nI s = nI l) (H : re_H xfm xfa xco xcb t m k 15 Bv) (S : re_S yrw ynx yops ybs t m k 15 Bv) (hfb : rl_fb 15 Bv n) (hos : ck_os [2, 4] d f) (hgo : k + 1 < 16 ∧ rl_ty yops ybs ysz m (k + 1) (ck_rd [2, 4] d) (ck_rk [2, 4] d f))  : so B l s (nI l, xpc, xnd, xwc, xit, nI (t + 1), xwt, xan, xlp, xpo, xpb, xwd, xwk, xnk, xco, xcb, xml, xme, xro, xow, xol, xla, xsh, xoe, xoh, xsr, xss, xse, xms, xfm, xfa, xfd, xcv, xcr) (nI l, ywa, ysk, ylo, nI (t + 1), nI s, yaw, yan, ywh, you, ymd, ygd, yop, yops, ybs, ysz, yex, yst, yow, yle, yel, yla, ysh, yro, yos, yoe, yoh, yor, yrw, ynx, ydp, ypl, ykd, ymt, ytd, yht) := by
  have h2 := h
  obtain ⟨ht, _, _, hya, hL, hP, hM, hO, hT, hW, hlo, htp⟩ := h
  have htp2 := htp
  obtain ⟨hm6, hk16, hd4, hsz, hfm, hrw, hfa, hnx, hfd, hdp, hty, hcs⟩ := htp2
  have h0 : 0 < d := hos.1.1
  obtain ⟨d, rfl⟩ : ∃ q, d = q + 1 := ⟨d - 1, by omega⟩
  have f1 : f (d + 2) = 2 := hos.1.2
  have c1 := hcs (d + 2) (by omega)
  rw [f1] at c1
  rcases rl_rf_c (rl_ce2 c1).2.2 with ⟨n1, n2⟩ | ⟨o, ho, x1, y1⟩
  · exact so_f (r := 2) (oh := xoh) (by decide) h2 (fun P hp => re_xf P H (by decide) (fun post h => br_f (by decide) <| br_f (by decide) <| br_f (by decide) <| br_f (by decide) <| br_f (by decide) <| br_f (by decide) <| br_t rfl <|  xo_wn _ (j := 1) ht hfd (by omega) (by omega) (by omega) n1 h) hp) (fun v' hE Q hq => re_ys Q (fun post => post v') S hs (by decide) (fun z => absurd z (by decide)) (fun _ _ _ _ _ _ post h => yb_nul_15 post ht hdp (by omega) n2 hE h) (fun z => absurd z (by decide)) hq)
  · obtain ⟨a1, a2, a3, a4, a5, a6, a7, ln, hln, eln⟩ := hO.2.1 o ho
    have eln' : xol (o + 1) = nI ln := a2.trans eln
    by_cases w : ¬ ysh o = 0 ∨ yow o = nI (m / 2)
    · have w' : ¬ xsh (o + 1) = 0 ∨ xow (o + 1) = nI (m / 2) := by rw [a4, a1]; exact w
      have hsv : rl_ce 1 (xol (o + 1)) 0 (yle o) 1 := by
        rw [eln', eln]
        exact rl_n1 (rl_sv_N (by omega))
      obtain ⟨lo', tp'⟩ := so_topc (c := d + 2) (v := 1) (k' := k + 1) (d' := d + 1) ht hlo htp hgo.1 (by omega) hgo.2 hsv (by omega) (fun j hj hne => by omega)
      refine Or.inl ⟨(nI l, xpc, xnd, xwc, xit, nI (t + 1), xwt, xan, xlp, xpo, xpb, xwd, xwk, xnk, xco, xcb, xml, xme, xro, xow, xol, xla, xsh, xoe, xoh, xsr, xss, xse, xms, xfm, upd xfa t (nI (k + 1)), upd xfd t (nI (d + 1)), upd xcv (6 * t + (d + 2)) (xol (o + 1)), upd xcr (6 * t + (d + 2)) (0)), (nI l, ywa, ysk, ylo, nI (t + 1), nI (s + 1), yaw, yan, ywh, you, ymd, ygd, yop, yops, ybs, ysz, yex, yst, yow, yle, yel, yla, ysh, yro, yos, yoe, yoh, yor, yrw, upd ynx t (nI (k + 1)), upd ydp t (nI (d + 1)), upd ypl (8 * t + (d + 2)) (yle o), upd ykd (8 * t + (d + 2)) (1), ymt, ytd, yht), t, m, k + 1, d + 1, _, fun P hp => ?_, fun Q hq => ?_, ⟨by omega, rfl, rfl, hya, hL, hP, hM, hO, re_T_up hT (by omega), hW, lo', tp'⟩, rfl, rfl, rfl⟩
      · exact re_xn P (oh := xoh) H (fun post h => br_f (by decide) <| br_f (by decide) <| br_f (by decide) <| br_f (by decide) <| br_f (by decide) <| br_f (by decide) <| br_t rfl <|  xo_w _ (j := 1) ht hfm hm6 hfd (by omega) (by omega) (by omega) x1 ho (fun _ => h) (fun q => absurd w' q)) (fun post h => br_f (by decide) <| br_f (by decide) <| br_f (by decide) <| br_f (by decide) <| br_f (by decide) <| br_f (by decide) <| br_f (by decide) <| br_t rfl <|  h) (re_76o P ht hfa (by decide) (by decide) (fun post h => xo_15 post ht hfd (by omega) x1 (by omega) h) hp)
      · exact re_ys Q (fun post => post (nI l, ywa, ysk, ylo, nI (t + 1), nI (s + 1), yaw, yan, ywh, you, ymd, ygd, yop, yops, ybs, ysz, yex, yst, yow, yle, yel, yla, ysh, yro, yos, yoe, yoh, yor, yrw, upd ynx t (nI (k + 1)), upd ydp t (nI (d + 1)), upd ypl (8 * t + (d + 2)) (yle o), upd ykd (8 * t + (d + 2)) (1), ymt, ytd, yht)) S hs (by decide) (fun z => absurd z (by decide)) (fun _ _ _ _ _ _ post h => yb_ok_15 post ht hrw hm6 hdp (by omega) y1 ho w (yb_15 post ht hnx hdp (by omega) ho h)) (fun z => absurd z (by decide)) hq
    · have w' : ¬ (¬ xsh (o + 1) = 0 ∨ xow (o + 1) = nI (m / 2)) := by rw [a4, a1]; exact w
      exact so_f (r := 3) (oh := xoh) (by decide) h2 (fun P hp => re_xf P H (by decide) (fun post h => br_f (by decide) <| br_f (by decide) <| br_f (by decide) <| br_f (by decide) <| br_f (by decide) <| br_f (by decide) <| br_t rfl <|  xo_w _ (j := 1) ht hfm hm6 hfd (by omega) (by omega) (by omega) x1 ho (fun q => absurd q w') (fun _ => h)) hp) (fun v' hE Q hq => re_ys Q (fun post => post v') S hs (by decide) (fun z => absurd z (by decide)) (fun _ _ _ _ _ _ post h => yb_wall_15 post ht hrw hm6 hdp (by omega) y1 ho w hE h) (fun z => absurd z (by decide)) hq)
theorem st_12 (h : rr B t m k d f (nI l, xpc, xnd, xwc, xit, nI (t + 1), xwt, xan, xlp, xpo, xpb, xwd, xwk, xnk, xco, xcb, xml, xme, xro, xow, xol, xla, xsh, xoe, xoh, xsr, xss, xse, xms, xfm, xfa, xfd, xcv, xcr) (nI l, ywa, ysk, ylo, nI (t + 1), nI s, yaw, yan, ywh, you, ymd, ygd, yop, yops, ybs, ysz, yex, yst, yow, yle, yel, yla, ysh, yro, yos, yoe, yoh, yor, yrw, ynx, ydp, ypl, ykd, ymt, ytd, yht)) (hs : ¬ nI s = nI l) (H : re_H xfm xfa xco xcb t m k 12 Bv) (S : re_S yrw ynx yops ybs t m k 12 Bv) (hfb : rl_fb 12 Bv n) (hos : ck_os [1, 2, 4] d f) (hgo : k + 1 < 16 ∧ rl_ty yops ybs ysz m (k + 1) (ck_rd [1, 2, 4] d) (ck_rk [1, 2, 4] d f))  : so B l s (nI l, xpc, xnd, xwc, xit, nI (t + 1), xwt, xan, xlp, xpo, xpb, xwd, xwk, xnk, xco, xcb, xml, xme, xro, xow, xol, xla, xsh, xoe, xoh, xsr, xss, xse, xms, xfm, xfa, xfd, xcv, xcr) (nI l, ywa, ysk, ylo, nI (t + 1), nI s, yaw, yan, ywh, you, ymd, ygd, yop, yops, ybs, ysz, yex, yst, yow, yle, yel, yla, ysh, yro, yos, yoe, yoh, yor, yrw, ynx, ydp, ypl, ykd, ymt, ytd, yht) := by
  have h2 := h
  obtain ⟨ht, _, _, hya, hL, hP, hM, hO, hT, hW, hlo, htp⟩ := h
  have htp2 := htp
  obtain ⟨hm6, hk16, hd4, hsz, hfm, hrw, hfa, hnx, hfd, hdp, hty, hcs⟩ := htp2
  obtain ⟨o1, o2, o3, _⟩ := hos
  have h0 : 0 < d := o1.1
  have h1 : 0 < d - 1 := o2.1
  obtain ⟨d, rfl⟩ : ∃ q, d = q + 2 := ⟨d - 2, by omega⟩
  have f1 : f (d + 3) = 1 := o1.2
  have f2 : f (d + 2) = 2 := o2.2
  have c1 := hcs (d + 3) (by omega)
  have c2 := hcs (d + 2) (by omega)
  rw [f1] at c1
  rw [f2] at c2
  have e1 := (rl_ce1 c1).2.2.1
  rcases rl_rf_c (rl_ce2 c2).2.2 with ⟨n1, n2⟩ | ⟨o, ho, x1, y1⟩
  · exact so_f (r := 2) (oh := xoh) (by decide) h2 (fun P hp => re_xf P H (by decide) (fun post h => br_f (by decide) <| br_f (by decide) <| br_f (by decide) <| br_t rfl <|  xo_en _ (j := 2) ht hfd (by omega) (by omega) (by omega) n1 h) hp) (fun v' hE Q hq => re_ys Q (fun post => post v') S hs (by decide) (fun z => absurd z (by decide)) (fun _ _ _ _ _ _ post h => yb_nul_12 post ht hdp (by omega) n2 hE h) (fun z => absurd z (by decide)) hq)
  · obtain ⟨a1, a2, a3, a4, a5, a6, a7, ln, hln, eln⟩ := hO.2.1 o ho
    have eln' : xol (o + 1) = nI ln := a2.trans eln
    by_cases w : ¬ ysh o = 0 ∨ yow o = nI (m / 2)
    · have w' : ¬ xsh (o + 1) = 0 ∨ xow (o + 1) = nI (m / 2) := by rw [a4, a1]; exact w
      by_cases w2 : ¬ ypl (8 * t + (d + 3)) < 0 ∧ ypl (8 * t + (d + 3)) < yle o
      · have w2' : ¬ xcv (6 * t + (d + 3)) < 0 ∧ xcv (6 * t + (d + 3)) < xol (o + 1) := by rw [e1, a2]; exact w2
        obtain ⟨i, hi, yi⟩ := sb_ix eln hln w2
        have xi : xcv (6 * t + (d + 3)) = nI i := e1.trans yi
        have hel := hO.2.2 (4 * o + i) (by omega)
        have hsv : rl_ce 1 (xoe (4 * (o + 1) + i)) 0 (yel (4 * o + i)) 1 := by
          rw [show 4 * (o + 1) + i = 4 + (4 * o + i) by omega, hel.1]
          exact rl_n1 hel.2
        obtain ⟨lo', tp'⟩ := so_topc (c := d + 2) (v := 1) (k' := k + 1) (d' := d + 1) ht hlo htp hgo.1 (by omega) hgo.2 hsv (by omega) (fun j hj hne => by omega)
        refine Or.inl ⟨(nI l, xpc, xnd, xwc, xit, nI (t + 1), xwt, xan, xlp, xpo, xpb, xwd, xwk, xnk, xco, xcb, xml, xme, xro, xow, xol, xla, xsh, xoe, xoh, xsr, xss, xse, xms, xfm, upd xfa t (nI (k + 1)), upd xfd t (nI (d + 1)), upd xcv (6 * t + (d + 2)) (xoe (4 * (o + 1) + i)), upd xcr (6 * t + (d + 2)) (0)), (nI l, ywa, ysk, ylo, nI (t + 1), nI (s + 1), yaw, yan, ywh, you, ymd, ygd, yop, yops, ybs, ysz, yex, yst, yow, yle, yel, yla, ysh, yro, yos, yoe, yoh, yor, yrw, upd ynx t (nI (k + 1)), upd ydp t (nI (d + 1)), upd ypl (8 * t + (d + 2)) (yel (4 * o + i)), upd ykd (8 * t + (d + 2)) (1), ymt, ytd, yht), t, m, k + 1, d + 1, _, fun P hp => ?_, fun Q hq => ?_, ⟨by omega, rfl, rfl, hya, hL, hP, hM, hO, re_T_up hT (by omega), hW, lo', tp'⟩, rfl, rfl, rfl⟩
        · exact re_xn P (oh := xoh) H (fun post h => br_f (by decide) <| br_f (by decide) <| br_f (by decide) <| br_t rfl <|  xo_e _ (j := 2) ht hfm hm6 hfd (by omega) (by omega) (by omega) x1 ho (fun _ _ => h) (fun _ q => absurd w2' q) (fun q => absurd w' q)) (fun post h => br_f (by decide) <| br_f (by decide) <| br_f (by decide) <| br_f (by decide) <| br_t rfl <|  h) (re_76o P ht hfa (by decide) (by decide) (fun post h => xo_12 post ht hfd (by omega) x1 xi (by omega) hi h) hp)
        · exact re_ys Q (fun post => post (nI l, ywa, ysk, ylo, nI (t + 1), nI (s + 1), yaw, yan, ywh, you, ymd, ygd, yop, yops, ybs, ysz, yex, yst, yow, yle, yel, yla, ysh, yro, yos, yoe, yoh, yor, yrw, upd ynx t (nI (k + 1)), upd ydp t (nI (d + 1)), upd ypl (8 * t + (d + 2)) (yel (4 * o + i)), upd ykd (8 * t + (d + 2)) (1), ymt, ytd, yht)) S hs (by decide) (fun z => absurd z (by decide)) (fun _ _ _ _ _ _ post h => yb_ok_12 post ht hrw hm6 hdp (by omega) y1 ho w (by rw [yi]; rw [yi] at w2; exact yb_in_12 post ho w2 (yb_12 post ht hnx hdp (by omega) ho hi h))) (fun z => absurd z (by decide)) hq
      · have w2' : ¬ (¬ xcv (6 * t + (d + 3)) < 0 ∧ xcv (6 * t + (d + 3)) < xol (o + 1)) := by rw [e1, a2]; exact w2
        exact so_f (r := 4) (oh := xoh) (by decide) h2 (fun P hp => re_xf P H (by decide) (fun post h => br_f (by decide) <| br_f (by decide) <| br_f (by decide) <| br_t rfl <|  xo_e _ (j := 2) ht hfm hm6 hfd (by omega) (by omega) (by omega) x1 ho (fun _ q => absurd q w2') (fun _ _ => h) (fun q => absurd w' q)) hp) (fun v' hE Q hq => re_ys Q (fun post => post v') S hs (by decide) (fun z => absurd z (by decide)) (fun _ _ _ _ _ _ post h => yb_ok_12 post ht hrw hm6 hdp (by omega) y1 ho w (yb_bnd_12 post ho w2 hE h)) (fun z => absurd z (by decide)) hq)
    · have w' : ¬ (¬ xsh (o + 1) = 0 ∨ xow (o + 1) = nI (m / 2)) := by rw [a4, a1]; exact w
      exact so_f (r := 3) (oh := xoh) (by decide) h2 (fun P hp => re_xf P H (by decide) (fun post h => br_f (by decide) <| br_f (by decide) <| br_f (by decide) <| br_t rfl <|  xo_e _ (j := 2) ht hfm hm6 hfd (by omega) (by omega) (by omega) x1 ho (fun q _ => absurd q w') (fun q _ => absurd q w') (fun _ => h)) hp) (fun v' hE Q hq => re_ys Q (fun post => post v') S hs (by decide) (fun z => absurd z (by decide)) (fun _ _ _ _ _ _ post h => yb_wall_12 post ht hrw hm6 hdp (by omega) y1 ho w hE h) (fun z => absurd z (by decide)) hq)
theorem st_13 (h : rr B t m k d f (nI l, xpc, xnd, xwc, xit, nI (t + 1), xwt, xan, xlp, xpo, xpb, xwd, xwk, xnk, xco, xcb, xml, xme, xro, xow, xol, xla, xsh, xoe, xoh, xsr, xss, xse, xms, xfm, xfa, xfd, xcv, xcr) (nI l, ywa, ysk, ylo, nI (t + 1), nI s, yaw, yan, ywh, you, ymd, ygd, yop, yops, ybs, ysz, yex, yst, yow, yle, yel, yla, ysh, yro, yos, yoe, yoh, yor, yrw, ynx, ydp, ypl, ykd, ymt, ytd, yht)) (hs : ¬ nI s = nI l) (H : re_H xfm xfa xco xcb t m k 13 Bv) (S : re_S yrw ynx yops ybs t m k 13 Bv) (hfb : rl_fb 13 Bv n) (hos : ck_os [1, 1, 2] d f) (hgo : k + 1 < 16 ∧ rl_ty yops ybs ysz m (k + 1) (ck_rd [1, 1, 2] d) (ck_rk [1, 1, 2] d f))  : so B l s (nI l, xpc, xnd, xwc, xit, nI (t + 1), xwt, xan, xlp, xpo, xpb, xwd, xwk, xnk, xco, xcb, xml, xme, xro, xow, xol, xla, xsh, xoe, xoh, xsr, xss, xse, xms, xfm, xfa, xfd, xcv, xcr) (nI l, ywa, ysk, ylo, nI (t + 1), nI s, yaw, yan, ywh, you, ymd, ygd, yop, yops, ybs, ysz, yex, yst, yow, yle, yel, yla, ysh, yro, yos, yoe, yoh, yor, yrw, ynx, ydp, ypl, ykd, ymt, ytd, yht) := by
  have h2 := h
  obtain ⟨ht, _, _, hya, hL, hP, hM, hO, hT, hW, hlo, htp⟩ := h
  have htp2 := htp
  obtain ⟨hm6, hk16, hd4, hsz, hfm, hrw, hfa, hnx, hfd, hdp, hty, hcs⟩ := htp2
  obtain ⟨o1, o2, o3, _⟩ := hos
  have h0 : 0 < d := o1.1
  have h1 : 0 < d - 1 := o2.1
  have h3 : 0 < d - 1 - 1 := o3.1
  obtain ⟨d, rfl⟩ : ∃ q, d = q + 3 := ⟨d - 3, by omega⟩
  have f0 : f (d + 4) = 1 := o1.2
  have f1 : f (d + 3) = 1 := o2.2
  have f2 : f (d + 2) = 2 := o3.2
  have c0 := hcs (d + 4) (by omega)
  have c1 := hcs (d + 3) (by omega)
  have c2 := hcs (d + 2) (by omega)
  rw [f0] at c0
  rw [f1] at c1
  rw [f2] at c2
  have ev := (rl_ce1 c0).2.2.1
  have hsv := (rl_ce1 c0).2.2.2
  have e1 := (rl_ce1 c1).2.2.1
  rcases rl_rf_c (rl_ce2 c2).2.2 with ⟨n1, n2⟩ | ⟨o, ho, x1, y1⟩
  · exact so_f (r := 2) (oh := xoh) (by decide) h2 (fun P hp => re_xf P H (by decide) (fun post h => br_f (by decide) <| br_f (by decide) <| br_f (by decide) <| br_f (by decide) <| br_t rfl <|  xo_en _ (j := 3) ht hfd (by omega) (by omega) (by omega) n1 h) hp) (fun v' hE Q hq => re_ys Q (fun post => post v') S hs (by decide) (fun z => absurd z (by decide)) (fun _ _ _ _ _ _ post h => yb_nul_13 post ht hdp (by omega) n2 hE h) (fun z => absurd z (by decide)) hq)
  · obtain ⟨a1, a2, a3, a4, a5, a6, a7, ln, hln, eln⟩ := hO.2.1 o ho
    have eln' : xol (o + 1) = nI ln := a2.trans eln
    by_cases w : ¬ ysh o = 0 ∨ yow o = nI (m / 2)
    · have w' : ¬ xsh (o + 1) = 0 ∨ xow (o + 1) = nI (m / 2) := by rw [a4, a1]; exact w
      by_cases w2 : ¬ ypl (8 * t + (d + 3)) < 0 ∧ ypl (8 * t + (d + 3)) < yle o
      · have w2' : ¬ xcv (6 * t + (d + 3)) < 0 ∧ xcv (6 * t + (d + 3)) < xol (o + 1) := by rw [e1, a2]; exact w2
        obtain ⟨i, hi, yi⟩ := sb_ix eln hln w2
        have xi : xcv (6 * t + (d + 3)) = nI i := e1.trans yi
        have ec : (nI o).toNatClampNeg = o := nI_clamp (by omega)
        have iwg : ∀ v : Int32, xla (o + 1) = v → rl_b v → ∀ post : Int32 → Prop, post v → (vp_in (xcv (6 * t + (d + 3 + 2 - 3))) 9 ∧ (narrow .boolean (.int (xla (xcv (6 * t + (d + 3 + 2 - 3))).toNatClampNeg)) = .int (xla (xcv (6 * t + (d + 3 + 2 - 3))).toNatClampNeg) ∧ post (xla (xcv (6 * t + (d + 3 + 2 - 3))).toNatClampNeg))) := fun v hv hvb post hp => by
          have x1' : xcv (6 * t + (d + 3 + 2 - 3)) = nI (o + 1) := x1
          rw [x1', nI_clamp (by omega), hv]
          refine ⟨vp_in_nI (by omega) (by omega), ?_, hp⟩
          rcases hvb with rfl | rfl
          · rfl
          · rfl
        have hO' : rl_O xro xow xol xla xsh (upd xoe (4 * (o + 1) + i) (xcv (6 * t + (d + 4)))) yro yow yle yla ysh (upd yel (4 * o + i) (ypl (8 * t + (d + 4)))) := by
          rw [ev]
          exact sb_Oel hi hO hsv
        by_cases la : yla o = 0
        · have iw := iwg 0 (a3.trans la) (Or.inl rfl)
          obtain ⟨lo', tp'⟩ := so_topn (k' := k + 1) (d' := d) ht hlo htp hgo.1 (by omega) hgo.2
          refine Or.inl ⟨(nI l, xpc, xnd, xwc, xit, nI (t + 1), xwt, xan, xlp, xpo, xpb, xwd, xwk, xnk, xco, xcb, xml, xme, xro, xow, xol, xla, xsh, upd xoe (4 * (o + 1) + i) (xcv (6 * t + (d + 4))), xoh, xsr, xss, xse, xms, xfm, upd xfa t (nI (k + 1)), upd xfd t (nI d), xcv, xcr), (nI l, ywa, ysk, ylo, nI (t + 1), nI (s + 1), yaw, yan, ywh, you, ymd, ygd, yop, yops, ybs, ysz, yex, yst, yow, yle, upd yel (4 * o + i) (ypl (8 * t + (d + 4))), yla, ysh, yro, yos, yoe, yoh, yor, yrw, upd ynx t (nI (k + 1)), upd ydp t (nI d), ypl, ykd, ymt, ytd, yht), t, m, k + 1, d, _, fun P hp => ?_, fun Q hq => ?_, ⟨by omega, rfl, rfl, hya, hL, hP, hM, hO', re_T_up hT (by omega), hW, lo', tp'⟩, rfl, rfl, rfl⟩
          · exact re_xn P (oh := xoh) H (fun post h => br_f (by decide) <| br_f (by decide) <| br_f (by decide) <| br_f (by decide) <| br_t rfl <|  xo_e _ (j := 3) ht hfm hm6 hfd (by omega) (by omega) (by omega) x1 ho (fun _ _ => h) (fun _ q => absurd w2' q) (fun q => absurd w' q)) (fun post h => br_f (by decide) <| br_f (by decide) <| br_f (by decide) <| br_f (by decide) <| br_f (by decide) <| br_t rfl <|  pr_xentry _ (j := 3) ht hfd (by omega) (by omega) (by omega) (iw post h)) (re_76o P ht hfa (by decide) (by decide) (fun post h => xo_13 post ht hfd (by omega) x1 xi (by omega) hi h) hp)
          · exact re_ys Q (fun post => post (nI l, ywa, ysk, ylo, nI (t + 1), nI (s + 1), yaw, yan, ywh, you, ymd, ygd, yop, yops, ybs, ysz, yex, yst, yow, yle, upd yel (4 * o + i) (ypl (8 * t + (d + 4))), yla, ysh, yro, yos, yoe, yoh, yor, yrw, upd ynx t (nI (k + 1)), upd ydp t (nI d), ypl, ykd, ymt, ytd, yht)) S hs (by decide) (fun z => absurd z (by decide)) (fun _ _ _ _ _ _ post h => yb_ok_13 post ht hrw hm6 hdp (by omega) y1 ho w (by rw [yi]; rw [yi] at w2; exact yb_in_13 post ho w2 (br_f (by decide) (br_t rfl ⟨vp_in_nI (by omega) (by omega), by rw [ec]; exact br_t la (br_t rfl (yb_13 post ht hnx hdp (by omega) ho hi hsv h))⟩)))) (fun z => absurd z (by decide)) hq
        · have iw := iwg 1 (a3.trans (rl_b_ne a5 la)) (Or.inr rfl)
          by_cases w0 : xwt = 0
          · have w1 : yaw = 0 := hW.1.symm.trans w0
            exact so_f (r := 9) (oh := xoh) (by decide) h2 (fun P hp => re_xt P H w0 (fun post h => br_f (by decide) <| br_f (by decide) <| br_f (by decide) <| br_f (by decide) <| br_t rfl <|  xo_e _ (j := 3) ht hfm hm6 hfd (by omega) (by omega) (by omega) x1 ho (fun _ _ => h) (fun _ q => absurd w2' q) (fun q => absurd w' q)) (fun post h => br_f (by decide) <| br_f (by decide) <| br_f (by decide) <| br_f (by decide) <| br_f (by decide) <| br_t rfl <|  pr_xentry _ (j := 3) ht hfd (by omega) (by omega) (by omega) (iw post h)) hp) (fun v' hE Q hq => re_ys Q (fun post => post v') S hs (by decide) (fun z => absurd z (by decide)) (fun _ _ _ _ _ _ post h => yb_ok_13 post ht hrw hm6 hdp (by omega) y1 ho w (by rw [yi]; rw [yi] at w2; exact yb_in_13 post ho w2 (br_f (by decide) (br_t rfl ⟨vp_in_nI (by omega) (by omega), by rw [ec]; exact br_f la (yb_torn_13 post w1 hE h)⟩)))) (fun z => absurd z (by decide)) hq)
          · have w1 : ¬ yaw = 0 := fun q => w0 (hW.1.trans q)
            obtain ⟨lo', tp'⟩ := so_topn (k' := k + 1) (d' := d) ht hlo htp hgo.1 (by omega) hgo.2
            refine Or.inl ⟨(nI l, xpc, xnd, xwc, xit, nI (t + 1), re_pd xwt, xan, xlp, xpo, xpb, xwd, xwk, xnk, xco, xcb, xml, xme, xro, xow, xol, xla, xsh, upd xoe (4 * (o + 1) + i) (xcv (6 * t + (d + 4))), xoh, xsr, xss, xse, xms, xfm, upd xfa t (nI (k + 1)), upd xfd t (nI d), xcv, xcr), (nI l, ywa, ysk, ylo, nI (t + 1), nI (s + 1), re_pd yaw, yan, ywh, you, ymd, ygd, yop, yops, ybs, ysz, yex, yst, yow, yle, upd yel (4 * o + i) (ypl (8 * t + (d + 4))), yla, ysh, yro, yos, yoe, yoh, yor, yrw, upd ynx t (nI (k + 1)), upd ydp t (nI d), ypl, ykd, ymt, ytd, yht), t, m, k + 1, d, _, fun P hp => ?_, fun Q hq => ?_, ⟨by omega, rfl, rfl, hya, hL, hP, hM, hO', re_T_up hT (by omega), re_W_pd hW w0, lo', tp'⟩, rfl, rfl, rfl⟩
            · exact re_xw P (oh := xoh) H w0 (fun post h => br_f (by decide) <| br_f (by decide) <| br_f (by decide) <| br_f (by decide) <| br_t rfl <|  xo_e _ (j := 3) ht hfm hm6 hfd (by omega) (by omega) (by omega) x1 ho (fun _ _ => h) (fun _ q => absurd w2' q) (fun q => absurd w' q)) (fun post h => br_f (by decide) <| br_f (by decide) <| br_f (by decide) <| br_f (by decide) <| br_f (by decide) <| br_t rfl <|  pr_xentry _ (j := 3) ht hfd (by omega) (by omega) (by omega) (iw post h)) (re_76o P ht hfa (by decide) (by decide) (fun post h => xo_13 post ht hfd (by omega) x1 xi (by omega) hi h) hp)
            · exact re_ys Q (fun post => post (nI l, ywa, ysk, ylo, nI (t + 1), nI (s + 1), re_pd yaw, yan, ywh, you, ymd, ygd, yop, yops, ybs, ysz, yex, yst, yow, yle, upd yel (4 * o + i) (ypl (8 * t + (d + 4))), yla, ysh, yro, yos, yoe, yoh, yor, yrw, upd ynx t (nI (k + 1)), upd ydp t (nI d), ypl, ykd, ymt, ytd, yht)) S hs (by decide) (fun z => absurd z (by decide)) (fun _ _ _ _ _ _ post h => yb_ok_13 post ht hrw hm6 hdp (by omega) y1 ho w (by rw [yi]; rw [yi] at w2; exact yb_in_13 post ho w2 (br_f (by decide) (br_t rfl ⟨vp_in_nI (by omega) (by omega), by rw [ec]; exact br_f la (yb_due_13 post w1 (yb_13 post ht hnx hdp (by omega) ho hi hsv h))⟩)))) (fun z => absurd z (by decide)) hq
      · have w2' : ¬ (¬ xcv (6 * t + (d + 3)) < 0 ∧ xcv (6 * t + (d + 3)) < xol (o + 1)) := by rw [e1, a2]; exact w2
        exact so_f (r := 4) (oh := xoh) (by decide) h2 (fun P hp => re_xf P H (by decide) (fun post h => br_f (by decide) <| br_f (by decide) <| br_f (by decide) <| br_f (by decide) <| br_t rfl <|  xo_e _ (j := 3) ht hfm hm6 hfd (by omega) (by omega) (by omega) x1 ho (fun _ q => absurd q w2') (fun _ _ => h) (fun q => absurd w' q)) hp) (fun v' hE Q hq => re_ys Q (fun post => post v') S hs (by decide) (fun z => absurd z (by decide)) (fun _ _ _ _ _ _ post h => yb_ok_13 post ht hrw hm6 hdp (by omega) y1 ho w (yb_bnd_13 post ho w2 hE h)) (fun z => absurd z (by decide)) hq)
    · have w' : ¬ (¬ xsh (o + 1) = 0 ∨ xow (o + 1) = nI (m / 2)) := by rw [a4, a1]; exact w
      exact so_f (r := 3) (oh := xoh) (by decide) h2 (fun P hp => re_xf P H (by decide) (fun post h => br_f (by decide) <| br_f (by decide) <| br_f (by decide) <| br_f (by decide) <| br_t rfl <|  xo_e _ (j := 3) ht hfm hm6 hfd (by omega) (by omega) (by omega) x1 ho (fun q _ => absurd q w') (fun q _ => absurd q w') (fun _ => h)) hp) (fun v' hE Q hq => re_ys Q (fun post => post v') S hs (by decide) (fun z => absurd z (by decide)) (fun _ _ _ _ _ _ post h => yb_wall_13 post ht hrw hm6 hdp (by omega) y1 ho w hE h) (fun z => absurd z (by decide)) hq)
theorem st_22 (h : rr B t m k d f (nI l, xpc, xnd, xwc, xit, nI (t + 1), xwt, xan, xlp, xpo, xpb, xwd, xwk, xnk, xco, xcb, xml, xme, xro, xow, xol, xla, xsh, xoe, xoh, xsr, xss, xse, xms, xfm, xfa, xfd, xcv, xcr) (nI l, ywa, ysk, ylo, nI (t + 1), nI s, yaw, yan, ywh, you, ymd, ygd, yop, yops, ybs, ysz, yex, yst, yow, yle, yel, yla, ysh, yro, yos, yoe, yoh, yor, yrw, ynx, ydp, ypl, ykd, ymt, ytd, yht)) (hs : ¬ nI s = nI l) (H : re_H xfm xfa xco xcb t m k 22 Bv) (S : re_S yrw ynx yops ybs t m k 22 Bv) (hfb : rl_fb 22 Bv n) (hos : ck_os [] d f) (hgo : k + 1 < 16 ∧ rl_ty yops ybs ysz m (k + 1) (ck_rd [] d) (ck_rk [] d f))  : so B l s (nI l, xpc, xnd, xwc, xit, nI (t + 1), xwt, xan, xlp, xpo, xpb, xwd, xwk, xnk, xco, xcb, xml, xme, xro, xow, xol, xla, xsh, xoe, xoh, xsr, xss, xse, xms, xfm, xfa, xfd, xcv, xcr) (nI l, ywa, ysk, ylo, nI (t + 1), nI s, yaw, yan, ywh, you, ymd, ygd, yop, yops, ybs, ysz, yex, yst, yow, yle, yel, yla, ysh, yro, yos, yoe, yoh, yor, yrw, ynx, ydp, ypl, ykd, ymt, ytd, yht) := by
  have h2 := h
  obtain ⟨ht, _, _, hya, hL, hP, hM, hO, hT, hW, hlo, htp⟩ := h
  have htp2 := htp
  obtain ⟨hm6, hk16, hd4, hsz, hfm, hrw, hfa, hnx, hfd, hdp, hty, hcs⟩ := htp2
  rcases hT.2.1 with z | z
  · have z' : xit = 0 := hT.1.trans z
    obtain ⟨lo', tp'⟩ := so_topn (k' := k + 1) (d' := d) ht hlo htp hgo.1 (by omega) hgo.2
    rw [so_same hfd, so_same hdp] at lo' tp'
    refine Or.inl ⟨(nI l, xpc, xnd, xwc, 1, nI (t + 1), xwt, xan, xlp, xpo, xpb, xwd, xwk, xnk, xco, xcb, xml, xme, xro, xow, xol, xla, xsh, xoe, xoh, lo_f xro 0 6 xsr, lo_f (fun i => vp_nar .boolean (xsh i)) 1 9 xss, lo_f xoe 0 36 xse, lo_f (fun _ => vp_nar .boolean 0) 1 9 xms, xfm, upd xfa t (nI (k + 1)), xfd, xcv, xcr), (nI l, ywa, ysk, ylo, nI (t + 1), nI (s + 1), yaw, yan, ywh, you, ymd, ygd, 1, yops, ybs, ysz, yex, yst, yow, yle, yel, yla, ysh, yro, lo_L yst 0 8 yos, lo_f (fun i => vp_nar .short (yel i)) 0 32 yoe, lo_f (fun i => vp_nar .boolean (ysh i)) 0 8 yoh, lo_f yro 0 6 yor, yrw, upd ynx t (nI (k + 1)), ydp, ypl, ykd, ymt, ytd, yht), t, m, k + 1, d, _, fun P hp => ?_, fun Q hq => ?_, ⟨by omega, rfl, rfl, hya, hL, hP, hM, hO, re_T_up (pr_begin hO hT) (by omega), hW, lo', tp'⟩, rfl, rfl, rfl⟩
    · exact re_xn P (oh := xoh) H (fun post h => br_f (by decide) <| br_f (by decide) <| br_f (by decide) <| br_f (by decide) <| br_f (by decide) <| br_f (by decide) <| br_f (by decide) <| br_f (by decide) <| br_f (by decide) <| br_f (by decide) <| br_f (by decide) <| br_f (by decide) <| br_f (by decide) <| br_t rfl <|  br_t z' h) (fun post h => br_f (by decide) <| br_f (by decide) <| br_f (by decide) <| br_f (by decide) <| br_f (by decide) <| br_f (by decide) <| br_f (by decide) <| br_f (by decide) <| br_f (by decide) <| br_f (by decide) <| br_f (by decide) <| br_f (by decide) <| br_f (by decide) <| br_f (by decide) <| br_t rfl <|  h) (re_76p P ht hfa (by decide) (by decide) (fun post h => br_f (by decide) <| br_f (by decide) <| br_f (by decide) <| br_f (by decide) <| br_f (by decide) <| br_f (by decide) <| br_f (by decide) <| br_f (by decide) <| br_f (by decide) <| br_f (by decide) <| br_f (by decide) <| br_f (by decide) <| br_f (by decide) <| br_f (by decide) <| br_f (by decide) <| br_f (by decide) <| br_f (by decide) <| br_f (by decide) <| br_f (by decide) <| br_f (by decide) <| br_f (by decide) <| br_f (by decide) <| br_f (by decide) <| br_f (by decide) <| br_t rfl <|  lo_xbegin _ h) hp)
    · exact re_ys Q (fun post => post (nI l, ywa, ysk, ylo, nI (t + 1), nI (s + 1), yaw, yan, ywh, you, ymd, ygd, 1, yops, ybs, ysz, yex, yst, yow, yle, yel, yla, ysh, yro, lo_L yst 0 8 yos, lo_f (fun i => vp_nar .short (yel i)) 0 32 yoe, lo_f (fun i => vp_nar .boolean (ysh i)) 0 8 yoh, lo_f yro 0 6 yor, yrw, upd ynx t (nI (k + 1)), ydp, ypl, ykd, ymt, ytd, yht)) S hs (by decide) (fun z => absurd z (by decide)) (fun _ z => absurd z (by decide)) (fun _ post h => yo_22 post ht hnx z h) hq
  · have z' : ¬ xit = 0 := by rw [hT.1, z]; decide
    exact so_f (r := 8) (oh := xoh) (by decide) h2 (fun P hp => re_xf P H (by decide) (fun post h => br_f (by decide) <| br_f (by decide) <| br_f (by decide) <| br_f (by decide) <| br_f (by decide) <| br_f (by decide) <| br_f (by decide) <| br_f (by decide) <| br_f (by decide) <| br_f (by decide) <| br_f (by decide) <| br_f (by decide) <| br_f (by decide) <| br_t rfl <|  br_f z' h) hp) (fun v' hE Q hq => re_ys Q (fun post => post v') S hs (by decide) (fun z => absurd z (by decide)) (fun _ z => absurd z (by decide)) (fun _ post h => yo_22n post z hE h) hq)
theorem st_23 (h : rr B t m k d f (nI l, xpc, xnd, xwc, xit, nI (t + 1), xwt, xan, xlp, xpo, xpb, xwd, xwk, xnk, xco, xcb, xml, xme, xro, xow, xol, xla, xsh, xoe, xoh, xsr, xss, xse, xms, xfm, xfa, xfd, xcv, xcr) (nI l, ywa, ysk, ylo, nI (t + 1), nI s, yaw, yan, ywh, you, ymd, ygd, yop, yops, ybs, ysz, yex, yst, yow, yle, yel, yla, ysh, yro, yos, yoe, yoh, yor, yrw, ynx, ydp, ypl, ykd, ymt, ytd, yht)) (hs : ¬ nI s = nI l) (H : re_H xfm xfa xco xcb t m k 23 Bv) (S : re_S yrw ynx yops ybs t m k 23 Bv) (hfb : rl_fb 23 Bv n) (hos : ck_os [] d f) (hgo : k + 1 < 16 ∧ rl_ty yops ybs ysz m (k + 1) (ck_rd [] d) (ck_rk [] d f))  : so B l s (nI l, xpc, xnd, xwc, xit, nI (t + 1), xwt, xan, xlp, xpo, xpb, xwd, xwk, xnk, xco, xcb, xml, xme, xro, xow, xol, xla, xsh, xoe, xoh, xsr, xss, xse, xms, xfm, xfa, xfd, xcv, xcr) (nI l, ywa, ysk, ylo, nI (t + 1), nI s, yaw, yan, ywh, you, ymd, ygd, yop, yops, ybs, ysz, yex, yst, yow, yle, yel, yla, ysh, yro, yos, yoe, yoh, yor, yrw, ynx, ydp, ypl, ykd, ymt, ytd, yht) := by
  have h2 := h
  obtain ⟨ht, _, _, hya, hL, hP, hM, hO, hT, hW, hlo, htp⟩ := h
  have htp2 := htp
  obtain ⟨hm6, hk16, hd4, hsz, hfm, hrw, hfa, hnx, hfd, hdp, hty, hcs⟩ := htp2
  rcases hT.2.1 with z | z
  · have z' : xit = 0 := hT.1.trans z
    exact so_f (r := 8) (oh := xoh) (by decide) h2 (fun P hp => re_xf P H (by decide) (fun post h => br_f (by decide) <| br_f (by decide) <| br_f (by decide) <| br_f (by decide) <| br_f (by decide) <| br_f (by decide) <| br_f (by decide) <| br_f (by decide) <| br_f (by decide) <| br_f (by decide) <| br_f (by decide) <| br_f (by decide) <| br_f (by decide) <| br_f (by decide) <| br_t rfl <|  br_t z' h) hp) (fun v' hE Q hq => re_ys Q (fun post => post v') S hs (by decide) (fun z => absurd z (by decide)) (fun _ z => absurd z (by decide)) (fun _ post h => yo_23n post z hE h) hq)
  · have z' : ¬ xit = 0 := by rw [hT.1, z]; decide
    have hT' : rl_T (B + 1) 0 xsr xss xse xms 0 yor yoh yoe yst yos ymd := by
      obtain ⟨t1, t2, ⟨mm, m1, m2, m3, m4⟩, t4⟩ := hT
      exact ⟨rfl, Or.inl rfl, ⟨mm, by omega, m2, m3, fun q => absurd q (by decide)⟩, fun q => absurd q (by decide)⟩
    by_cases w0 : xwt = 0
    · have w1 : yaw = 0 := hW.1.symm.trans w0
      exact so_f (r := 9) (oh := xoh) (by decide) h2 (fun P hp => re_xt P H w0 (fun post h => br_f (by decide) <| br_f (by decide) <| br_f (by decide) <| br_f (by decide) <| br_f (by decide) <| br_f (by decide) <| br_f (by decide) <| br_f (by decide) <| br_f (by decide) <| br_f (by decide) <| br_f (by decide) <| br_f (by decide) <| br_f (by decide) <| br_f (by decide) <| br_t rfl <|  br_f z' h) (fun post h => br_f (by decide) <| br_f (by decide) <| br_f (by decide) <| br_f (by decide) <| br_f (by decide) <| br_f (by decide) <| br_f (by decide) <| br_f (by decide) <| br_f (by decide) <| br_f (by decide) <| br_f (by decide) <| br_f (by decide) <| br_f (by decide) <| br_f (by decide) <| br_f (by decide) <| br_t rfl <|  h) hp) (fun v' hE Q hq => re_ys Q (fun post => post v') S hs (by decide) (fun z => absurd z (by decide)) (fun _ z => absurd z (by decide)) (fun _ post h => yo_23t post z w1 hE h) hq)
    · have w1 : ¬ yaw = 0 := fun q => w0 (hW.1.trans q)
      obtain ⟨lo', tp'⟩ := so_topn (k' := k + 1) (d' := d) ht hlo htp hgo.1 (by omega) hgo.2
      rw [so_same hfd, so_same hdp] at lo' tp'
      refine Or.inl ⟨(nI l, xpc, xnd, xwc, 0, nI (t + 1), re_pd xwt, xan, xlp, xpo, xpb, xwd, xwk, xnk, xco, xcb, xml, xme, xro, xow, xol, xla, xsh, xoe, xoh, xsr, xss, xse, xms, xfm, upd xfa t (nI (k + 1)), xfd, xcv, xcr), (nI l, ywa, ysk, ylo, nI (t + 1), nI (s + 1), re_pd yaw, yan, ywh, you, ymd, ygd, 0, yops, ybs, ysz, yex, yst, yow, yle, yel, yla, ysh, yro, yos, yoe, yoh, yor, yrw, upd ynx t (nI (k + 1)), ydp, ypl, ykd, ymt, ytd, yht), t, m, k + 1, d, _, fun P hp => ?_, fun Q hq => ?_, ⟨by omega, rfl, rfl, hya, hL, hP, hM, hO, hT', re_W_pd hW w0, lo', tp'⟩, rfl, rfl, rfl⟩
      · exact re_xw P (oh := xoh) H w0 (fun post h => br_f (by decide) <| br_f (by decide) <| br_f (by decide) <| br_f (by decide) <| br_f (by decide) <| br_f (by decide) <| br_f (by decide) <| br_f (by decide) <| br_f (by decide) <| br_f (by decide) <| br_f (by decide) <| br_f (by decide) <| br_f (by decide) <| br_f (by decide) <| br_t rfl <|  br_f z' h) (fun post h => br_f (by decide) <| br_f (by decide) <| br_f (by decide) <| br_f (by decide) <| br_f (by decide) <| br_f (by decide) <| br_f (by decide) <| br_f (by decide) <| br_f (by decide) <| br_f (by decide) <| br_f (by decide) <| br_f (by decide) <| br_f (by decide) <| br_f (by decide) <| br_f (by decide) <| br_t rfl <|  h) (re_76p P ht hfa (by decide) (by decide) (fun post h => br_f (by decide) <| br_f (by decide) <| br_f (by decide) <| br_f (by decide) <| br_f (by decide) <| br_f (by decide) <| br_f (by decide) <| br_f (by decide) <| br_f (by decide) <| br_f (by decide) <| br_f (by decide) <| br_f (by decide) <| br_f (by decide) <| br_f (by decide) <| br_f (by decide) <| br_f (by decide) <| br_f (by decide) <| br_f (by decide) <| br_f (by decide) <| br_f (by decide) <| br_f (by decide) <| br_f (by decide) <| br_f (by decide) <| br_f (by decide) <| br_f (by decide) <| br_t rfl <|  h) hp)
      · exact re_ys Q (fun post => post (nI l, ywa, ysk, ylo, nI (t + 1), nI (s + 1), re_pd yaw, yan, ywh, you, ymd, ygd, 0, yops, ybs, ysz, yex, yst, yow, yle, yel, yla, ysh, yro, yos, yoe, yoh, yor, yrw, upd ynx t (nI (k + 1)), ydp, ypl, ykd, ymt, ytd, yht)) S hs (by decide) (fun z => absurd z (by decide)) (fun _ z => absurd z (by decide)) (fun _ post h => yo_23 post ht hnx z w1 h) hq
theorem st_24 (h : rr B t m k d f (nI l, xpc, xnd, xwc, xit, nI (t + 1), xwt, xan, xlp, xpo, xpb, xwd, xwk, xnk, xco, xcb, xml, xme, xro, xow, xol, xla, xsh, xoe, xoh, xsr, xss, xse, xms, xfm, xfa, xfd, xcv, xcr) (nI l, ywa, ysk, ylo, nI (t + 1), nI s, yaw, yan, ywh, you, ymd, ygd, yop, yops, ybs, ysz, yex, yst, yow, yle, yel, yla, ysh, yro, yos, yoe, yoh, yor, yrw, ynx, ydp, ypl, ykd, ymt, ytd, yht)) (hs : ¬ nI s = nI l) (H : re_H xfm xfa xco xcb t m k 24 Bv) (S : re_S yrw ynx yops ybs t m k 24 Bv) (hfb : rl_fb 24 Bv n) (hos : ck_os [] d f) (hgo : k + 1 < 16 ∧ rl_ty yops ybs ysz m (k + 1) (ck_rd [] d) (ck_rk [] d f))  : so B l s (nI l, xpc, xnd, xwc, xit, nI (t + 1), xwt, xan, xlp, xpo, xpb, xwd, xwk, xnk, xco, xcb, xml, xme, xro, xow, xol, xla, xsh, xoe, xoh, xsr, xss, xse, xms, xfm, xfa, xfd, xcv, xcr) (nI l, ywa, ysk, ylo, nI (t + 1), nI s, yaw, yan, ywh, you, ymd, ygd, yop, yops, ybs, ysz, yex, yst, yow, yle, yel, yla, ysh, yro, yos, yoe, yoh, yor, yrw, ynx, ydp, ypl, ykd, ymt, ytd, yht) := by
  have h2 := h
  obtain ⟨ht, _, _, hya, hL, hP, hM, hO, hT, hW, hlo, htp⟩ := h
  have htp2 := htp
  obtain ⟨hm6, hk16, hd4, hsz, hfm, hrw, hfa, hnx, hfd, hdp, hty, hcs⟩ := htp2
  rcases hT.2.1 with z | z
  · have z' : xit = 0 := hT.1.trans z
    exact so_f (r := 8) (oh := xoh) (by decide) h2 (fun P hp => re_xf P H (by decide) (fun post h => br_f (by decide) <| br_f (by decide) <| br_f (by decide) <| br_f (by decide) <| br_f (by decide) <| br_f (by decide) <| br_f (by decide) <| br_f (by decide) <| br_f (by decide) <| br_f (by decide) <| br_f (by decide) <| br_f (by decide) <| br_f (by decide) <| br_f (by decide) <| br_f (by decide) <| br_t rfl <|  br_t z' h) hp) (fun v' hE Q hq => re_ys Q (fun post => post v') S hs (by decide) (fun z => absurd z (by decide)) (fun _ z => absurd z (by decide)) (fun _ post h => yo_24n post z hE h) hq)
  · have z' : ¬ xit = 0 := by rw [hT.1, z]; decide
    obtain ⟨hO', hT'⟩ := pr_undo hO hT z
    obtain ⟨lo', tp'⟩ := so_topn (k' := k + 1) (d' := d) ht hlo htp hgo.1 (by omega) hgo.2
    rw [so_same hfd, so_same hdp] at lo' tp'
    refine Or.inl ⟨(nI l, xpc, xnd, xwc, 0, nI (t + 1), xwt, xan, xlp, xpo, xpb, xwd, xwk, xnk, xco, xcb, xml, xme, lo_f xsr 0 6 xro, xow, xol, xla, lo_xs xms xss 1 xsh, lo_xe xms xla xse 1 xoe, xoh, xsr, xss, xse, xms, xfm, upd xfa t (nI (k + 1)), xfd, xcv, xcr), (nI l, ywa, ysk, ylo, nI (t + 1), nI (s + 1), yaw, yan, ywh, you, ymd, ygd, 0, yops, ybs, ysz, yex, yst, yow, yle, lo_ye yst yos yla yoe 0 yel, yla, lo_ys yst yos yoh 0 ysh, lo_f yor 0 6 yro, yos, yoe, yoh, yor, yrw, upd ynx t (nI (k + 1)), ydp, ypl, ykd, ymt, ytd, yht), t, m, k + 1, d, _, fun P hp => ?_, fun Q hq => ?_, ⟨by omega, rfl, rfl, hya, hL, hP, hM, hO', re_T_up hT' (by omega), hW, lo', tp'⟩, rfl, rfl, rfl⟩
    · exact re_xn P (oh := xoh) H (fun post h => br_f (by decide) <| br_f (by decide) <| br_f (by decide) <| br_f (by decide) <| br_f (by decide) <| br_f (by decide) <| br_f (by decide) <| br_f (by decide) <| br_f (by decide) <| br_f (by decide) <| br_f (by decide) <| br_f (by decide) <| br_f (by decide) <| br_f (by decide) <| br_f (by decide) <| br_t rfl <|  br_f z' h) (fun post h => br_f (by decide) <| br_t (by decide) h) (re_76p P ht hfa (by decide) (by decide) (fun post h => br_f (by decide) <| br_f (by decide) <| br_f (by decide) <| br_f (by decide) <| br_f (by decide) <| br_f (by decide) <| br_f (by decide) <| br_f (by decide) <| br_f (by decide) <| br_f (by decide) <| br_f (by decide) <| br_f (by decide) <| br_f (by decide) <| br_f (by decide) <| br_f (by decide) <| br_f (by decide) <| br_f (by decide) <| br_f (by decide) <| br_f (by decide) <| br_f (by decide) <| br_f (by decide) <| br_f (by decide) <| br_f (by decide) <| br_f (by decide) <| br_f (by decide) <| br_f (by decide) <| br_t rfl <|  lo_xundo _ h) hp)
    · exact re_ys Q (fun post => post (nI l, ywa, ysk, ylo, nI (t + 1), nI (s + 1), yaw, yan, ywh, you, ymd, ygd, 0, yops, ybs, ysz, yex, yst, yow, yle, lo_ye yst yos yla yoe 0 yel, yla, lo_ys yst yos yoh 0 ysh, lo_f yor 0 6 yro, yos, yoe, yoh, yor, yrw, upd ynx t (nI (k + 1)), ydp, ypl, ykd, ymt, ytd, yht)) S hs (by decide) (fun z => absurd z (by decide)) (fun _ z => absurd z (by decide)) (fun _ post h => yo_24 post ht hnx z h) hq
end SB
