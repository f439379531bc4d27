/-! THE STEPS: both sides, one instruction at a time -/
section ST
variable {xlim xpc xnd xwc xit xfc xwt xan xlp : Int32}
variable {xpo xpb xwd xwk xnk xco xcb xml xme xro xow xol xla xsh xoe xoh xsr xss xse xms xfm xfa xfd xcv xcr : Nat → Int32}
variable {ylim ywa ysk ylo yrn ysp yaw yan ywh you ygd yop : Int32}
variable {ymd : Int64}
variable {yops ybs ysz yex yow yle yel yla ysh yro yoe yoh yor yrw ynx ydp ypl ykd ymt ytd yht : Nat → Int32}
variable {yst yos : Nat → Int64}
variable {B t m k d l s n : Nat} {f : Nat → Nat} {Bv : Int32}
theorem st_k {c : Nat} {xv xr yv yk : Int32} (h : rl_ce c xv xr yv yk) : c < 3 ∧ yk = nI c ∧ rl_b xr := by
  rcases h with ⟨rfl, h1, h2⟩ | ⟨rfl, h1, h2, _⟩ | ⟨rfl, h1, h2, _⟩
  · exact ⟨by decide, h2, Or.inl h1⟩
  · exact ⟨by decide, h2, Or.inl h1⟩
  · exact ⟨by decide, h2, Or.inr h1⟩
theorem st_byte {x : Int32} (h1 : -128 ≤ x) (h2 : x ≤ 127) : rl_sv x := by
  rw [Int32.le_iff_toInt_le, show ((-128 : Int32)).toInt = -128 from by decide] at h1
  rw [Int32.le_iff_toInt_le, show ((127 : Int32)).toInt = 127 from by decide] at h2
  exact rl_sv_i (by omega) (by omega)
theorem st_root {r : Nat} (hO : rl_O xro xow xol xla xsh xoe yro yow yle yla ysh yel) (hr : r < 6) : rl_rf (xro r) (yro r) := hO.1 r hr
theorem st_0 (h : rr B t m k d f (nI l, xpc, xnd, xwc, xit, nI (t + 1), xwt, xan, xlp, xpo, xpb, xwd, xwk, xnk, xco, xcb, xml, xme, xro, xow, xol, xla, xsh, xoe, xoh, xsr, xss, xse, xms, xfm, xfa, xfd, xcv, xcr) (nI l, ywa, ysk, ylo, nI (t + 1), nI s, yaw, yan, ywh, you, ymd, ygd, yop, yops, ybs, ysz, yex, yst, yow, yle, yel, yla, ysh, yro, yos, yoe, yoh, yor, yrw, ynx, ydp, ypl, ykd, ymt, ytd, yht)) (hs : ¬ nI s = nI l) (H : re_H xfm xfa xco xcb t m k 0 Bv) (S : re_S yrw ynx yops ybs t m k 0 Bv) (hfb : rl_fb 0 Bv n) (hos : ck_os [4] d f) (hgo : k + 1 < 16 ∧ rl_ty yops ybs ysz m (k + 1) (ck_rd [4] d) (ck_rk [4] d f))  : so B l s (nI l, xpc, xnd, xwc, xit, nI (t + 1), xwt, xan, xlp, xpo, xpb, xwd, xwk, xnk, xco, xcb, xml, xme, xro, xow, xol, xla, xsh, xoe, xoh, xsr, xss, xse, xms, xfm, xfa, xfd, xcv, xcr) (nI l, ywa, ysk, ylo, nI (t + 1), nI s, yaw, yan, ywh, you, ymd, ygd, yop, yops, ybs, ysz, yex, yst, yow, yle, yel, yla, ysh, yro, yos, yoe, yoh, yor, yrw, ynx, ydp, ypl, ykd, ymt, ytd, yht) := by
  obtain ⟨ht, _, _, hya, hL, hP, hM, hO, hT, hW, hlo, htp⟩ := h
  have htp2 := htp
  obtain ⟨hm6, hk16, hd4, hsz, hfm, hrw, hfa, hnx, hfd, hdp, hty, hcs⟩ := htp2
  have h4 : d < 4 := hos.1.1
  have hsv : rl_sv Bv := st_byte (hfb.1 rfl).1 (hfb.1 rfl).2
  obtain ⟨lo', tp'⟩ := so_topc (c := d + 2) (v := 1) (k' := k + 1) (d' := d + 1) ht hlo htp hgo.1 (by omega) hgo.2 (rl_n1 hsv) (by omega) (fun j hj hne => by omega)
  refine Or.inl ⟨(nI l, xpc, xnd, xwc, xit, nI (t + 1), xwt, xan, xlp, xpo, xpb, xwd, xwk, xnk, xco, xcb, xml, xme, xro, xow, xol, xla, xsh, xoe, xoh, xsr, xss, xse, xms, xfm, upd xfa t (nI (k + 1)), upd xfd t (nI (d + 1)), upd xcv (6 * t + (d + 2)) (Bv), upd xcr (6 * t + (d + 2)) (0)), (nI l, ywa, ysk, ylo, nI (t + 1), nI (s + 1), yaw, yan, ywh, you, ymd, ygd, yop, yops, ybs, ysz, yex, yst, yow, yle, yel, yla, ysh, yro, yos, yoe, yoh, yor, yrw, upd ynx t (nI (k + 1)), upd ydp t (nI (d + 1)), upd ypl (8 * t + (d + 2)) (Bv), upd ykd (8 * t + (d + 2)) (1), ymt, ytd, yht), t, m, k + 1, d + 1, _, fun P hp => ?_, fun Q hq => ?_, ⟨by omega, rfl, rfl, hya, hL, hP, hM, hO, re_T_up hT (by omega), hW, lo', tp'⟩, rfl, rfl, rfl⟩
  · exact re_xn P (oh := xoh) H (fun post h => br_t (by decide) h) (fun post h => br_t (by decide) h) (re_76p P ht hfa (by decide) (by decide) (fun post h => xo_0 post ht hfd h4 h) hp)
  · exact re_ys Q (fun post => post (nI l, ywa, ysk, ylo, nI (t + 1), nI (s + 1), yaw, yan, ywh, you, ymd, ygd, yop, yops, ybs, ysz, yex, yst, yow, yle, yel, yla, ysh, yro, yos, yoe, yoh, yor, yrw, upd ynx t (nI (k + 1)), upd ydp t (nI (d + 1)), upd ypl (8 * t + (d + 2)) (Bv), upd ykd (8 * t + (d + 2)) (1), ymt, ytd, yht)) S hs (by decide) (fun _ post h => yo_0 post ht hnx hdp h4 h) (fun z => absurd z (by decide)) (fun z => absurd z (by decide)) hq
theorem st_17 (h : rr B t m k d f (nI l, xpc, xnd, xwc, xit, nI (t + 1), xwt, xan, xlp, xpo, xpb, xwd, xwk, xnk, xco, xcb, xml, xme, xro, xow, xol, xla, xsh, xoe, xoh, xsr, xss, xse, xms, xfm, xfa, xfd, xcv, xcr) (nI l, ywa, ysk, ylo, nI (t + 1), nI s, yaw, yan, ywh, you, ymd, ygd, yop, yops, ybs, ysz, yex, yst, yow, yle, yel, yla, ysh, yro, yos, yoe, yoh, yor, yrw, ynx, ydp, ypl, ykd, ymt, ytd, yht)) (hs : ¬ nI s = nI l) (H : re_H xfm xfa xco xcb t m k 17 Bv) (S : re_S yrw ynx yops ybs t m k 17 Bv) (hfb : rl_fb 17 Bv n) (hos : ck_os [5] d f) (hgo : k + 1 < 16 ∧ rl_ty yops ybs ysz m (k + 1) (ck_rd [5] d) (ck_rk [5] d f))  : so B l s (nI l, xpc, xnd, xwc, xit, nI (t + 1), xwt, xan, xlp, xpo, xpb, xwd, xwk, xnk, xco, xcb, xml, xme, xro, xow, xol, xla, xsh, xoe, xoh, xsr, xss, xse, xms, xfm, xfa, xfd, xcv, xcr) (nI l, ywa, ysk, ylo, nI (t + 1), nI s, yaw, yan, ywh, you, ymd, ygd, yop, yops, ybs, ysz, yex, yst, yow, yle, yel, yla, ysh, yro, yos, yoe, yoh, yor, yrw, ynx, ydp, ypl, ykd, ymt, ytd, yht) := by
  obtain ⟨ht, _, _, hya, hL, hP, hM, hO, hT, hW, hlo, htp⟩ := h
  have htp2 := htp
  obtain ⟨hm6, hk16, hd4, hsz, hfm, hrw, hfa, hnx, hfd, hdp, hty, hcs⟩ := htp2
  have h4 : d < 4 := hos.1.1
  obtain ⟨lo', tp'⟩ := so_topc (c := d + 2) (v := 2) (k' := k + 1) (d' := d + 1) ht hlo htp hgo.1 (by omega) hgo.2 (rl_n2 rl_rf0) (by omega) (fun j hj hne => by omega)
  refine Or.inl ⟨(nI l, xpc, xnd, xwc, xit, nI (t + 1), xwt, xan, xlp, xpo, xpb, xwd, xwk, xnk, xco, xcb, xml, xme, xro, xow, xol, xla, xsh, xoe, xoh, xsr, xss, xse, xms, xfm, upd xfa t (nI (k + 1)), upd xfd t (nI (d + 1)), upd xcv (6 * t + (d + 2)) (0), upd xcr (6 * t + (d + 2)) (1)), (nI l, ywa, ysk, ylo, nI (t + 1), nI (s + 1), yaw, yan, ywh, you, ymd, ygd, yop, yops, ybs, ysz, yex, yst, yow, yle, yel, yla, ysh, yro, yos, yoe, yoh, yor, yrw, upd ynx t (nI (k + 1)), upd ydp t (nI (d + 1)), upd ypl (8 * t + (d + 2)) (-1), upd ykd (8 * t + (d + 2)) (2), ymt, ytd, yht), t, m, k + 1, d + 1, _, fun P hp => ?_, fun Q hq => ?_, ⟨by omega, rfl, rfl, hya, hL, hP, hM, hO, re_T_up hT (by omega), hW, lo', tp'⟩, rfl, rfl, rfl⟩
  · exact re_xn P (oh := xoh) H (fun post h => br_f (by decide) <| br_f (by decide) <| br_f (by decide) <| br_f (by decide) <| br_f (by decide) <| br_f (by decide) <| br_f (by decide) <| br_f (by decide) <| br_t rfl <|  h) (fun post h => br_f (by decide) <| br_f (by decide) <| br_f (by decide) <| br_f (by decide) <| br_f (by decide) <| br_f (by decide) <| br_f (by decide) <| br_f (by decide) <| br_f (by decide) <| br_t rfl <|  h) (re_76p P ht hfa (by decide) (by decide) (fun post h => xo_17 post ht hfd h4 h) hp)
  · exact re_ys Q (fun post => post (nI l, ywa, ysk, ylo, nI (t + 1), nI (s + 1), yaw, yan, ywh, you, ymd, ygd, yop, yops, ybs, ysz, yex, yst, yow, yle, yel, yla, ysh, yro, yos, yoe, yoh, yor, yrw, upd ynx t (nI (k + 1)), upd ydp t (nI (d + 1)), upd ypl (8 * t + (d + 2)) (-1), upd ykd (8 * t + (d + 2)) (2), ymt, ytd, yht)) S hs (by decide) (fun z => absurd z (by decide)) (fun _ _ z9 z10 z16 z17 => absurd rfl z17) (fun _ post h => yo_17 post ht hnx hdp h4 h) hq
theorem st_1_0 (h : rr B t m k d f (nI l, xpc, xnd, xwc, xit, nI (t + 1), xwt, xan, xlp, xpo, xpb, xwd, xwk, xnk, xco, xcb, xml, xme, xro, xow, xol, xla, xsh, xoe, xoh, xsr, xss, xse, xms, xfm, xfa, xfd, xcv, xcr) (nI l, ywa, ysk, ylo, nI (t + 1), nI s, yaw, yan, ywh, you, ymd, ygd, yop, yops, ybs, ysz, yex, yst, yow, yle, yel, yla, ysh, yro, yos, yoe, yoh, yor, yrw, ynx, ydp, ypl, ykd, ymt, ytd, yht)) (hs : ¬ nI s = nI l) (H : re_H xfm xfa xco xcb t m k 1 Bv) (S : re_S yrw ynx yops ybs t m k 1 Bv) (hfb : rl_fb 1 Bv n) (hos : ck_os [6 + 0] d f) (hgo : k + 1 < 16 ∧ rl_ty yops ybs ysz m (k + 1) (ck_rd [6 + 0] d) (ck_rk [6 + 0] d f)) (hB : Bv = nI 0) : so B l s (nI l, xpc, xnd, xwc, xit, nI (t + 1), xwt, xan, xlp, xpo, xpb, xwd, xwk, xnk, xco, xcb, xml, xme, xro, xow, xol, xla, xsh, xoe, xoh, xsr, xss, xse, xms, xfm, xfa, xfd, xcv, xcr) (nI l, ywa, ysk, ylo, nI (t + 1), nI s, yaw, yan, ywh, you, ymd, ygd, yop, yops, ybs, ysz, yex, yst, yow, yle, yel, yla, ysh, yro, yos, yoe, yoh, yor, yrw, ynx, ydp, ypl, ykd, ymt, ytd, yht) := by
  obtain ⟨ht, _, _, hya, hL, hP, hM, hO, hT, hW, hlo, htp⟩ := h
  have htp2 := htp
  obtain ⟨hm6, hk16, hd4, hsz, hfm, hrw, hfa, hnx, hfd, hdp, hty, hcs⟩ := htp2
  subst hB
  have h4 : d < 4 := hos.1.1
  have hc := hcs 0 (by omega)
  obtain ⟨c3, ck, cb⟩ := st_k hc
  obtain ⟨lo', tp'⟩ := so_topc (c := d + 2) (v := f 0) (k' := k + 1) (d' := d + 1) ht hlo htp hgo.1 (by omega) hgo.2 hc (by omega) (fun j hj hne => by omega)
  rw [ck] at lo' tp'
  refine Or.inl ⟨(nI l, xpc, xnd, xwc, xit, nI (t + 1), xwt, xan, xlp, xpo, xpb, xwd, xwk, xnk, xco, xcb, xml, xme, xro, xow, xol, xla, xsh, xoe, xoh, xsr, xss, xse, xms, xfm, upd xfa t (nI (k + 1)), upd xfd t (nI (d + 1)), upd xcv (6 * t + (d + 2)) (xcv (6 * t + 0)), upd xcr (6 * t + (d + 2)) (xcr (6 * t + 0))), (nI l, ywa, ysk, ylo, nI (t + 1), nI (s + 1), yaw, yan, ywh, you, ymd, ygd, yop, yops, ybs, ysz, yex, yst, yow, yle, yel, yla, ysh, yro, yos, yoe, yoh, yor, yrw, upd ynx t (nI (k + 1)), upd ydp t (nI (d + 1)), upd ypl (8 * t + (d + 2)) (ypl (8 * t + 0)), upd ykd (8 * t + (d + 2)) (nI (f 0)), ymt, ytd, yht), t, m, k + 1, d + 1, _, fun P hp => ?_, fun Q hq => ?_, ⟨by omega, rfl, rfl, hya, hL, hP, hM, hO, re_T_up hT (by omega), hW, lo', tp'⟩, rfl, rfl, rfl⟩
  · exact re_xn P (oh := xoh) H (fun post h => br_t (by decide) h) (fun post h => br_t (by decide) h) (re_76p P ht hfa (by decide) (by decide) (fun post h => xo_1 post ht hfd h4 (by decide) cb h) hp)
  · exact re_ys Q (fun post => post (nI l, ywa, ysk, ylo, nI (t + 1), nI (s + 1), yaw, yan, ywh, you, ymd, ygd, yop, yops, ybs, ysz, yex, yst, yow, yle, yel, yla, ysh, yro, yos, yoe, yoh, yor, yrw, upd ynx t (nI (k + 1)), upd ydp t (nI (d + 1)), upd ypl (8 * t + (d + 2)) (ypl (8 * t + 0)), upd ykd (8 * t + (d + 2)) (nI (f 0)), ymt, ytd, yht)) S hs (by decide) (fun _ post h => yo_1 post ht hnx hdp h4 (by decide) c3 ck h) (fun z => absurd z (by decide)) (fun z => absurd z (by decide)) hq
theorem st_2_0 (h : rr B t m k d f (nI l, xpc, xnd, xwc, xit, nI (t + 1), xwt, xan, xlp, xpo, xpb, xwd, xwk, xnk, xco, xcb, xml, xme, xro, xow, xol, xla, xsh, xoe, xoh, xsr, xss, xse, xms, xfm, xfa, xfd, xcv, xcr) (nI l, ywa, ysk, ylo, nI (t + 1), nI s, yaw, yan, ywh, you, ymd, ygd, yop, yops, ybs, ysz, yex, yst, yow, yle, yel, yla, ysh, yro, yos, yoe, yoh, yor, yrw, ynx, ydp, ypl, ykd, ymt, ytd, yht)) (hs : ¬ nI s = nI l) (H : re_H xfm xfa xco xcb t m k 2 Bv) (S : re_S yrw ynx yops ybs t m k 2 Bv) (hfb : rl_fb 2 Bv n) (hos : ck_os [8 + 0] d f) (hgo : k + 1 < 16 ∧ rl_ty yops ybs ysz m (k + 1) (ck_rd [8 + 0] d) (ck_rk [8 + 0] d f)) (hB : Bv = nI 0) : so B l s (nI l, xpc, xnd, xwc, xit, nI (t + 1), xwt, xan, xlp, xpo, xpb, xwd, xwk, xnk, xco, xcb, xml, xme, xro, xow, xol, xla, xsh, xoe, xoh, xsr, xss, xse, xms, xfm, xfa, xfd, xcv, xcr) (nI l, ywa, ysk, ylo, nI (t + 1), nI s, yaw, yan, ywh, you, ymd, ygd, yop, yops, ybs, ysz, yex, yst, yow, yle, yel, yla, ysh, yro, yos, yoe, yoh, yor, yrw, ynx, ydp, ypl, ykd, ymt, ytd, yht) := by
  obtain ⟨ht, _, _, hya, hL, hP, hM, hO, hT, hW, hlo, htp⟩ := h
  have htp2 := htp
  obtain ⟨hm6, hk16, hd4, hsz, hfm, hrw, hfa, hnx, hfd, hdp, hty, hcs⟩ := htp2
  subst hB
  have h0 : 0 < d := hos.1.1
  obtain ⟨d, rfl⟩ : ∃ q, d = q + 1 := ⟨d - 1, by omega⟩
  have hc := hcs (d + 2) (by omega)
  obtain ⟨c3, ck, cb⟩ := st_k hc
  obtain ⟨lo', tp'⟩ := so_topc (c := 0) (v := f (d + 2)) (k' := k + 1) (d' := d) ht hlo htp hgo.1 (by omega) hgo.2 hc (by omega) (fun j hj hne => by omega)
  rw [ck] at lo' tp'
  refine Or.inl ⟨(nI l, xpc, xnd, xwc, xit, nI (t + 1), xwt, xan, xlp, xpo, xpb, xwd, xwk, xnk, xco, xcb, xml, xme, xro, xow, xol, xla, xsh, xoe, xoh, xsr, xss, xse, xms, xfm, upd xfa t (nI (k + 1)), upd xfd t (nI d), upd xcv (6 * t + 0) (xcv (6 * t + (d + 2))), upd xcr (6 * t + 0) (xcr (6 * t + (d + 2)))), (nI l, ywa, ysk, ylo, nI (t + 1), nI (s + 1), yaw, yan, ywh, you, ymd, ygd, yop, yops, ybs, ysz, yex, yst, yow, yle, yel, yla, ysh, yro, yos, yoe, yoh, yor, yrw, upd ynx t (nI (k + 1)), upd ydp t (nI d), upd ypl (8 * t + 0) (ypl (8 * t + (d + 2))), upd ykd (8 * t + 0) (nI (f (d + 2))), ymt, ytd, yht), t, m, k + 1, d, _, fun P hp => ?_, fun Q hq => ?_, ⟨by omega, rfl, rfl, hya, hL, hP, hM, hO, re_T_up hT (by omega), hW, lo', tp'⟩, rfl, rfl, rfl⟩
  · exact re_xn P (oh := xoh) H (fun post h => br_t (by decide) h) (fun post h => br_t (by decide) h) (re_76p P ht hfa (by decide) (by decide) (fun post h => xo_2 post ht hfd (by omega) (by decide) cb h) hp)
  · exact re_ys Q (fun post => post (nI l, ywa, ysk, ylo, nI (t + 1), nI (s + 1), yaw, yan, ywh, you, ymd, ygd, yop, yops, ybs, ysz, yex, yst, yow, yle, yel, yla, ysh, yro, yos, yoe, yoh, yor, yrw, upd ynx t (nI (k + 1)), upd ydp t (nI d), upd ypl (8 * t + 0) (ypl (8 * t + (d + 2))), upd ykd (8 * t + 0) (nI (f (d + 2))), ymt, ytd, yht)) S hs (by decide) (fun _ post h => yo_2 post ht hnx hdp (by omega) (by decide) c3 ck h) (fun z => absurd z (by decide)) (fun z => absurd z (by decide)) hq
theorem st_1_1 (h : rr B t m k d f (nI l, xpc, xnd, xwc, xit, nI (t + 1), xwt, xan, xlp, xpo, xpb, xwd, xwk, xnk, xco, xcb, xml, xme, xro, xow, xol, xla, xsh, xoe, xoh, xsr, xss, xse, xms, xfm, xfa, xfd, xcv, xcr) (nI l, ywa, ysk, ylo, nI (t + 1), nI s, yaw, yan, ywh, you, ymd, ygd, yop, yops, ybs, ysz, yex, yst, yow, yle, yel, yla, ysh, yro, yos, yoe, yoh, yor, yrw, ynx, ydp, ypl, ykd, ymt, ytd, yht)) (hs : ¬ nI s = nI l) (H : re_H xfm xfa xco xcb t m k 1 Bv) (S : re_S yrw ynx yops ybs t m k 1 Bv) (hfb : rl_fb 1 Bv n) (hos : ck_os [6 + 1] d f) (hgo : k + 1 < 16 ∧ rl_ty yops ybs ysz m (k + 1) (ck_rd [6 + 1] d) (ck_rk [6 + 1] d f)) (hB : Bv = nI 1) : so B l s (nI l, xpc, xnd, xwc, xit, nI (t + 1), xwt, xan, xlp, xpo, xpb, xwd, xwk, xnk, xco, xcb, xml, xme, xro, xow, xol, xla, xsh, xoe, xoh, xsr, xss, xse, xms, xfm, xfa, xfd, xcv, xcr) (nI l, ywa, ysk, ylo, nI (t + 1), nI s, yaw, yan, ywh, you, ymd, ygd, yop, yops, ybs, ysz, yex, yst, yow, yle, yel, yla, ysh, yro, yos, yoe, yoh, yor, yrw, ynx, ydp, ypl, ykd, ymt, ytd, yht) := by
  obtain ⟨ht, _, _, hya, hL, hP, hM, hO, hT, hW, hlo, htp⟩ := h
  have htp2 := htp
  obtain ⟨hm6, hk16, hd4, hsz, hfm, hrw, hfa, hnx, hfd, hdp, hty, hcs⟩ := htp2
  subst hB
  have h4 : d < 4 := hos.1.1
  have hc := hcs 1 (by omega)
  obtain ⟨c3, ck, cb⟩ := st_k hc
  obtain ⟨lo', tp'⟩ := so_topc (c := d + 2) (v := f 1) (k' := k + 1) (d' := d + 1) ht hlo htp hgo.1 (by omega) hgo.2 hc (by omega) (fun j hj hne => by omega)
  rw [ck] at lo' tp'
  refine Or.inl ⟨(nI l, xpc, xnd, xwc, xit, nI (t + 1), xwt, xan, xlp, xpo, xpb, xwd, xwk, xnk, xco, xcb, xml, xme, xro, xow, xol, xla, xsh, xoe, xoh, xsr, xss, xse, xms, xfm, upd xfa t (nI (k + 1)), upd xfd t (nI (d + 1)), upd xcv (6 * t + (d + 2)) (xcv (6 * t + 1)), upd xcr (6 * t + (d + 2)) (xcr (6 * t + 1))), (nI l, ywa, ysk, ylo, nI (t + 1), nI (s + 1), yaw, yan, ywh, you, ymd, ygd, yop, yops, ybs, ysz, yex, yst, yow, yle, yel, yla, ysh, yro, yos, yoe, yoh, yor, yrw, upd ynx t (nI (k + 1)), upd ydp t (nI (d + 1)), upd ypl (8 * t + (d + 2)) (ypl (8 * t + 1)), upd ykd (8 * t + (d + 2)) (nI (f 1)), ymt, ytd, yht), t, m, k + 1, d + 1, _, fun P hp => ?_, fun Q hq => ?_, ⟨by omega, rfl, rfl, hya, hL, hP, hM, hO, re_T_up hT (by omega), hW, lo', tp'⟩, rfl, rfl, rfl⟩
  · exact re_xn P (oh := xoh) H (fun post h => br_t (by decide) h) (fun post h => br_t (by decide) h) (re_76p P ht hfa (by decide) (by decide) (fun post h => xo_1 post ht hfd h4 (by decide) cb h) hp)
  · exact re_ys Q (fun post => post (nI l, ywa, ysk, ylo, nI (t + 1), nI (s + 1), yaw, yan, ywh, you, ymd, ygd, yop, yops, ybs, ysz, yex, yst, yow, yle, yel, yla, ysh, yro, yos, yoe, yoh, yor, yrw, upd ynx t (nI (k + 1)), upd ydp t (nI (d + 1)), upd ypl (8 * t + (d + 2)) (ypl (8 * t + 1)), upd ykd (8 * t + (d + 2)) (nI (f 1)), ymt, ytd, yht)) S hs (by decide) (fun _ post h => yo_1 post ht hnx hdp h4 (by decide) c3 ck h) (fun z => absurd z (by decide)) (fun z => absurd z (by decide)) hq
theorem st_2_1 (h : rr B t m k d f (nI l, xpc, xnd, xwc, xit, nI (t + 1), xwt, xan, xlp, xpo, xpb, xwd, xwk, xnk, xco, xcb, xml, xme, xro, xow, xol, xla, xsh, xoe, xoh, xsr, xss, xse, xms, xfm, xfa, xfd, xcv, xcr) (nI l, ywa, ysk, ylo, nI (t + 1), nI s, yaw, yan, ywh, you, ymd, ygd, yop, yops, ybs, ysz, yex, yst, yow, yle, yel, yla, ysh, yro, yos, yoe, yoh, yor, yrw, ynx, ydp, ypl, ykd, ymt, ytd, yht)) (hs : ¬ nI s = nI l) (H : re_H xfm xfa xco xcb t m k 2 Bv) (S : re_S yrw ynx yops ybs t m k 2 Bv) (hfb : rl_fb 2 Bv n) (hos : ck_os [8 + 1] d f) (hgo : k + 1 < 16 ∧ rl_ty yops ybs ysz m (k + 1) (ck_rd [8 + 1] d) (ck_rk [8 + 1] d f)) (hB : Bv = nI 1) : so B l s (nI l, xpc, xnd, xwc, xit, nI (t + 1), xwt, xan, xlp, xpo, xpb, xwd, xwk, xnk, xco, xcb, xml, xme, xro, xow, xol, xla, xsh, xoe, xoh, xsr, xss, xse, xms, xfm, xfa, xfd, xcv, xcr) (nI l, ywa, ysk, ylo, nI (t + 1), nI s, yaw, yan, ywh, you, ymd, ygd, yop, yops, ybs, ysz, yex, yst, yow, yle, yel, yla, ysh, yro, yos, yoe, yoh, yor, yrw, ynx, ydp, ypl, ykd, ymt, ytd, yht) := by
  obtain ⟨ht, _, _, hya, hL, hP, hM, hO, hT, hW, hlo, htp⟩ := h
  have htp2 := htp
  obtain ⟨hm6, hk16, hd4, hsz, hfm, hrw, hfa, hnx, hfd, hdp, hty, hcs⟩ := htp2
  subst hB
  have h0 : 0 < d := hos.1.1
  obtain ⟨d, rfl⟩ : ∃ q, d = q + 1 := ⟨d - 1, by omega⟩
  have hc := hcs (d + 2) (by omega)
  obtain ⟨c3, ck, cb⟩ := st_k hc
  obtain ⟨lo', tp'⟩ := so_topc (c := 1) (v := f (d + 2)) (k' := k + 1) (d' := d) ht hlo htp hgo.1 (by omega) hgo.2 hc (by omega) (fun j hj hne => by omega)
  rw [ck] at lo' tp'
  refine Or.inl ⟨(nI l, xpc, xnd, xwc, xit, nI (t + 1), xwt, xan, xlp, xpo, xpb, xwd, xwk, xnk, xco, xcb, xml, xme, xro, xow, xol, xla, xsh, xoe, xoh, xsr, xss, xse, xms, xfm, upd xfa t (nI (k + 1)), upd xfd t (nI d), upd xcv (6 * t + 1) (xcv (6 * t + (d + 2))), upd xcr (6 * t + 1) (xcr (6 * t + (d + 2)))), (nI l, ywa, ysk, ylo, nI (t + 1), nI (s + 1), yaw, yan, ywh, you, ymd, ygd, yop, yops, ybs, ysz, yex, yst, yow, yle, yel, yla, ysh, yro, yos, yoe, yoh, yor, yrw, upd ynx t (nI (k + 1)), upd ydp t (nI d), upd ypl (8 * t + 1) (ypl (8 * t + (d + 2))), upd ykd (8 * t + 1) (nI (f (d + 2))), ymt, ytd, yht), t, m, k + 1, d, _, fun P hp => ?_, fun Q hq => ?_, ⟨by omega, rfl, rfl, hya, hL, hP, hM, hO, re_T_up hT (by omega), hW, lo', tp'⟩, rfl, rfl, rfl⟩
  · exact re_xn P (oh := xoh) H (fun post h => br_t (by decide) h) (fun post h => br_t (by decide) h) (re_76p P ht hfa (by decide) (by decide) (fun post h => xo_2 post ht hfd (by omega) (by decide) cb h) hp)
  · exact re_ys Q (fun post => post (nI l, ywa, ysk, ylo, nI (t + 1), nI (s + 1), yaw, yan, ywh, you, ymd, ygd, yop, yops, ybs, ysz, yex, yst, yow, yle, yel, yla, ysh, yro, yos, yoe, yoh, yor, yrw, upd ynx t (nI (k + 1)), upd ydp t (nI d), upd ypl (8 * t + 1) (ypl (8 * t + (d + 2))), upd ykd (8 * t + 1) (nI (f (d + 2))), ymt, ytd, yht)) S hs (by decide) (fun _ post h => yo_2 post ht hnx hdp (by omega) (by decide) c3 ck h) (fun z => absurd z (by decide)) (fun z => absurd z (by decide)) hq
theorem st_3 (h : rr B t m k d f (nI l, xpc, xnd, xwc, xit, nI (t + 1), xwt, xan, xlp, xpo, xpb, xwd, xwk, xnk, xco, xcb, xml, xme, xro, xow, xol, xla, xsh, xoe, xoh, xsr, xss, xse, xms, xfm, xfa, xfd, xcv, xcr) (nI l, ywa, ysk, ylo, nI (t + 1), nI s, yaw, yan, ywh, you, ymd, ygd, yop, yops, ybs, ysz, yex, yst, yow, yle, yel, yla, ysh, yro, yos, yoe, yoh, yor, yrw, ynx, ydp, ypl, ykd, ymt, ytd, yht)) (hs : ¬ nI s = nI l) (H : re_H xfm xfa xco xcb t m k 3 Bv) (S : re_S yrw ynx yops ybs t m k 3 Bv) (hfb : rl_fb 3 Bv n) (hos : ck_os [1, 1, 4] d f) (hgo : k + 1 < 16 ∧ rl_ty yops ybs ysz m (k + 1) (ck_rd [1, 1, 4] d) (ck_rk [1, 1, 4] d f))  : so B l s (nI l, xpc, xnd, xwc, xit, nI (t + 1), xwt, xan, xlp, xpo, xpb, xwd, xwk, xnk, xco, xcb, xml, xme, xro, xow, xol, xla, xsh, xoe, xoh, xsr, xss, xse, xms, xfm, xfa, xfd, xcv, xcr) (nI l, ywa, ysk, ylo, nI (t + 1), nI s, yaw, yan, ywh, you, ymd, ygd, yop, yops, ybs, ysz, yex, yst, yow, yle, yel, yla, ysh, yro, yos, yoe, yoh, yor, yrw, ynx, ydp, ypl, ykd, ymt, ytd, yht) := by
  obtain ⟨ht, _, _, hya, hL, hP, hM, hO, hT, hW, hlo, htp⟩ := h
  have htp2 := htp
  obtain ⟨hm6, hk16, hd4, hsz, hfm, hrw, hfa, hnx, hfd, hdp, hty, hcs⟩ := htp2
  obtain ⟨o1, o2, o3, _⟩ := hos
  have h0 : 0 < d := o1.1
  have h1 : 0 < d - 1 := o2.1
  obtain ⟨d, rfl⟩ : ∃ q, d = q + 2 := ⟨d - 2, by omega⟩
  have f1 : f (d + 3) = 1 := o1.2
  have f2 : f (d + 2) = 1 := o2.2
  have c1 := hcs (d + 3) (by omega)
  have c2 := hcs (d + 2) (by omega)
  rw [f1] at c1
  rw [f2] at c2
  have e1 := (rl_ce1 c1).2.2.1
  have e2 := (rl_ce1 c2).2.2.1
  have hsv : rl_sv ((ypl (8 * t + (d + 2)) + ypl (8 * t + (d + 3))).toInt16.toInt32) := rl_sv_c _
  have hc : rl_ce 1 ((xcv (6 * t + (d + 2)) + xcv (6 * t + (d + 3))).toInt16.toInt32) 0 ((ypl (8 * t + (d + 2)) + ypl (8 * t + (d + 3))).toInt16.toInt32) 1 := by
    rw [e1, e2]
    exact rl_n1 hsv
  obtain ⟨lo', tp'⟩ := so_topc (c := d + 2) (v := 1) (k' := k + 1) (d' := d + 1) ht hlo htp hgo.1 (by omega) hgo.2 hc (by omega) (fun j hj hne => by omega)
  refine Or.inl ⟨(nI l, xpc, xnd, xwc, xit, nI (t + 1), xwt, xan, xlp, xpo, xpb, xwd, xwk, xnk, xco, xcb, xml, xme, xro, xow, xol, xla, xsh, xoe, xoh, xsr, xss, xse, xms, xfm, upd xfa t (nI (k + 1)), upd xfd t (nI (d + 1)), upd xcv (6 * t + (d + 2)) ((xcv (6 * t + (d + 2)) + xcv (6 * t + (d + 3))).toInt16.toInt32), upd xcr (6 * t + (d + 2)) (0)), (nI l, ywa, ysk, ylo, nI (t + 1), nI (s + 1), yaw, yan, ywh, you, ymd, ygd, yop, yops, ybs, ysz, yex, yst, yow, yle, yel, yla, ysh, yro, yos, yoe, yoh, yor, yrw, upd ynx t (nI (k + 1)), upd ydp t (nI (d + 1)), upd ypl (8 * t + (d + 2)) ((ypl (8 * t + (d + 2)) + ypl (8 * t + (d + 3))).toInt16.toInt32), upd ykd (8 * t + (d + 2)) (1), ymt, ytd, yht), t, m, k + 1, d + 1, _, fun P hp => ?_, fun Q hq => ?_, ⟨by omega, rfl, rfl, hya, hL, hP, hM, hO, re_T_up hT (by omega), hW, lo', tp'⟩, rfl, rfl, rfl⟩
  · exact re_xn P (oh := xoh) H (fun post h => br_t (by decide) h) (fun post h => br_t (by decide) h) (re_76p P ht hfa (by decide) (by decide) (fun post h => xo_3 post ht hfd (by omega) h) hp)
  · exact re_ys Q (fun post => post (nI l, ywa, ysk, ylo, nI (t + 1), nI (s + 1), yaw, yan, ywh, you, ymd, ygd, yop, yops, ybs, ysz, yex, yst, yow, yle, yel, yla, ysh, yro, yos, yoe, yoh, yor, yrw, upd ynx t (nI (k + 1)), upd ydp t (nI (d + 1)), upd ypl (8 * t + (d + 2)) ((ypl (8 * t + (d + 2)) + ypl (8 * t + (d + 3))).toInt16.toInt32), upd ykd (8 * t + (d + 2)) (1), ymt, ytd, yht)) S hs (by decide) (fun _ post h => yo_3 post ht hnx hdp (by omega) h) (fun z => absurd z (by decide)) (fun z => absurd z (by decide)) hq
theorem st_4 (h : rr B t m k d f (nI l, xpc, xnd, xwc, xit, nI (t + 1), xwt, xan, xlp, xpo, xpb, xwd, xwk, xnk, xco, xcb, xml, xme, xro, xow, xol, xla, xsh, xoe, xoh, xsr, xss, xse, xms, xfm, xfa, xfd, xcv, xcr) (nI l, ywa, ysk, ylo, nI (t + 1), nI s, yaw, yan, ywh, you, ymd, ygd, yop, yops, ybs, ysz, yex, yst, yow, yle, yel, yla, ysh, yro, yos, yoe, yoh, yor, yrw, ynx, ydp, ypl, ykd, ymt, ytd, yht)) (hs : ¬ nI s = nI l) (H : re_H xfm xfa xco xcb t m k 4 Bv) (S : re_S yrw ynx yops ybs t m k 4 Bv) (hfb : rl_fb 4 Bv n) (hos : ck_os [1, 1, 4] d f) (hgo : k + 1 < 16 ∧ rl_ty yops ybs ysz m (k + 1) (ck_rd [1, 1, 4] d) (ck_rk [1, 1, 4] d f))  : so B l s (nI l, xpc, xnd, xwc, xit, nI (t + 1), xwt, xan, xlp, xpo, xpb, xwd, xwk, xnk, xco, xcb, xml, xme, xro, xow, xol, xla, xsh, xoe, xoh, xsr, xss, xse, xms, xfm, xfa, xfd, xcv, xcr) (nI l, ywa, ysk, ylo, nI (t + 1), nI s, yaw, yan, ywh, you, ymd, ygd, yop, yops, ybs, ysz, yex, yst, yow, yle, yel, yla, ysh, yro, yos, yoe, yoh, yor, yrw, ynx, ydp, ypl, ykd, ymt, ytd, yht) := by
  obtain ⟨ht, _, _, hya, hL, hP, hM, hO, hT, hW, hlo, htp⟩ := h
  have htp2 := htp
  obtain ⟨hm6, hk16, hd4, hsz, hfm, hrw, hfa, hnx, hfd, hdp, hty, hcs⟩ := htp2
  obtain ⟨o1, o2, o3, _⟩ := hos
  have h0 : 0 < d := o1.1
  have h1 : 0 < d - 1 := o2.1
  obtain ⟨d, rfl⟩ : ∃ q, d = q + 2 := ⟨d - 2, by omega⟩
  have f1 : f (d + 3) = 1 := o1.2
  have f2 : f (d + 2) = 1 := o2.2
  have c1 := hcs (d + 3) (by omega)
  have c2 := hcs (d + 2) (by omega)
  rw [f1] at c1
  rw [f2] at c2
  have e1 := (rl_ce1 c1).2.2.1
  have e2 := (rl_ce1 c2).2.2.1
  have hsv : rl_sv ((ypl (8 * t + (d + 2)) - ypl (8 * t + (d + 3))).toInt16.toInt32) := rl_sv_c _
  have hc : rl_ce 1 ((xcv (6 * t + (d + 2)) - xcv (6 * t + (d + 3))).toInt16.toInt32) 0 ((ypl (8 * t + (d + 2)) - ypl (8 * t + (d + 3))).toInt16.toInt32) 1 := by
    rw [e1, e2]
    exact rl_n1 hsv
  obtain ⟨lo', tp'⟩ := so_topc (c := d + 2) (v := 1) (k' := k + 1) (d' := d + 1) ht hlo htp hgo.1 (by omega) hgo.2 hc (by omega) (fun j hj hne => by omega)
  refine Or.inl ⟨(nI l, xpc, xnd, xwc, xit, nI (t + 1), xwt, xan, xlp, xpo, xpb, xwd, xwk, xnk, xco, xcb, xml, xme, xro, xow, xol, xla, xsh, xoe, xoh, xsr, xss, xse, xms, xfm, upd xfa t (nI (k + 1)), upd xfd t (nI (d + 1)), upd xcv (6 * t + (d + 2)) ((xcv (6 * t + (d + 2)) - xcv (6 * t + (d + 3))).toInt16.toInt32), upd xcr (6 * t + (d + 2)) (0)), (nI l, ywa, ysk, ylo, nI (t + 1), nI (s + 1), yaw, yan, ywh, you, ymd, ygd, yop, yops, ybs, ysz, yex, yst, yow, yle, yel, yla, ysh, yro, yos, yoe, yoh, yor, yrw, upd ynx t (nI (k + 1)), upd ydp t (nI (d + 1)), upd ypl (8 * t + (d + 2)) ((ypl (8 * t + (d + 2)) - ypl (8 * t + (d + 3))).toInt16.toInt32), upd ykd (8 * t + (d + 2)) (1), ymt, ytd, yht), t, m, k + 1, d + 1, _, fun P hp => ?_, fun Q hq => ?_, ⟨by omega, rfl, rfl, hya, hL, hP, hM, hO, re_T_up hT (by omega), hW, lo', tp'⟩, rfl, rfl, rfl⟩
  · exact re_xn P (oh := xoh) H (fun post h => br_t (by decide) h) (fun post h => br_t (by decide) h) (re_76p P ht hfa (by decide) (by decide) (fun post h => xo_4 post ht hfd (by omega) h) hp)
  · exact re_ys Q (fun post => post (nI l, ywa, ysk, ylo, nI (t + 1), nI (s + 1), yaw, yan, ywh, you, ymd, ygd, yop, yops, ybs, ysz, yex, yst, yow, yle, yel, yla, ysh, yro, yos, yoe, yoh, yor, yrw, upd ynx t (nI (k + 1)), upd ydp t (nI (d + 1)), upd ypl (8 * t + (d + 2)) ((ypl (8 * t + (d + 2)) - ypl (8 * t + (d + 3))).toInt16.toInt32), upd ykd (8 * t + (d + 2)) (1), ymt, ytd, yht)) S hs (by decide) (fun _ post h => yo_4 post ht hnx hdp (by omega) h) (fun z => absurd z (by decide)) (fun z => absurd z (by decide)) hq
theorem st_5 (h : rr B t m k d f (nI l, xpc, xnd, xwc, xit, nI (t + 1), xwt, xan, xlp, xpo, xpb, xwd, xwk, xnk, xco, xcb, xml, xme, xro, xow, xol, xla, xsh, xoe, xoh, xsr, xss, xse, xms, xfm, xfa, xfd, xcv, xcr) (nI l, ywa, ysk, ylo, nI (t + 1), nI s, yaw, yan, ywh, you, ymd, ygd, yop, yops, ybs, ysz, yex, yst, yow, yle, yel, yla, ysh, yro, yos, yoe, yoh, yor, yrw, ynx, ydp, ypl, ykd, ymt, ytd, yht)) (hs : ¬ nI s = nI l) (H : re_H xfm xfa xco xcb t m k 5 Bv) (S : re_S yrw ynx yops ybs t m k 5 Bv) (hfb : rl_fb 5 Bv n) (hos : ck_os [1, 1, 4] d f) (hgo : k + 1 < 16 ∧ rl_ty yops ybs ysz m (k + 1) (ck_rd [1, 1, 4] d) (ck_rk [1, 1, 4] d f))  : so B l s (nI l, xpc, xnd, xwc, xit, nI (t + 1), xwt, xan, xlp, xpo, xpb, xwd, xwk, xnk, xco, xcb, xml, xme, xro, xow, xol, xla, xsh, xoe, xoh, xsr, xss, xse, xms, xfm, xfa, xfd, xcv, xcr) (nI l, ywa, ysk, ylo, nI (t + 1), nI s, yaw, yan, ywh, you, ymd, ygd, yop, yops, ybs, ysz, yex, yst, yow, yle, yel, yla, ysh, yro, yos, yoe, yoh, yor, yrw, ynx, ydp, ypl, ykd, ymt, ytd, yht) := by
  obtain ⟨ht, _, _, hya, hL, hP, hM, hO, hT, hW, hlo, htp⟩ := h
  have htp2 := htp
  obtain ⟨hm6, hk16, hd4, hsz, hfm, hrw, hfa, hnx, hfd, hdp, hty, hcs⟩ := htp2
  obtain ⟨o1, o2, o3, _⟩ := hos
  have h0 : 0 < d := o1.1
  have h1 : 0 < d - 1 := o2.1
  obtain ⟨d, rfl⟩ : ∃ q, d = q + 2 := ⟨d - 2, by omega⟩
  have f1 : f (d + 3) = 1 := o1.2
  have f2 : f (d + 2) = 1 := o2.2
  have c1 := hcs (d + 3) (by omega)
  have c2 := hcs (d + 2) (by omega)
  rw [f1] at c1
  rw [f2] at c2
  have e1 := (rl_ce1 c1).2.2.1
  have e2 := (rl_ce1 c2).2.2.1
  have hsv : rl_sv ((ypl (8 * t + (d + 2)) * ypl (8 * t + (d + 3))).toInt16.toInt32) := rl_sv_c _
  have hc : rl_ce 1 ((xcv (6 * t + (d + 2)) * xcv (6 * t + (d + 3))).toInt16.toInt32) 0 ((ypl (8 * t + (d + 2)) * ypl (8 * t + (d + 3))).toInt16.toInt32) 1 := by
    rw [e1, e2]
    exact rl_n1 hsv
  obtain ⟨lo', tp'⟩ := so_topc (c := d + 2) (v := 1) (k' := k + 1) (d' := d + 1) ht hlo htp hgo.1 (by omega) hgo.2 hc (by omega) (fun j hj hne => by omega)
  refine Or.inl ⟨(nI l, xpc, xnd, xwc, xit, nI (t + 1), xwt, xan, xlp, xpo, xpb, xwd, xwk, xnk, xco, xcb, xml, xme, xro, xow, xol, xla, xsh, xoe, xoh, xsr, xss, xse, xms, xfm, upd xfa t (nI (k + 1)), upd xfd t (nI (d + 1)), upd xcv (6 * t + (d + 2)) ((xcv (6 * t + (d + 2)) * xcv (6 * t + (d + 3))).toInt16.toInt32), upd xcr (6 * t + (d + 2)) (0)), (nI l, ywa, ysk, ylo, nI (t + 1), nI (s + 1), yaw, yan, ywh, you, ymd, ygd, yop, yops, ybs, ysz, yex, yst, yow, yle, yel, yla, ysh, yro, yos, yoe, yoh, yor, yrw, upd ynx t (nI (k + 1)), upd ydp t (nI (d + 1)), upd ypl (8 * t + (d + 2)) ((ypl (8 * t + (d + 2)) * ypl (8 * t + (d + 3))).toInt16.toInt32), upd ykd (8 * t + (d + 2)) (1), ymt, ytd, yht), t, m, k + 1, d + 1, _, fun P hp => ?_, fun Q hq => ?_, ⟨by omega, rfl, rfl, hya, hL, hP, hM, hO, re_T_up hT (by omega), hW, lo', tp'⟩, rfl, rfl, rfl⟩
  · exact re_xn P (oh := xoh) H (fun post h => br_t (by decide) h) (fun post h => br_t (by decide) h) (re_76p P ht hfa (by decide) (by decide) (fun post h => xo_5 post ht hfd (by omega) h) hp)
  · exact re_ys Q (fun post => post (nI l, ywa, ysk, ylo, nI (t + 1), nI (s + 1), yaw, yan, ywh, you, ymd, ygd, yop, yops, ybs, ysz, yex, yst, yow, yle, yel, yla, ysh, yro, yos, yoe, yoh, yor, yrw, upd ynx t (nI (k + 1)), upd ydp t (nI (d + 1)), upd ypl (8 * t + (d + 2)) ((ypl (8 * t + (d + 2)) * ypl (8 * t + (d + 3))).toInt16.toInt32), upd ykd (8 * t + (d + 2)) (1), ymt, ytd, yht)) S hs (by decide) (fun _ post h => yo_5 post ht hnx hdp (by omega) h) (fun z => absurd z (by decide)) (fun z => absurd z (by decide)) hq
theorem st_6 (h : rr B t m k d f (nI l, xpc, xnd, xwc, xit, nI (t + 1), xwt, xan, xlp, xpo, xpb, xwd, xwk, xnk, xco, xcb, xml, xme, xro, xow, xol, xla, xsh, xoe, xoh, xsr, xss, xse, xms, xfm, xfa, xfd, xcv, xcr) (nI l, ywa, ysk, ylo, nI (t + 1), nI s, yaw, yan, ywh, you, ymd, ygd, yop, yops, ybs, ysz, yex, yst, yow, yle, yel, yla, ysh, yro, yos, yoe, yoh, yor, yrw, ynx, ydp, ypl, ykd, ymt, ytd, yht)) (hs : ¬ nI s = nI l) (H : re_H xfm xfa xco xcb t m k 6 Bv) (S : re_S yrw ynx yops ybs t m k 6 Bv) (hfb : rl_fb 6 Bv n) (hos : ck_os [1, 1, 4] d f) (hgo : k + 1 < 16 ∧ rl_ty yops ybs ysz m (k + 1) (ck_rd [1, 1, 4] d) (ck_rk [1, 1, 4] d f))  : so B l s (nI l, xpc, xnd, xwc, xit, nI (t + 1), xwt, xan, xlp, xpo, xpb, xwd, xwk, xnk, xco, xcb, xml, xme, xro, xow, xol, xla, xsh, xoe, xoh, xsr, xss, xse, xms, xfm, xfa, xfd, xcv, xcr) (nI l, ywa, ysk, ylo, nI (t + 1), nI s, yaw, yan, ywh, you, ymd, ygd, yop, yops, ybs, ysz, yex, yst, yow, yle, yel, yla, ysh, yro, yos, yoe, yoh, yor, yrw, ynx, ydp, ypl, ykd, ymt, ytd, yht) := by
  obtain ⟨ht, _, _, hya, hL, hP, hM, hO, hT, hW, hlo, htp⟩ := h
  have htp2 := htp
  obtain ⟨hm6, hk16, hd4, hsz, hfm, hrw, hfa, hnx, hfd, hdp, hty, hcs⟩ := htp2
  obtain ⟨o1, o2, o3, _⟩ := hos
  have h0 : 0 < d := o1.1
  have h1 : 0 < d - 1 := o2.1
  obtain ⟨d, rfl⟩ : ∃ q, d = q + 2 := ⟨d - 2, by omega⟩
  have f1 : f (d + 3) = 1 := o1.2
  have f2 : f (d + 2) = 1 := o2.2
  have c1 := hcs (d + 3) (by omega)
  have c2 := hcs (d + 2) (by omega)
  rw [f1] at c1
  rw [f2] at c2
  have e1 := (rl_ce1 c1).2.2.1
  have e2 := (rl_ce1 c2).2.2.1
  have hsv : rl_sv (if ypl (8 * t + (d + 3)) ≤ ypl (8 * t + (d + 2)) then 0 else 1) := by split <;> exact rl_sv_i (by decide) (by decide)
  have hc : rl_ce 1 (if xcv (6 * t + (d + 3)) ≤ xcv (6 * t + (d + 2)) then 0 else 1) 0 (if ypl (8 * t + (d + 3)) ≤ ypl (8 * t + (d + 2)) then 0 else 1) 1 := by
    rw [e1, e2]
    exact rl_n1 hsv
  obtain ⟨lo', tp'⟩ := so_topc (c := d + 2) (v := 1) (k' := k + 1) (d' := d + 1) ht hlo htp hgo.1 (by omega) hgo.2 hc (by omega) (fun j hj hne => by omega)
  refine Or.inl ⟨(nI l, xpc, xnd, xwc, xit, nI (t + 1), xwt, xan, xlp, xpo, xpb, xwd, xwk, xnk, xco, xcb, xml, xme, xro, xow, xol, xla, xsh, xoe, xoh, xsr, xss, xse, xms, xfm, upd xfa t (nI (k + 1)), upd xfd t (nI (d + 1)), upd xcv (6 * t + (d + 2)) (if xcv (6 * t + (d + 3)) ≤ xcv (6 * t + (d + 2)) then 0 else 1), upd xcr (6 * t + (d + 2)) (0)), (nI l, ywa, ysk, ylo, nI (t + 1), nI (s + 1), yaw, yan, ywh, you, ymd, ygd, yop, yops, ybs, ysz, yex, yst, yow, yle, yel, yla, ysh, yro, yos, yoe, yoh, yor, yrw, upd ynx t (nI (k + 1)), upd ydp t (nI (d + 1)), upd ypl (8 * t + (d + 2)) (if ypl (8 * t + (d + 3)) ≤ ypl (8 * t + (d + 2)) then 0 else 1), upd ykd (8 * t + (d + 2)) (1), ymt, ytd, yht), t, m, k + 1, d + 1, _, fun P hp => ?_, fun Q hq => ?_, ⟨by omega, rfl, rfl, hya, hL, hP, hM, hO, re_T_up hT (by omega), hW, lo', tp'⟩, rfl, rfl, rfl⟩
  · exact re_xn P (oh := xoh) H (fun post h => br_t (by decide) h) (fun post h => br_t (by decide) h) (re_76p P ht hfa (by decide) (by decide) (fun post h => xo_6 post ht hfd (by omega) h) hp)
  · exact re_ys Q (fun post => post (nI l, ywa, ysk, ylo, nI (t + 1), nI (s + 1), yaw, yan, ywh, you, ymd, ygd, yop, yops, ybs, ysz, yex, yst, yow, yle, yel, yla, ysh, yro, yos, yoe, yoh, yor, yrw, upd ynx t (nI (k + 1)), upd ydp t (nI (d + 1)), upd ypl (8 * t + (d + 2)) (if ypl (8 * t + (d + 3)) ≤ ypl (8 * t + (d + 2)) then 0 else 1), upd ykd (8 * t + (d + 2)) (1), ymt, ytd, yht)) S hs (by decide) (fun _ post h => yo_6 post ht hnx hdp (by omega) h) (fun z => absurd z (by decide)) (fun z => absurd z (by decide)) hq
variable {b : Nat}
theorem st_7 (h : rr B t m k d f (nI l, xpc, xnd, xwc, xit, nI (t + 1), xwt, xan, xlp, xpo, xpb, xwd, xwk, xnk, xco, xcb, xml, xme, xro, xow, xol, xla, xsh, xoe, xoh, xsr, xss, xse, xms, xfm, xfa, xfd, xcv, xcr) (nI l, ywa, ysk, ylo, nI (t + 1), nI s, yaw, yan, ywh, you, ymd, ygd, yop, yops, ybs, ysz, yex, yst, yow, yle, yel, yla, ysh, yro, yos, yoe, yoh, yor, yrw, ynx, ydp, ypl, ykd, ymt, ytd, yht)) (hs : ¬ nI s = nI l) (H : re_H xfm xfa xco xcb t m k 7 Bv) (S : re_S yrw ynx yops ybs t m k 7 Bv) (hfb : rl_fb 7 Bv n)  (hju : b < 16 ∧ Bv = nI b ∧ rl_ty yops ybs ysz m b (ck_rd [] d) (ck_rk [] d f)) : so B l s (nI l, xpc, xnd, xwc, xit, nI (t + 1), xwt, xan, xlp, xpo, xpb, xwd, xwk, xnk, xco, xcb, xml, xme, xro, xow, xol, xla, xsh, xoe, xoh, xsr, xss, xse, xms, xfm, xfa, xfd, xcv, xcr) (nI l, ywa, ysk, ylo, nI (t + 1), nI s, yaw, yan, ywh, you, ymd, ygd, yop, yops, ybs, ysz, yex, yst, yow, yle, yel, yla, ysh, yro, yos, yoe, yoh, yor, yrw, ynx, ydp, ypl, ykd, ymt, ytd, yht) := by
  obtain ⟨ht, _, _, hya, hL, hP, hM, hO, hT, hW, hlo, htp⟩ := h
  have htp2 := htp
  obtain ⟨hm6, hk16, hd4, hsz, hfm, hrw, hfa, hnx, hfd, hdp, hty, hcs⟩ := htp2
  obtain ⟨hb, rfl, hty'⟩ := hju
  obtain ⟨lo', tp'⟩ := so_topn (k' := b) (d' := d) ht hlo htp hb (by omega) hty'
  rw [so_same hfd, so_same hdp] at lo' tp'
  refine Or.inl ⟨(nI l, xpc, xnd, xwc, xit, nI (t + 1), xwt, xan, xlp, xpo, xpb, xwd, xwk, xnk, xco, xcb, xml, xme, xro, xow, xol, xla, xsh, xoe, xoh, xsr, xss, xse, xms, xfm, upd xfa t (nI b), xfd, xcv, xcr), (nI l, ywa, ysk, ylo, nI (t + 1), nI (s + 1), yaw, yan, ywh, you, ymd, ygd, yop, yops, ybs, ysz, yex, yst, yow, yle, yel, yla, ysh, yro, yos, yoe, yoh, yor, yrw, upd ynx t (nI b), ydp, ypl, ykd, ymt, ytd, yht), t, m, b, d, _, fun P hp => ?_, fun Q hq => ?_, ⟨by omega, rfl, rfl, hya, hL, hP, hM, hO, re_T_up hT (by omega), hW, lo', tp'⟩, rfl, rfl, rfl⟩
  · exact re_xn P (oh := xoh) H (fun post h => br_t (by decide) h) (fun post h => br_t (by decide) h) (re_76p P ht hfa (by decide) (by decide) (fun post h => xo_7 post ht (by rw [rl_uu]; exact h)) hp)
  · exact re_ys Q (fun post => post (nI l, ywa, ysk, ylo, nI (t + 1), nI (s + 1), yaw, yan, ywh, you, ymd, ygd, yop, yops, ybs, ysz, yex, yst, yow, yle, yel, yla, ysh, yro, yos, yoe, yoh, yor, yrw, upd ynx t (nI b), ydp, ypl, ykd, ymt, ytd, yht)) S hs (by decide) (fun _ post h => yo_7 post ht h) (fun z => absurd z (by decide)) (fun z => absurd z (by decide)) hq
theorem st_8 (h : rr B t m k d f (nI l, xpc, xnd, xwc, xit, nI (t + 1), xwt, xan, xlp, xpo, xpb, xwd, xwk, xnk, xco, xcb, xml, xme, xro, xow, xol, xla, xsh, xoe, xoh, xsr, xss, xse, xms, xfm, xfa, xfd, xcv, xcr) (nI l, ywa, ysk, ylo, nI (t + 1), nI s, yaw, yan, ywh, you, ymd, ygd, yop, yops, ybs, ysz, yex, yst, yow, yle, yel, yla, ysh, yro, yos, yoe, yoh, yor, yrw, ynx, ydp, ypl, ykd, ymt, ytd, yht)) (hs : ¬ nI s = nI l) (H : re_H xfm xfa xco xcb t m k 8 Bv) (S : re_S yrw ynx yops ybs t m k 8 Bv) (hfb : rl_fb 8 Bv n) (hos : ck_os [1] d f) (hgo : k + 1 < 16 ∧ rl_ty yops ybs ysz m (k + 1) (ck_rd [1] d) (ck_rk [1] d f)) (hju : b < 16 ∧ Bv = nI b ∧ rl_ty yops ybs ysz m b (ck_rd [1] d) (ck_rk [1] d f)) : so B l s (nI l, xpc, xnd, xwc, xit, nI (t + 1), xwt, xan, xlp, xpo, xpb, xwd, xwk, xnk, xco, xcb, xml, xme, xro, xow, xol, xla, xsh, xoe, xoh, xsr, xss, xse, xms, xfm, xfa, xfd, xcv, xcr) (nI l, ywa, ysk, ylo, nI (t + 1), nI s, yaw, yan, ywh, you, ymd, ygd, yop, yops, ybs, ysz, yex, yst, yow, yle, yel, yla, ysh, yro, yos, yoe, yoh, yor, yrw, ynx, ydp, ypl, ykd, ymt, ytd, yht) := by
  obtain ⟨ht, _, _, hya, hL, hP, hM, hO, hT, hW, hlo, htp⟩ := h
  have htp2 := htp
  obtain ⟨hm6, hk16, hd4, hsz, hfm, hrw, hfa, hnx, hfd, hdp, hty, hcs⟩ := htp2
  obtain ⟨hb, rfl, hty'⟩ := hju
  have h0 : 0 < d := hos.1.1
  obtain ⟨d, rfl⟩ : ∃ q, d = q + 1 := ⟨d - 1, by omega⟩
  have f1 : f (d + 2) = 1 := hos.1.2
  have c1 := hcs (d + 2) (by omega)
  rw [f1] at c1
  have e1 := (rl_ce1 c1).2.2.1
  by_cases z : ypl (8 * t + (d + 2)) = 0
  · have z' : xcv (6 * t + (d + 2)) = 0 := by rw [e1]; exact z
    obtain ⟨lo', tp'⟩ := so_topn (k' := b) (d' := d) ht hlo htp hb (by omega) hty'
    refine Or.inl ⟨(nI l, xpc, xnd, xwc, xit, nI (t + 1), xwt, xan, xlp, xpo, xpb, xwd, xwk, xnk, xco, xcb, xml, xme, xro, xow, xol, xla, xsh, xoe, xoh, xsr, xss, xse, xms, xfm, upd xfa t (nI b), upd xfd t (nI d), xcv, xcr), (nI l, ywa, ysk, ylo, nI (t + 1), nI (s + 1), yaw, yan, ywh, you, ymd, ygd, yop, yops, ybs, ysz, yex, yst, yow, yle, yel, yla, ysh, yro, yos, yoe, yoh, yor, yrw, upd ynx t (nI b), upd ydp t (nI d), ypl, ykd, ymt, ytd, yht), t, m, b, d, _, fun P hp => ?_, fun Q hq => ?_, ⟨by omega, rfl, rfl, hya, hL, hP, hM, hO, re_T_up hT (by omega), hW, lo', tp'⟩, rfl, rfl, rfl⟩
    · exact re_xn P (oh := xoh) H (fun post h => br_t (by decide) h) (fun post h => br_t (by decide) h) (re_76p P ht hfa (by decide) (by decide) (fun post h => xo_8 post ht hfd (by omega) (fun _ => by rw [rl_uu]; exact h) (fun w => absurd z' w)) hp)
    · exact re_ys Q (fun post => post (nI l, ywa, ysk, ylo, nI (t + 1), nI (s + 1), yaw, yan, ywh, you, ymd, ygd, yop, yops, ybs, ysz, yex, yst, yow, yle, yel, yla, ysh, yro, yos, yoe, yoh, yor, yrw, upd ynx t (nI b), upd ydp t (nI d), ypl, ykd, ymt, ytd, yht)) S hs (by decide) (fun _ post h => yo_8 post ht hnx hdp (by omega) (fun _ => h) (fun w => absurd z w)) (fun z => absurd z (by decide)) (fun z => absurd z (by decide)) hq
  · have z' : ¬ xcv (6 * t + (d + 2)) = 0 := by rw [e1]; exact z
    obtain ⟨lo', tp'⟩ := so_topn (k' := k + 1) (d' := d) ht hlo htp hgo.1 (by omega) hgo.2
    refine Or.inl ⟨(nI l, xpc, xnd, xwc, xit, nI (t + 1), xwt, xan, xlp, xpo, xpb, xwd, xwk, xnk, xco, xcb, xml, xme, xro, xow, xol, xla, xsh, xoe, xoh, xsr, xss, xse, xms, xfm, upd xfa t (nI (k + 1)), upd xfd t (nI d), xcv, xcr), (nI l, ywa, ysk, ylo, nI (t + 1), nI (s + 1), yaw, yan, ywh, you, ymd, ygd, yop, yops, ybs, ysz, yex, yst, yow, yle, yel, yla, ysh, yro, yos, yoe, yoh, yor, yrw, upd ynx t (nI (k + 1)), upd ydp t (nI d), ypl, ykd, ymt, ytd, yht), t, m, k + 1, d, _, fun P hp => ?_, fun Q hq => ?_, ⟨by omega, rfl, rfl, hya, hL, hP, hM, hO, re_T_up hT (by omega), hW, lo', tp'⟩, rfl, rfl, rfl⟩
    · exact re_xn P (oh := xoh) H (fun post h => br_t (by decide) h) (fun post h => br_t (by decide) h) (re_76p P ht hfa (by decide) (by decide) (fun post h => xo_8 post ht hfd (by omega) (fun w => absurd w z') (fun _ => h)) hp)
    · exact re_ys Q (fun post => post (nI l, ywa, ysk, ylo, nI (t + 1), nI (s + 1), yaw, yan, ywh, you, ymd, ygd, yop, yops, ybs, ysz, yex, yst, yow, yle, yel, yla, ysh, yro, yos, yoe, yoh, yor, yrw, upd ynx t (nI (k + 1)), upd ydp t (nI d), ypl, ykd, ymt, ytd, yht)) S hs (by decide) (fun _ post h => yo_8 post ht hnx hdp (by omega) (fun w => absurd w z) (fun _ => h)) (fun z => absurd z (by decide)) (fun z => absurd z (by decide)) hq
theorem st_9 (h : rr B t m k d f (nI l, xpc, xnd, xwc, xit, nI (t + 1), xwt, xan, xlp, xpo, xpb, xwd, xwk, xnk, xco, xcb, xml, xme, xro, xow, xol, xla, xsh, xoe, xoh, xsr, xss, xse, xms, xfm, xfa, xfd, xcv, xcr) (nI l, ywa, ysk, ylo, nI (t + 1), nI s, yaw, yan, ywh, you, ymd, ygd, yop, yops, ybs, ysz, yex, yst, yow, yle, yel, yla, ysh, yro, yos, yoe, yoh, yor, yrw, ynx, ydp, ypl, ykd, ymt, ytd, yht)) (hs : ¬ nI s = nI l) (H : re_H xfm xfa xco xcb t m k 9 Bv) (S : re_S yrw ynx yops ybs t m k 9 Bv) (hfb : rl_fb 9 Bv n) (hos : ck_os [5] d f) (hgo : k + 1 < 16 ∧ rl_ty yops ybs ysz m (k + 1) (ck_rd [5] d) (ck_rk [5] d f)) (hB : b ≤ 1 ∧ Bv = nI b) : so B l s (nI l, xpc, xnd, xwc, xit, nI (t + 1), xwt, xan, xlp, xpo, xpb, xwd, xwk, xnk, xco, xcb, xml, xme, xro, xow, xol, xla, xsh, xoe, xoh, xsr, xss, xse, xms, xfm, xfa, xfd, xcv, xcr) (nI l, ywa, ysk, ylo, nI (t + 1), nI s, yaw, yan, ywh, you, ymd, ygd, yop, yops, ybs, ysz, yex, yst, yow, yle, yel, yla, ysh, yro, yos, yoe, yoh, yor, yrw, ynx, ydp, ypl, ykd, ymt, ytd, yht) := by
  obtain ⟨ht, _, _, hya, hL, hP, hM, hO, hT, hW, hlo, htp⟩ := h
  have htp2 := htp
  obtain ⟨hm6, hk16, hd4, hsz, hfm, hrw, hfa, hnx, hfd, hdp, hty, hcs⟩ := htp2
  obtain ⟨hb1, rfl⟩ := hB
  have h4 : d < 4 := hos.1.1
  obtain ⟨lo', tp'⟩ := so_topc (c := d + 2) (v := 2) (k' := k + 1) (d' := d + 1) ht hlo htp hgo.1 (by omega) hgo.2 (rl_n2 (hO.1 (2 * (m / 2) + b) (by omega))) (by omega) (fun j hj hne => by omega)
  refine Or.inl ⟨(nI l, xpc, xnd, xwc, xit, nI (t + 1), xwt, xan, xlp, xpo, xpb, xwd, xwk, xnk, xco, xcb, xml, xme, xro, xow, xol, xla, xsh, xoe, xoh, xsr, xss, xse, xms, xfm, upd xfa t (nI (k + 1)), upd xfd t (nI (d + 1)), upd xcv (6 * t + (d + 2)) (xro (2 * (m / 2) + b)), upd xcr (6 * t + (d + 2)) (1)), (nI l, ywa, ysk, ylo, nI (t + 1), nI (s + 1), yaw, yan, ywh, you, ymd, ygd, yop, yops, ybs, ysz, yex, yst, yow, yle, yel, yla, ysh, yro, yos, yoe, yoh, yor, yrw, upd ynx t (nI (k + 1)), upd ydp t (nI (d + 1)), upd ypl (8 * t + (d + 2)) (yro (2 * (m / 2) + b)), upd ykd (8 * t + (d + 2)) (2), ymt, ytd, yht), t, m, k + 1, d + 1, _, fun P hp => ?_, fun Q hq => ?_, ⟨by omega, rfl, rfl, hya, hL, hP, hM, hO, re_T_up hT (by omega), hW, lo', tp'⟩, rfl, rfl, rfl⟩
  · exact re_xn P (oh := xoh) H (fun post h => br_t (by decide) h) (fun post h => br_t (by decide) h) (re_76o P ht hfa (by decide) (by decide) (fun post h => xo_9 post ht hfm hm6 hfd h4 hb1 h) hp)
  · exact re_ys Q (fun post => post (nI l, ywa, ysk, ylo, nI (t + 1), nI (s + 1), yaw, yan, ywh, you, ymd, ygd, yop, yops, ybs, ysz, yex, yst, yow, yle, yel, yla, ysh, yro, yos, yoe, yoh, yor, yrw, upd ynx t (nI (k + 1)), upd ydp t (nI (d + 1)), upd ypl (8 * t + (d + 2)) (yro (2 * (m / 2) + b)), upd ykd (8 * t + (d + 2)) (2), ymt, ytd, yht)) S hs (by decide) (fun z => absurd z (by decide)) (fun _ _ z9 z10 z16 z17 => absurd rfl z9) (fun _ post h => yo_9 post ht hnx hrw hm6 hdp h4 hb1 h) hq
theorem st_16 (h : rr B t m k d f (nI l, xpc, xnd, xwc, xit, nI (t + 1), xwt, xan, xlp, xpo, xpb, xwd, xwk, xnk, xco, xcb, xml, xme, xro, xow, xol, xla, xsh, xoe, xoh, xsr, xss, xse, xms, xfm, xfa, xfd, xcv, xcr) (nI l, ywa, ysk, ylo, nI (t + 1), nI s, yaw, yan, ywh, you, ymd, ygd, yop, yops, ybs, ysz, yex, yst, yow, yle, yel, yla, ysh, yro, yos, yoe, yoh, yor, yrw, ynx, ydp, ypl, ykd, ymt, ytd, yht)) (hs : ¬ nI s = nI l) (H : re_H xfm xfa xco xcb t m k 16 Bv) (S : re_S yrw ynx yops ybs t m k 16 Bv) (hfb : rl_fb 16 Bv n) (hos : ck_os [5] d f) (hgo : k + 1 < 16 ∧ rl_ty yops ybs ysz m (k + 1) (ck_rd [5] d) (ck_rk [5] d f)) (hB : b < 6 ∧ Bv = nI b) : so B l s (nI l, xpc, xnd, xwc, xit, nI (t + 1), xwt, xan, xlp, xpo, xpb, xwd, xwk, xnk, xco, xcb, xml, xme, xro, xow, xol, xla, xsh, xoe, xoh, xsr, xss, xse, xms, xfm, xfa, xfd, xcv, xcr) (nI l, ywa, ysk, ylo, nI (t + 1), nI s, yaw, yan, ywh, you, ymd, ygd, yop, yops, ybs, ysz, yex, yst, yow, yle, yel, yla, ysh, yro, yos, yoe, yoh, yor, yrw, ynx, ydp, ypl, ykd, ymt, ytd, yht) := by
  obtain ⟨ht, _, _, hya, hL, hP, hM, hO, hT, hW, hlo, htp⟩ := h
  have htp2 := htp
  obtain ⟨hm6, hk16, hd4, hsz, hfm, hrw, hfa, hnx, hfd, hdp, hty, hcs⟩ := htp2
  obtain ⟨hb1, rfl⟩ := hB
  have h4 : d < 4 := hos.1.1
  obtain ⟨lo', tp'⟩ := so_topc (c := d + 2) (v := 2) (k' := k + 1) (d' := d + 1) ht hlo htp hgo.1 (by omega) hgo.2 (rl_n2 (hO.1 (b) (by omega))) (by omega) (fun j hj hne => by omega)
  refine Or.inl ⟨(nI l, xpc, xnd, xwc, xit, nI (t + 1), xwt, xan, xlp, xpo, xpb, xwd, xwk, xnk, xco, xcb, xml, xme, xro, xow, xol, xla, xsh, xoe, xoh, xsr, xss, xse, xms, xfm, upd xfa t (nI (k + 1)), upd xfd t (nI (d + 1)), upd xcv (6 * t + (d + 2)) (xro (b)), upd xcr (6 * t + (d + 2)) (1)), (nI l, ywa, ysk, ylo, nI (t + 1), nI (s + 1), yaw, yan, ywh, you, ymd, ygd, yop, yops, ybs, ysz, yex, yst, yow, yle, yel, yla, ysh, yro, yos, yoe, yoh, yor, yrw, upd ynx t (nI (k + 1)), upd ydp t (nI (d + 1)), upd ypl (8 * t + (d + 2)) (yro (b)), upd ykd (8 * t + (d + 2)) (2), ymt, ytd, yht), t, m, k + 1, d + 1, _, fun P hp => ?_, fun Q hq => ?_, ⟨by omega, rfl, rfl, hya, hL, hP, hM, hO, re_T_up hT (by omega), hW, lo', tp'⟩, rfl, rfl, rfl⟩
  · exact re_xn P (oh := xoh) H (fun post h => br_f (by decide) <| br_f (by decide) <| br_f (by decide) <| br_f (by decide) <| br_f (by decide) <| br_f (by decide) <| br_f (by decide) <| br_t rfl <|  h) (fun post h => br_f (by decide) <| br_f (by decide) <| br_f (by decide) <| br_f (by decide) <| br_f (by decide) <| br_f (by decide) <| br_f (by decide) <| br_f (by decide) <| br_t rfl <|  h) (re_76o P ht hfa (by decide) (by decide) (fun post h => xo_16 post ht hfd h4 hb1 h) hp)
  · exact re_ys Q (fun post => post (nI l, ywa, ysk, ylo, nI (t + 1), nI (s + 1), yaw, yan, ywh, you, ymd, ygd, yop, yops, ybs, ysz, yex, yst, yow, yle, yel, yla, ysh, yro, yos, yoe, yoh, yor, yrw, upd ynx t (nI (k + 1)), upd ydp t (nI (d + 1)), upd ypl (8 * t + (d + 2)) (yro (b)), upd ykd (8 * t + (d + 2)) (2), ymt, ytd, yht)) S hs (by decide) (fun z => absurd z (by decide)) (fun _ _ z9 z10 z16 z17 => absurd rfl z16) (fun _ post h => yo_16 post ht hnx hdp h4 hb1 h) hq
theorem st_20 (h : rr B t m k d f (nI l, xpc, xnd, xwc, xit, nI (t + 1), xwt, xan, xlp, xpo, xpb, xwd, xwk, xnk, xco, xcb, xml, xme, xro, xow, xol, xla, xsh, xoe, xoh, xsr, xss, xse, xms, xfm, xfa, xfd, xcv, xcr) (nI l, ywa, ysk, ylo, nI (t + 1), nI s, yaw, yan, ywh, you, ymd, ygd, yop, yops, ybs, ysz, yex, yst, yow, yle, yel, yla, ysh, yro, yos, yoe, yoh, yor, yrw, ynx, ydp, ypl, ykd, ymt, ytd, yht)) (hs : ¬ nI s = nI l) (H : re_H xfm xfa xco xcb t m k 20 Bv) (S : re_S yrw ynx yops ybs t m k 20 Bv) (hfb : rl_fb 20 Bv n) (hos : ck_os [10] d f) (hgo : k + 1 < 16 ∧ rl_ty yops ybs ysz m (k + 1) (ck_rd [10] d) (ck_rk [10] d f))  : so B l s (nI l, xpc, xnd, xwc, xit, nI (t + 1), xwt, xan, xlp, xpo, xpb, xwd, xwk, xnk, xco, xcb, xml, xme, xro, xow, xol, xla, xsh, xoe, xoh, xsr, xss, xse, xms, xfm, xfa, xfd, xcv, xcr) (nI l, ywa, ysk, ylo, nI (t + 1), nI s, yaw, yan, ywh, you, ymd, ygd, yop, yops, ybs, ysz, yex, yst, yow, yle, yel, yla, ysh, yro, yos, yoe, yoh, yor, yrw, ynx, ydp, ypl, ykd, ymt, ytd, yht) := by
  obtain ⟨ht, _, _, hya, hL, hP, hM, hO, hT, hW, hlo, htp⟩ := h
  have htp2 := htp
  obtain ⟨hm6, hk16, hd4, hsz, hfm, hrw, hfa, hnx, hfd, hdp, hty, hcs⟩ := htp2
  have h0 : 0 < d := hos.1.1.1
  have h4 : d < 4 := hos.1.1.2
  obtain ⟨d, rfl⟩ : ∃ q, d = q + 1 := ⟨d - 1, by omega⟩
  have hc := hcs (d + 2) (by omega)
  obtain ⟨c3, ck, cb⟩ := st_k hc
  obtain ⟨lo', tp'⟩ := so_topc (c := d + 3) (v := f (d + 2)) (k' := k + 1) (d' := d + 2) ht hlo htp hgo.1 (by omega) hgo.2 hc (by omega) (fun j hj hne => by omega)
  rw [ck] at lo' tp'
  refine Or.inl ⟨(nI l, xpc, xnd, xwc, xit, nI (t + 1), xwt, xan, xlp, xpo, xpb, xwd, xwk, xnk, xco, xcb, xml, xme, xro, xow, xol, xla, xsh, xoe, xoh, xsr, xss, xse, xms, xfm, upd xfa t (nI (k + 1)), upd xfd t (nI (d + 2)), upd xcv (6 * t + (d + 3)) (xcv (6 * t + (d + 2))), upd xcr (6 * t + (d + 3)) (xcr (6 * t + (d + 2)))), (nI l, ywa, ysk, ylo, nI (t + 1), nI (s + 1), yaw, yan, ywh, you, ymd, ygd, yop, yops, ybs, ysz, yex, yst, yow, yle, yel, yla, ysh, yro, yos, yoe, yoh, yor, yrw, upd ynx t (nI (k + 1)), upd ydp t (nI (d + 2)), upd ypl (8 * t + (d + 3)) (ypl (8 * t + (d + 2))), upd ykd (8 * t + (d + 3)) (nI (f (d + 2))), ymt, ytd, yht), t, m, k + 1, d + 2, _, fun P hp => ?_, fun Q hq => ?_, ⟨by omega, rfl, rfl, hya, hL, hP, hM, hO, re_T_up hT (by omega), hW, lo', tp'⟩, rfl, rfl, rfl⟩
  · exact re_xn P (oh := xoh) H (fun post h => br_f (by decide) <| br_f (by decide) <| br_f (by decide) <| br_f (by decide) <| br_f (by decide) <| br_f (by decide) <| br_f (by decide) <| br_f (by decide) <| br_f (by decide) <| br_f (by decide) <| br_f (by decide) <| br_t rfl <|  h) (fun post h => br_f (by decide) <| br_f (by decide) <| br_f (by decide) <| br_f (by decide) <| br_f (by decide) <| br_f (by decide) <| br_f (by decide) <| br_f (by decide) <| br_f (by decide) <| br_f (by decide) <| br_f (by decide) <| br_f (by decide) <| br_t rfl <|  h) (re_76p P ht hfa (by decide) (by decide) (fun post h => xo_20 post ht hfd (by omega) cb h) hp)
  · exact re_ys Q (fun post => post (nI l, ywa, ysk, ylo, nI (t + 1), nI (s + 1), yaw, yan, ywh, you, ymd, ygd, yop, yops, ybs, ysz, yex, yst, yow, yle, yel, yla, ysh, yro, yos, yoe, yoh, yor, yrw, upd ynx t (nI (k + 1)), upd ydp t (nI (d + 2)), upd ypl (8 * t + (d + 3)) (ypl (8 * t + (d + 2))), upd ykd (8 * t + (d + 3)) (nI (f (d + 2))), ymt, ytd, yht)) S hs (by decide) (fun z => absurd z (by decide)) (fun _ z => absurd z (by decide)) (fun _ post h => yo_20 post ht hnx hdp (by omega) c3 ck h) hq
theorem st_21 (h : rr B t m k d f (nI l, xpc, xnd, xwc, xit, nI (t + 1), xwt, xan, xlp, xpo, xpb, xwd, xwk, xnk, xco, xcb, xml, xme, xro, xow, xol, xla, xsh, xoe, xoh, xsr, xss, xse, xms, xfm, xfa, xfd, xcv, xcr) (nI l, ywa, ysk, ylo, nI (t + 1), nI s, yaw, yan, ywh, you, ymd, ygd, yop, yops, ybs, ysz, yex, yst, yow, yle, yel, yla, ysh, yro, yos, yoe, yoh, yor, yrw, ynx, ydp, ypl, ykd, ymt, ytd, yht)) (hs : ¬ nI s = nI l) (H : re_H xfm xfa xco xcb t m k 21 Bv) (S : re_S yrw ynx yops ybs t m k 21 Bv) (hfb : rl_fb 21 Bv n) (hos : ck_os [3] d f) (hgo : k + 1 < 16 ∧ rl_ty yops ybs ysz m (k + 1) (ck_rd [3] d) (ck_rk [3] d f))  : so B l s (nI l, xpc, xnd, xwc, xit, nI (t + 1), xwt, xan, xlp, xpo, xpb, xwd, xwk, xnk, xco, xcb, xml, xme, xro, xow, xol, xla, xsh, xoe, xoh, xsr, xss, xse, xms, xfm, xfa, xfd, xcv, xcr) (nI l, ywa, ysk, ylo, nI (t + 1), nI s, yaw, yan, ywh, you, ymd, ygd, yop, yops, ybs, ysz, yex, yst, yow, yle, yel, yla, ysh, yro, yos, yoe, yoh, yor, yrw, ynx, ydp, ypl, ykd, ymt, ytd, yht) := by
  obtain ⟨ht, _, _, hya, hL, hP, hM, hO, hT, hW, hlo, htp⟩ := h
  have htp2 := htp
  obtain ⟨hm6, hk16, hd4, hsz, hfm, hrw, hfa, hnx, hfd, hdp, hty, hcs⟩ := htp2
  have h0 : 0 < d := hos.1.1
  obtain ⟨d, rfl⟩ : ∃ q, d = q + 1 := ⟨d - 1, by omega⟩
  obtain ⟨lo', tp'⟩ := so_topn (k' := k + 1) (d' := d) ht hlo htp hgo.1 (by omega) hgo.2
  refine Or.inl ⟨(nI l, xpc, xnd, xwc, xit, nI (t + 1), xwt, xan, xlp, xpo, xpb, xwd, xwk, xnk, xco, xcb, xml, xme, xro, xow, xol, xla, xsh, xoe, xoh, xsr, xss, xse, xms, xfm, upd xfa t (nI (k + 1)), upd xfd t (nI d), xcv, xcr), (nI l, ywa, ysk, ylo, nI (t + 1), nI (s + 1), yaw, yan, ywh, you, ymd, ygd, yop, yops, ybs, ysz, yex, yst, yow, yle, yel, yla, ysh, yro, yos, yoe, yoh, yor, yrw, upd ynx t (nI (k + 1)), upd ydp t (nI d), ypl, ykd, ymt, ytd, yht), t, m, k + 1, d, _, fun P hp => ?_, fun Q hq => ?_, ⟨by omega, rfl, rfl, hya, hL, hP, hM, hO, re_T_up hT (by omega), hW, lo', tp'⟩, rfl, rfl, rfl⟩
  · exact re_xn P (oh := xoh) H (fun post h => br_f (by decide) <| br_f (by decide) <| br_f (by decide) <| br_f (by decide) <| br_f (by decide) <| br_f (by decide) <| br_f (by decide) <| br_f (by decide) <| br_f (by decide) <| br_f (by decide) <| br_f (by decide) <| br_f (by decide) <| br_t rfl <|  h) (fun post h => br_f (by decide) <| br_f (by decide) <| br_f (by decide) <| br_f (by decide) <| br_f (by decide) <| br_f (by decide) <| br_f (by decide) <| br_f (by decide) <| br_f (by decide) <| br_f (by decide) <| br_f (by decide) <| br_f (by decide) <| br_f (by decide) <| br_t rfl <|  h) (re_76p P ht hfa (by decide) (by decide) (fun post h => xo_21 post ht hfd h) hp)
  · exact re_ys Q (fun post => post (nI l, ywa, ysk, ylo, nI (t + 1), nI (s + 1), yaw, yan, ywh, you, ymd, ygd, yop, yops, ybs, ysz, yex, yst, yow, yle, yel, yla, ysh, yro, yos, yoe, yoh, yor, yrw, upd ynx t (nI (k + 1)), upd ydp t (nI d), ypl, ykd, ymt, ytd, yht)) S hs (by decide) (fun z => absurd z (by decide)) (fun _ z => absurd z (by decide)) (fun _ post h => yo_21 post ht hnx hdp (by omega) h) hq
end ST
