/-! ONE STEP: what it gives -/
section SO
variable {xlim xpc xnd xwc xit xfc xwt xan xlp : Int32}
variable {xpo xpb xwd xwk xnk xco xcb xml xme xro xow xol xla xsh xoe xoh xsr xss xse xms xfm xfa xfd xcv xcr : Nat → Int32}
variable {ylim ywa ysk ylo yrn ysp yaw yan ywh you ygd yop : Int32}
variable {ymd : Int64}
variable {yops ybs ysz yex yow yle yel yla ysh yro yoe yoh yor yrw ynx ydp ypl ykd ymt ytd yht : Nat → Int32}
variable {yst yos : Nat → Int64}
def so_fc (u : SX) : Int32 := match u with | (xlim, xpc, xnd, xwc, xit, xfc, xwt, xan, xlp, xpo, xpb, xwd, xwk, xnk, xco, xcb, xml, xme, xro, xow, xol, xla, xsh, xoe, xoh, xsr, xss, xse, xms, xfm, xfa, xfd, xcv, xcr) => xfc
def so_xl (u : SX) : Int32 := match u with | (xlim, xpc, xnd, xwc, xit, xfc, xwt, xan, xlp, xpo, xpb, xwd, xwk, xnk, xco, xcb, xml, xme, xro, xow, xol, xla, xsh, xoe, xoh, xsr, xss, xse, xms, xfm, xfa, xfd, xcv, xcr) => xlim
def so_yl (v : SY) : Int32 := match v with | (ylim, ywa, ysk, ylo, yrn, ysp, yaw, yan, ywh, you, ymd, ygd, yop, yops, ybs, ysz, yex, yst, yow, yle, yel, yla, ysh, yro, yos, yoe, yoh, yor, yrw, ynx, ydp, ypl, ykd, ymt, ytd, yht) => ylim
def so_sp (v : SY) : Int32 := match v with | (ylim, ywa, ysk, ylo, yrn, ysp, yaw, yan, ywh, you, ymd, ygd, yop, yops, ybs, ysz, yex, yst, yow, yle, yel, yla, ysh, yro, yos, yoe, yoh, yor, yrw, ynx, ydp, ypl, ykd, ymt, ytd, yht) => ysp
/-- both are done, with outcome r -/
def so_fi (r : Int32) (B : Nat) (u : SX) (v : SY) : Prop := match u, v with
  | (xlim, xpc, xnd, xwc, xit, xfc, xwt, xan, xlp, xpo, xpb, xwd, xwk, xnk, xco, xcb, xml, xme, xro, xow, xol, xla, xsh, xoe, xoh, xsr, xss, xse, xms, xfm, xfa, xfd, xcv, xcr), (ylim, ywa, ysk, ylo, yrn, ysp, yaw, yan, ywh, you, ymd, ygd, yop, yops, ybs, ysz, yex, yst, yow, yle, yel, yla, ysh, yro, yos, yoe, yoh, yor, yrw, ynx, ydp, ypl, ykd, ymt, ytd, yht) => yrn = 0 ∧ you = r ∧ xfc = 0 ∧ xit = 0 ∧ rl_L xlim ylim ∧ rl_P xpo xpb xpc yops ybs ysz ∧ rl_M xco xcb xml xme yops ybs ysz yex ∧ rl_O xro xow xol xla xsh xoe yro yow yle yla ysh yel ∧ rl_T B xit xsr xss xse xms yop yor yoh yoe yst yos ymd ∧ rl_W xwt yaw ∧ xan = yan ∧ xlp = ywh
def so (B l s : Nat) (u : SX) (v : SY) : Prop :=
  (∃ u' v' t m k d f, (∀ P : Int32 → SX → Prop, P 0 u' → wpX_execute P u) ∧ (∀ Q : SY → Prop, Q v' → wpY_step Q v) ∧ rr (B + 1) t m k d f u' v' ∧ so_xl u' = nI l ∧ so_yl v' = nI l ∧ so_sp v' = nI (s + 1)) ∨
  (∃ r u' u'' v', (∀ P : Int32 → SX → Prop, P r u' → wpX_execute P u) ∧ (¬ r = 0 ∨ (r = 0 ∧ so_fc u' = 0)) ∧ so_xl u' = nI l ∧ (∀ P : SX → Prop, P u'' → wpX_finish P u' r) ∧ (∀ Q : SY → Prop, Q v' → wpY_step Q v) ∧ so_fi r (B + 1) u'' v')
/-- a failure: where both sides end -/
theorem so_fail {B t m k d : Nat} {f : Nat → Nat} {r : Int32} (hr : ¬ r = 0) (h : rr B t m k d f (xlim, xpc, xnd, xwc, xit, xfc, xwt, xan, xlp, xpo, xpb, xwd, xwk, xnk, xco, xcb, xml, xme, xro, xow, xol, xla, xsh, xoe, xoh, xsr, xss, xse, xms, xfm, xfa, xfd, xcv, xcr) (ylim, ywa, ysk, ylo, yrn, ysp, yaw, yan, ywh, you, ymd, ygd, yop, yops, ybs, ysz, yex, yst, yow, yle, yel, yla, ysh, yro, yos, yoe, yoh, yor, yrw, ynx, ydp, ypl, ykd, ymt, ytd, yht)) : ∃ u'' v', (∀ P : SX → Prop, P u'' → wpX_finish P (xlim, xpc, xnd, xwc, xit, xfc, xwt, xan, xlp, xpo, xpb, xwd, xwk, xnk, xco, xcb, xml, xme, xro, xow, xol, xla, xsh, xoe, xoh, xsr, xss, xse, xms, xfm, xfa, xfd, xcv, xcr) r) ∧ (∀ Q : SY → Prop, Q v' → wpY_end Q (ylim, ywa, ysk, ylo, yrn, ysp, yaw, yan, ywh, you, ymd, ygd, yop, yops, ybs, ysz, yex, yst, yow, yle, yel, yla, ysh, yro, yos, yoe, yoh, yor, yrw, ynx, ydp, ypl, ykd, ymt, ytd, yht) r) ∧ so_fi r (B + 1) u'' v' := by
  obtain ⟨ht, hfc, hrn, hya, hL, hP, hM, hO, hT, hW, hlo, htp⟩ := h
  obtain ⟨hm, hk, hd, hsz, hfm, hrw, hfa, hnx, hfd, hdp, hty, hcs⟩ := htp
  obtain ⟨ro, sh, oe, wt, yro', ysh', yel', yaw', hX, hY, hO', hT', hW'⟩ := re_fin (r := r) (xlim := xlim) (xpc := xpc) (xnd := xnd) (xwc := xwc) (xfc := xfc) (xan := 0) (xlp := nI (16 * m + k)) (xpo := xpo) (xpb := xpb) (xwd := xwd) (xwk := xwk) (xnk := xnk) (xco := xco) (xcb := xcb) (xml := xml) (xme := xme) (xoh := xoh) (xfm := xfm) (xfa := xfa) (xfd := xfd) (xcv := xcv) (xcr := xcr) (ylim := ylim) (ywa := ywa) (ysk := ysk) (ylo := ylo) (yrn := yrn) (ysp := ysp) (yan := yan) (ywh := ywh) (you := r) (ygd := ygd) (yops := yops) (ybs := ybs) (ysz := ysz) (yex := yex) (yrw := yrw) (ynx := ynx) (ydp := ydp) (ypl := ypl) (ykd := ykd) (ymt := ymt) (ytd := ytd) (yht := yht) hO hT hW
  subst hfc
  subst hrn
  have e0 : (nI t).toNatClampNeg = t := nI_clamp (by omega)
  have e1 : (nI (t + 1) - 1).toNatClampNeg = t := by rw [nI_pred]; exact e0
  have i1 : vp_in (nI (t + 1) - 1) 4 := by rw [nI_pred]; exact pk_in t 4 ht
  have hle : B ≤ B + 1 := by omega
  refine ⟨(xlim, xpc, xnd, xwc, 0, 0, wt, 0, nI (16 * m + k), xpo, xpb, xwd, xwk, xnk, xco, xcb, xml, xme, ro, xow, xol, xla, sh, oe, xoh, xsr, xss, xse, xms, xfm, xfa, xfd, xcv, xcr), (ylim, ywa, ysk, ylo, 0, ysp, yaw', yan, nI (16 * m + k), r, ymd, ygd, 0, yops, ybs, ysz, yex, yst, yow, yle, yel', yla, ysh', yro', yos, yoe, yoh, yor, yrw, ynx, ydp, ypl, ykd, ymt, ytd, yht), fun P hp => ?_, fun Q hq => ?_, ⟨rfl, rfl, rfl, rfl, hL, hP, hM, hO', re_T_up hT' hle, hW', hya.symm, rfl⟩⟩
  · exact br_f hr (nm_r (nI_pred t) ⟨pk_in t 4 ht, pk_in t 4 ht, nm_r (e' := nI (16 * m + k)) (by rw [e0, hfm, hfa, pr_16]) (hX P hp)⟩)
  · refine br_f hr ⟨i1, i1, ?_⟩
    rw [e1, hrw, hnx, pr_16]
    exact hY Q _ hq
/-- the failure of a step -/
theorem so_f {B t m k d l s : Nat} {f : Nat → Nat} {r : Int32} {oh : Nat → Int32} (hr : ¬ r = 0) (h : rr B t m k d f (nI l, xpc, xnd, xwc, xit, nI (t + 1), xwt, xan, xlp, xpo, xpb, xwd, xwk, xnk, xco, xcb, xml, xme, xro, xow, xol, xla, xsh, xoe, xoh, xsr, xss, xse, xms, xfm, xfa, xfd, xcv, xcr) (nI l, ywa, ysk, ylo, nI (t + 1), nI s, yaw, yan, ywh, you, ymd, ygd, yop, yops, ybs, ysz, yex, yst, yow, yle, yel, yla, ysh, yro, yos, yoe, yoh, yor, yrw, ynx, ydp, ypl, ykd, ymt, ytd, yht))
    (hX : ∀ P : Int32 → SX → Prop, P r (nI l, xpc, xnd, xwc, xit, nI (t + 1), xwt, xan, xlp, xpo, xpb, xwd, xwk, xnk, xco, xcb, xml, xme, xro, xow, xol, xla, xsh, xoe, oh, xsr, xss, xse, xms, xfm, xfa, xfd, xcv, xcr) → wpX_execute P (nI l, xpc, xnd, xwc, xit, nI (t + 1), xwt, xan, xlp, xpo, xpb, xwd, xwk, xnk, xco, xcb, xml, xme, xro, xow, xol, xla, xsh, xoe, xoh, xsr, xss, xse, xms, xfm, xfa, xfd, xcv, xcr))
    (hY : ∀ v', (∀ Q : SY → Prop, Q v' → wpY_end Q (nI l, ywa, ysk, ylo, nI (t + 1), nI (s + 1), yaw, yan, ywh, you, ymd, ygd, yop, yops, ybs, ysz, yex, yst, yow, yle, yel, yla, ysh, yro, yos, yoe, yoh, yor, yrw, ynx, ydp, ypl, ykd, ymt, ytd, yht) r) → ∀ Q : SY → Prop, Q v' → wpY_step Q (nI l, ywa, ysk, ylo, nI (t + 1), nI s, yaw, yan, ywh, you, ymd, ygd, yop, yops, ybs, ysz, yex, yst, yow, yle, yel, yla, ysh, yro, yos, yoe, yoh, yor, yrw, ynx, ydp, ypl, ykd, ymt, ytd, yht)) : so B l s (nI l, xpc, xnd, xwc, xit, nI (t + 1), xwt, xan, xlp, xpo, xpb, xwd, xwk, xnk, xco, xcb, xml, xme, xro, xow, xol, xla, xsh, xoe, xoh, xsr, xss, xse, xms, xfm, xfa, xfd, xcv, xcr) (nI l, ywa, ysk, ylo, nI (t + 1), nI s, yaw, yan, ywh, you, ymd, ygd, yop, yops, ybs, ysz, yex, yst, yow, yle, yel, yla, ysh, yro, yos, yoe, yoh, yor, yrw, ynx, ydp, ypl, ykd, ymt, ytd, yht) := by
  obtain ⟨ht, hfc, hrn, hya, hL, hP, hM, hO, hT, hW, hlo, htp⟩ := h
  have h' : rr B t m k d f (nI l, xpc, xnd, xwc, xit, nI (t + 1), xwt, xan, xlp, xpo, xpb, xwd, xwk, xnk, xco, xcb, xml, xme, xro, xow, xol, xla, xsh, xoe, oh, xsr, xss, xse, xms, xfm, xfa, xfd, xcv, xcr) (nI l, ywa, ysk, ylo, nI (t + 1), nI (s + 1), yaw, yan, ywh, you, ymd, ygd, yop, yops, ybs, ysz, yex, yst, yow, yle, yel, yla, ysh, yro, yos, yoe, yoh, yor, yrw, ynx, ydp, ypl, ykd, ymt, ytd, yht) := ⟨ht, rfl, rfl, hya, hL, hP, hM, hO, hT, hW, hlo, htp⟩
  obtain ⟨u'', v', h1, h2, h3⟩ := so_fail hr h'
  exact Or.inr ⟨r, (nI l, xpc, xnd, xwc, xit, nI (t + 1), xwt, xan, xlp, xpo, xpb, xwd, xwk, xnk, xco, xcb, xml, xme, xro, xow, xol, xla, xsh, xoe, oh, xsr, xss, xse, xms, xfm, xfa, xfd, xcv, xcr), u'', v', hX, Or.inl hr, rfl, h1, hY v' h2, h3⟩
/-! the top frame after a step -/
theorem so_top {t m k d k' d' : Nat} {f f' : Nat → Nat} {cv cr pl kd : Nat → Int32} (ht : t < 4) (hlo : rl_lo yops ybs ysz t xfm xfa xfd xcv xcr yrw ynx ydp ypl ykd) (htp : rl_tp yops ybs ysz t m k d f xfm xfa xfd xcv xcr yrw ynx ydp ypl ykd) (hk' : k' < 16) (hd' : d' ≤ 4) (hty : rl_ty yops ybs ysz m k' d' f')
    (hcs : rl_cs t d' f' cv cr pl kd) (h4 : ∀ i, i < 6 * t → cv i = xcv i) (h5 : ∀ i, i < 6 * t → cr i = xcr i) (h9 : ∀ i, i < 8 * t → pl i = ypl i) (h10 : ∀ i, i < 8 * t → kd i = ykd i) :
    rl_lo yops ybs ysz t xfm (upd xfa t (nI k')) (upd xfd t (nI d')) cv cr yrw (upd ynx t (nI k')) (upd ydp t (nI d')) pl kd ∧ rl_tp yops ybs ysz t m k' d' f' xfm (upd xfa t (nI k')) (upd xfd t (nI d')) cv cr yrw (upd ynx t (nI k')) (upd ydp t (nI d')) pl kd := by
  obtain ⟨hm, hk, hd, hsz, hfm, hrw, hfa, hnx, hfd, hdp, _, _⟩ := htp
  refine ⟨rl_lo_up hlo (fun _ _ => rfl) (fun g hg => pk_un (by omega)) (fun g hg => pk_un (by omega)) h4 h5 (fun _ _ => rfl) (fun g hg => pk_un (by omega)) (fun g hg => pk_un (by omega)) h9 h10, hm, hk', hd', hsz, hfm, hrw, pk_us, pk_us, pk_us, pk_us, hty, hcs⟩
/-- a cell is stored into -/
theorem so_topc {t m k d k' d' c v : Nat} {f : Nat → Nat} {xv xr yv yk : Int32} (ht : t < 4) (hlo : rl_lo yops ybs ysz t xfm xfa xfd xcv xcr yrw ynx ydp ypl ykd) (htp : rl_tp yops ybs ysz t m k d f xfm xfa xfd xcv xcr yrw ynx ydp ypl ykd) (hk' : k' < 16) (hd' : d' ≤ 4) (hty : rl_ty yops ybs ysz m k' d' (ck_un f c v)) (hc : rl_ce v xv xr yv yk) (hc6 : c < 6) (hj : ∀ j, j < d' + 2 → j ≠ c → j < d + 2) :
    rl_lo yops ybs ysz t xfm (upd xfa t (nI k')) (upd xfd t (nI d')) (upd xcv (6 * t + c) xv) (upd xcr (6 * t + c) xr) yrw (upd ynx t (nI k')) (upd ydp t (nI d')) (upd ypl (8 * t + c) yv) (upd ykd (8 * t + c) yk) ∧ rl_tp yops ybs ysz t m k' d' (ck_un f c v) xfm (upd xfa t (nI k')) (upd xfd t (nI d')) (upd xcv (6 * t + c) xv) (upd xcr (6 * t + c) xr) yrw (upd ynx t (nI k')) (upd ydp t (nI d')) (upd ypl (8 * t + c) yv) (upd ykd (8 * t + c) yk) :=
  so_top ht hlo htp hk' hd' hty (rl_cs_up htp.2.2.2.2.2.2.2.2.2.2.2 hc hc6 hd' hj) (fun i hi => pk_un (by omega)) (fun i hi => pk_un (by omega)) (fun i hi => pk_un (by omega)) (fun i hi => pk_un (by omega))
theorem so_topn {t m k d k' d' : Nat} {f : Nat → Nat} (ht : t < 4) (hlo : rl_lo yops ybs ysz t xfm xfa xfd xcv xcr yrw ynx ydp ypl ykd) (htp : rl_tp yops ybs ysz t m k d f xfm xfa xfd xcv xcr yrw ynx ydp ypl ykd) (hk' : k' < 16) (hd' : d' ≤ d) (hty : rl_ty yops ybs ysz m k' d' f) :
    rl_lo yops ybs ysz t xfm (upd xfa t (nI k')) (upd xfd t (nI d')) xcv xcr yrw (upd ynx t (nI k')) (upd ydp t (nI d')) ypl ykd ∧ rl_tp yops ybs ysz t m k' d' f xfm (upd xfa t (nI k')) (upd xfd t (nI d')) xcv xcr yrw (upd ynx t (nI k')) (upd ydp t (nI d')) ypl ykd :=
  so_top ht hlo htp hk' (by have := htp.2.2.1; omega) hty (rl_cs_dn htp.2.2.2.2.2.2.2.2.2.2.2 hd') (fun _ _ => rfl) (fun _ _ => rfl) (fun _ _ => rfl) (fun _ _ => rfl)
theorem so_same {a : Nat → Int32} {t : Nat} {x : Int32} (h : a t = x) : upd a t x = a := by
  funext i
  by_cases e : i = t
  · rw [e, pk_us, h]
  · exact pk_un e
/-! the instruction that is due -/
theorem so_at {t m k d : Nat} {f : Nat → Nat} (ht : t < 4) (hM : rl_M xco xcb xml xme yops ybs ysz yex) (htp : rl_tp yops ybs ysz t m k d f xfm xfa xfd xcv xcr yrw ynx ydp ypl ykd) :
    ∃ o b n, o < 25 ∧ n ≤ 16 ∧ k < n ∧ b = (ybs (16 * m + k)).toNatClampNeg ∧ re_H xfm xfa xco xcb t m k o (ybs (16 * m + k)) ∧ re_S yrw ynx yops ybs t m k o (ybs (16 * m + k)) ∧ rl_fb o (ybs (16 * m + k)) n ∧ ck_os (ck_pg o b) d f ∧ ((o = 7 ∨ o = 8) → b < 16 ∧ ybs (16 * m + k) = nI b ∧ rl_ty yops ybs ysz m b (ck_rd (ck_pg o b) d) (ck_rk (ck_pg o b) d f)) ∧ ((o ≠ 7 ∧ o ≠ 19) → k + 1 < 16 ∧ rl_ty yops ybs ysz m (k + 1) (ck_rd (ck_pg o b) d) (ck_rk (ck_pg o b) d f)) := by
  obtain ⟨hm, hk, hd, hsz, hfm, hrw, hfa, hnx, hfd, hdp, hty, hcs⟩ := htp
  obtain ⟨n, hn, hml, hyz, hme, hex, hco, hcd⟩ := hM m hm
  have hn0 : 0 < n := by
    rw [hyz, nI_clamp (by omega)] at hsz
    exact hsz
  obtain ⟨_, hc2, _⟩ := hcd hn0
  have hz : (ysz m).toNatClampNeg = n := by rw [hyz]; exact nI_clamp (by omega)
  obtain ⟨s1, s2, s3, s4⟩ := ck_ty_s hty
  rw [hz] at s1
  obtain ⟨o, ho, eo, hfb⟩ := hc2 k s1
  have eo' : rl_nn yops m k = o := by
    unfold rl_nn
    rw [eo]
    exact nI_clamp (by omega)
  rw [eo'] at s2 s3 s4
  refine ⟨o, rl_nn ybs m k, n, ho, hn, s1, rfl, ⟨ht, hm, hk, hfm, hfa, by rw [(hco k s1).1, eo], (hco k s1).2⟩, ⟨ht, hm, hk, hrw, hnx, eo, rfl⟩, hfb, s2, fun z => ?_, fun z => ?_⟩
  · obtain ⟨e1, e2⟩ := hfb.2.2.1 z
    obtain ⟨j, hj, e⟩ := nI_of (x := ybs (16 * m + k)) (Int32.not_lt.mpr e1)
    have hj2 : j < n := by
      rw [e] at e2
      exact (nI_ltI hj (by omega)).mp e2
    have e3 : rl_nn ybs m k = j := by
      unfold rl_nn
      rw [e]
      exact nI_clamp hj
    refine ⟨by omega, by rw [e3]; exact e, s3 z⟩
  · have := (ck_ty_s (s4 z)).1
    rw [hz] at this
    exact ⟨by omega, s4 z⟩
end SO
