/-! THE RELATION, THE END OF A RUN, THE HEADS OF A STEP -/
section RE
variable {xlim xpc xnd xwc xit xfc xwt xan xlp : Int32}
variable {xpo xpb xwd xwk xnk xco xcb xml xme xro xow xol xla xsh xoe xoh xsr xss xse xms xfm xfa xfd xcv xcr : Nat → Int32}
variable {ylim ywa ysk ylo yrn ysp yaw yan ywh you ygd yop : Int32}
variable {ymd : Int64}
variable {yops ybs ysz yex yow yle yel yla ysh yro yoe yoh yor yrw ynx ydp ypl ykd ymt ytd yht : Nat → Int32}
variable {yst yos : Nat → Int64}
/-- the relation at the head of a turn -/
def i_Rel (K : Nat) (u : SX) (v : SY) : Prop := match u, v with
  | (xlim, xpc, xnd, xwc, xit, xfc, xwt, xan, xlp, xpo, xpb, xwd, xwk, xnk, xco, xcb, xml, xme, xro, xow, xol, xla, xsh, xoe, xoh, xsr, xss, xse, xms, xfm, xfa, xfd, xcv, xcr), (ylim, ywa, ysk, ylo, yrn, ysp, yaw, yan, ywh, you, ymd, ygd, yop, yops, ybs, ysz, yex, yst, yow, yle, yel, yla, ysh, yro, yos, yoe, yoh, yor, yrw, ynx, ydp, ypl, ykd, ymt, ytd, yht) => xfc = 0 ∧ xit = 0 ∧ rl_L xlim ylim ∧ rl_P xpo xpb xpc yops ybs ysz ∧ rl_M xco xcb xml xme yops ybs ysz yex ∧ rl_O xro xow xol xla xsh xoe yro yow yle yla ysh yel ∧ rl_T (300 * K) xit xsr xss xse xms yop yor yoh yoe yst yos ymd ∧ rl_W xwt yaw ∧ xan = yan ∧ xlp = ywh
/-- the relation between two steps: t frames wait below the top, which is in method m, at instruction k, with d entries, of kinds f -/
def rr (B t m k d : Nat) (f : Nat → Nat) (u : SX) (v : SY) : Prop := match u, v with
  | (xlim, xpc, xnd, xwc, xit, xfc, xwt, xan, xlp, xpo, xpb, xwd, xwk, xnk, xco, xcb, xml, xme, xro, xow, xol, xla, xsh, xoe, xoh, xsr, xss, xse, xms, xfm, xfa, xfd, xcv, xcr), (ylim, ywa, ysk, ylo, yrn, ysp, yaw, yan, ywh, you, ymd, ygd, yop, yops, ybs, ysz, yex, yst, yow, yle, yel, yla, ysh, yro, yos, yoe, yoh, yor, yrw, ynx, ydp, ypl, ykd, ymt, ytd, yht) => t < 4 ∧ xfc = nI (t + 1) ∧ yrn = nI (t + 1) ∧ yan = 0 ∧ rl_L xlim ylim ∧ rl_P xpo xpb xpc yops ybs ysz ∧ rl_M xco xcb xml xme yops ybs ysz yex ∧ rl_O xro xow xol xla xsh xoe yro yow yle yla ysh yel ∧ rl_T B xit xsr xss xse xms yop yor yoh yoe yst yos ymd ∧ rl_W xwt yaw ∧ rl_lo yops ybs ysz t xfm xfa xfd xcv xcr yrw ynx ydp ypl ykd ∧ rl_tp yops ybs ysz t m k d f xfm xfa xfd xcv xcr yrw ynx ydp ypl ykd
theorem re_T_up {B B' : Nat} (h : rl_T B xit xsr xss xse xms yop yor yoh yoe yst yos ymd) (hB : B ≤ B') : rl_T B' xit xsr xss xse xms yop yor yoh yoe yst yos ymd := by
  obtain ⟨t1, t2, ⟨mm, m1, m2, m3, m4⟩, t4⟩ := h
  exact ⟨t1, t2, ⟨mm, by omega, m2, m3, m4⟩, t4⟩
theorem i_up {k : Nat} {u : SX} {v : SY} (h : i_Rel k u v) : i_Rel (k + 4) u v := by
  obtain ⟨a1, a2, a3, a4, a5, a6, a7, a8, a9, a10⟩ := h
  exact ⟨a1, a2, a3, a4, a5, a6, re_T_up a7 (by omega), a8, a9, a10⟩
/-! the end of a run -/
theorem re_fin {B : Nat} {r : Int32} (hO : rl_O xro xow xol xla xsh xoe yro yow yle yla ysh yel) (hT : rl_T B xit xsr xss xse xms yop yor yoh yoe yst yos ymd) (hW : rl_W xwt yaw) :
    ∃ ro sh oe wt yro' ysh' yel' yaw', (∀ P : SX → Prop, P (xlim, xpc, xnd, xwc, 0, 0, wt, xan, xlp, xpo, xpb, xwd, xwk, xnk, xco, xcb, xml, xme, ro, xow, xol, xla, sh, oe, xoh, xsr, xss, xse, xms, xfm, xfa, xfd, xcv, xcr) → wX_finish_44 P r xlim xpc xnd xwc xit xfc xwt xan xlp xpo xpb xwd xwk xnk xco xcb xml xme xro xow xol xla xsh xoe xoh xsr xss xse xms xfm xfa xfd xcv xcr) ∧ (∀ (Q : SY → Prop) z, Q (ylim, ywa, ysk, ylo, 0, ysp, yaw', yan, z, you, ymd, ygd, 0, yops, ybs, ysz, yex, yst, yow, yle, yel', yla, ysh', yro', yos, yoe, yoh, yor, yrw, ynx, ydp, ypl, ykd, ymt, ytd, yht) → wY_end_40 Q r z ylim ywa ysk ylo yrn ysp yaw yan ywh you ymd ygd yop yops ybs ysz yex yst yow yle yel yla ysh yro yos yoe yoh yor yrw ynx ydp ypl ykd ymt ytd yht) ∧ rl_O ro xow xol xla sh oe yro' yow yle yla ysh' yel' ∧ rl_T B 0 xsr xss xse xms 0 yor yoh yoe yst yos ymd ∧ rl_W wt yaw' := by
  have w9 : rl_W (-1) (-1) := ⟨rfl, Or.inl rfl⟩
  rcases hT.2.1 with h0 | h1
  · have hx : xit = 0 := hT.1.trans h0
    subst hx
    subst h0
    by_cases r9 : r = 9
    · refine ⟨xro, xsh, lo_p xla 1 xoe, -1, yro, ysh, lo_yr yla 0 yel, -1, fun P hp => ?_, fun Q z hq => ?_, pr_reset hO, hT, w9⟩
      · exact br_t rfl (br_t r9 (lo_lose _ hp))
      · unfold wY_end_40
        exact br_t rfl (br_t r9 (lo_reset _ hq))
    · refine ⟨xro, xsh, xoe, xwt, yro, ysh, yel, yaw, fun P hp => ?_, fun Q z hq => ?_, hO, hT, hW⟩
      · exact br_t rfl (br_f r9 hp)
      · unfold wY_end_40
        exact br_t rfl (br_f r9 hq)
  · have hx : xit = 1 := hT.1.trans h1
    obtain ⟨O', T'⟩ := pr_undo hO hT h1
    have n1 : ¬ (1 : Int32) = 0 := by decide
    subst hx
    subst h1
    by_cases r9 : r = 9
    · refine ⟨_, _, lo_p xla 1 _, -1, _, _, lo_yr yla 0 _, -1, fun P hp => ?_, fun Q z hq => ?_, pr_reset O', T', w9⟩
      · exact br_f n1 (lo_xundo _ (br_t r9 (lo_lose _ hp)))
      · unfold wY_end_40
        exact lo_yundo _ n1 (br_t r9 (lo_reset _ hq))
    · refine ⟨_, _, _, xwt, _, _, _, yaw, fun P hp => ?_, fun Q z hq => ?_, O', T', hW⟩
      · exact br_f n1 (lo_xundo _ (br_f r9 hp))
      · unfold wY_end_40
        exact lo_yundo _ n1 (br_f r9 hq)
/-! power -/
def re_pd (w : Int32) : Int32 := if w ≤ 0 then w else w - 1
theorem re_W_pd (hW : rl_W xwt yaw) (h0 : ¬ xwt = 0) : rl_W (re_pd xwt) (re_pd yaw) := by
  obtain ⟨rfl, h⟩ := hW
  refine ⟨rfl, ?_⟩
  unfold re_pd
  rcases h with rfl | ⟨a, ha, rfl⟩
  · rw [if_pos (by decide)]
    exact Or.inl rfl
  · cases a with
    | zero => exact absurd rfl h0
    | succ a =>
      rw [if_neg (nI_nle (by omega) (by omega)), nI_pred]
      exact Or.inr ⟨a, by omega, rfl⟩
theorem re_power (P : Int32 → SX → Prop) (h0 : ¬ xwt = 0) (h : P 0 (xlim, xpc, xnd, xwc, xit, xfc, re_pd xwt, xan, xlp, xpo, xpb, xwd, xwk, xnk, xco, xcb, xml, xme, xro, xow, xol, xla, xsh, xoe, xoh, xsr, xss, xse, xms, xfm, xfa, xfd, xcv, xcr)) : wpX_powerFails P (xlim, xpc, xnd, xwc, xit, xfc, xwt, xan, xlp, xpo, xpb, xwd, xwk, xnk, xco, xcb, xml, xme, xro, xow, xol, xla, xsh, xoe, xoh, xsr, xss, xse, xms, xfm, xfa, xfd, xcv, xcr) := by
  unfold re_pd at h
  refine br_f h0 (br_c (fun z => ?_) (fun z => nm_e ?_))
  · rw [if_pos z] at h
    exact h
  · rw [if_neg z] at h
    exact h
theorem re_write (P : Int32 → SY → Prop) (h0 : ¬ yaw = 0) (h : P 1 (ylim, ywa, ysk, ylo, yrn, ysp, re_pd yaw, yan, ywh, you, ymd, ygd, yop, yops, ybs, ysz, yex, yst, yow, yle, yel, yla, ysh, yro, yos, yoe, yoh, yor, yrw, ynx, ydp, ypl, ykd, ymt, ytd, yht)) : wpY_write P (ylim, ywa, ysk, ylo, yrn, ysp, yaw, yan, ywh, you, ymd, ygd, yop, yops, ybs, ysz, yex, yst, yow, yle, yel, yla, ysh, yro, yos, yoe, yoh, yor, yrw, ynx, ydp, ypl, ykd, ymt, ytd, yht) := by
  unfold re_pd at h
  refine br_f h0 (br_c (fun z => ?_) (fun z => nm_e ?_))
  · rw [if_pos z] at h
    exact h
  · rw [if_neg z] at h
    exact h
/-! the head of the component's step -/
theorem re_76p (P : Int32 → SX → Prop) {t k o : Nat} {Bv : Int32} {u' : SX} (ht : t < 4) (hfa : xfa t = nI k) (ho : o < 9 ∨ 16 < o) (h25 : o < 25) (hp : ∀ post : SX → Prop, post u' → wpX_perform post (xlim, xpc, xnd, xwc, xit, xfc, xwt, xan, xlp, xpo, xpb, xwd, xwk, xnk, xco, xcb, xml, xme, xro, xow, xol, xla, xsh, xoe, xoh, xsr, xss, xse, xms, xfm, upd xfa t (nI (k + 1)), xfd, xcv, xcr) (nI o) Bv) (h : P 0 u') : wX_execute_76 P (nI t) (nI o) Bv xlim xpc xnd xwc xit xfc xwt xan xlp xpo xpb xwd xwk xnk xco xcb xml xme xro xow xol xla xsh xoe xoh xsr xss xse xms xfm xfa xfd xcv xcr := by
  have e0 : (nI t).toNatClampNeg = t := nI_clamp (by omega)
  obtain ⟨a1, a2, a3, a4, a5, a6, a7, a8, a9, c1, c2, c3, c4, c5, c6, c7, c8, c9, d1, d2, d3, d4, d5, d6, d7, d8, d9, e1, e2, e3, e4, e5, e6, e7⟩ := u'
  refine ⟨pk_in t 4 ht, pk_in t 4 ht, nm_r (by rw [e0, hfa, nI_1]) (pk_lt o 9 (fun z => hp _ h) (fun z => pk_lt 16 o (fun y => hp _ h) (fun y => absurd ho (by omega))))⟩
theorem re_76o (P : Int32 → SX → Prop) {t k o : Nat} {Bv : Int32} {u' : SX} (ht : t < 4) (hfa : xfa t = nI k) (ho : 9 ≤ o) (ho2 : o ≤ 16) (hp : ∀ post : SX → Prop, post u' → wpX_performOnObjects post (xlim, xpc, xnd, xwc, xit, xfc, xwt, xan, xlp, xpo, xpb, xwd, xwk, xnk, xco, xcb, xml, xme, xro, xow, xol, xla, xsh, xoe, xoh, xsr, xss, xse, xms, xfm, upd xfa t (nI (k + 1)), xfd, xcv, xcr) (nI o) Bv) (h : P 0 u') : wX_execute_76 P (nI t) (nI o) Bv xlim xpc xnd xwc xit xfc xwt xan xlp xpo xpb xwd xwk xnk xco xcb xml xme xro xow xol xla xsh xoe xoh xsr xss xse xms xfm xfa xfd xcv xcr := by
  have e0 : (nI t).toNatClampNeg = t := nI_clamp (by omega)
  obtain ⟨a1, a2, a3, a4, a5, a6, a7, a8, a9, c1, c2, c3, c4, c5, c6, c7, c8, c9, d1, d2, d3, d4, d5, d6, d7, d8, d9, e1, e2, e3, e4, e5, e6, e7⟩ := u'
  refine ⟨pk_in t 4 ht, pk_in t 4 ht, nm_r (by rw [e0, hfa, nI_1]) (pk_lt o 9 (fun z => absurd ho (by omega)) (fun z => pk_lt 16 o (fun y => absurd ho2 (by omega)) (fun y => hp _ h)))⟩
def re_H (fm fa co cb : Nat → Int32) (t m k o : Nat) (Bv : Int32) : Prop := t < 4 ∧ m < 6 ∧ k < 16 ∧ fm t = nI m ∧ fa t = nI k ∧ co (16 * m + k) = nI o ∧ cb (16 * m + k) = Bv
/-- no failure, no write -/
theorem re_xn (P : Int32 → SX → Prop) {t m k o : Nat} {Bv : Int32} {oh : Nat → Int32} (H : re_H xfm xfa xco xcb t m k o Bv) (hf : ∀ post : Int32 → SX → Prop, post 0 (xlim, xpc, xnd, xwc, xit, nI (t + 1), xwt, xan, xlp, xpo, xpb, xwd, xwk, xnk, xco, xcb, xml, xme, xro, xow, xol, xla, xsh, xoe, oh, xsr, xss, xse, xms, xfm, xfa, xfd, xcv, xcr) → wpX_failureOf post (xlim, xpc, xnd, xwc, xit, nI (t + 1), xwt, xan, xlp, xpo, xpb, xwd, xwk, xnk, xco, xcb, xml, xme, xro, xow, xol, xla, xsh, xoe, xoh, xsr, xss, xse, xms, xfm, xfa, xfd, xcv, xcr) (nI o) Bv) (hw : ∀ post : Int32 → Prop, post 0 → wpX_isWrite post (xlim, xpc, xnd, xwc, xit, nI (t + 1), xwt, xan, xlp, xpo, xpb, xwd, xwk, xnk, xco, xcb, xml, xme, xro, xow, xol, xla, xsh, xoe, oh, xsr, xss, xse, xms, xfm, xfa, xfd, xcv, xcr) (nI o) Bv) (h : wX_execute_76 P (nI t) (nI o) Bv xlim xpc xnd xwc xit (nI (t + 1)) xwt xan xlp xpo xpb xwd xwk xnk xco xcb xml xme xro xow xol xla xsh xoe oh xsr xss xse xms xfm xfa xfd xcv xcr) : wpX_execute P (xlim, xpc, xnd, xwc, xit, nI (t + 1), xwt, xan, xlp, xpo, xpb, xwd, xwk, xnk, xco, xcb, xml, xme, xro, xow, xol, xla, xsh, xoe, xoh, xsr, xss, xse, xms, xfm, xfa, xfd, xcv, xcr) := by
  obtain ⟨ht, hm, hk, hfm, hfa, ho, hb⟩ := H
  have e0 : (nI t).toNatClampNeg = t := nI_clamp (by omega)
  have e2 : (nI (16 * m + k)).toNatClampNeg = 16 * m + k := nI_clamp (by omega)
  exact nm_r (nI_pred t) ⟨pk_in t 4 ht, pk_in t 4 ht, nm_r (e' := nI (16 * m + k)) (by rw [e0, hfm, hfa, pr_16]) ⟨vp_in_nI (by omega) (by omega), nm_r (e' := nI o) (by rw [e2, ho]) ⟨vp_in_nI (by omega) (by omega), nm_r (e' := Bv) (by rw [e2, hb]) (hf _ (br_t rfl (hw _ (br_t rfl h))))⟩⟩⟩
/-- a write that goes well -/
theorem re_xw (P : Int32 → SX → Prop) {t m k o : Nat} {Bv : Int32} {oh : Nat → Int32} (H : re_H xfm xfa xco xcb t m k o Bv) (h0 : ¬ xwt = 0) (hf : ∀ post : Int32 → SX → Prop, post 0 (xlim, xpc, xnd, xwc, xit, nI (t + 1), xwt, xan, xlp, xpo, xpb, xwd, xwk, xnk, xco, xcb, xml, xme, xro, xow, xol, xla, xsh, xoe, oh, xsr, xss, xse, xms, xfm, xfa, xfd, xcv, xcr) → wpX_failureOf post (xlim, xpc, xnd, xwc, xit, nI (t + 1), xwt, xan, xlp, xpo, xpb, xwd, xwk, xnk, xco, xcb, xml, xme, xro, xow, xol, xla, xsh, xoe, xoh, xsr, xss, xse, xms, xfm, xfa, xfd, xcv, xcr) (nI o) Bv) (hw : ∀ post : Int32 → Prop, post 1 → wpX_isWrite post (xlim, xpc, xnd, xwc, xit, nI (t + 1), xwt, xan, xlp, xpo, xpb, xwd, xwk, xnk, xco, xcb, xml, xme, xro, xow, xol, xla, xsh, xoe, oh, xsr, xss, xse, xms, xfm, xfa, xfd, xcv, xcr) (nI o) Bv) (h : wX_execute_76 P (nI t) (nI o) Bv xlim xpc xnd xwc xit (nI (t + 1)) (re_pd xwt) xan xlp xpo xpb xwd xwk xnk xco xcb xml xme xro xow xol xla xsh xoe oh xsr xss xse xms xfm xfa xfd xcv xcr) : wpX_execute P (xlim, xpc, xnd, xwc, xit, nI (t + 1), xwt, xan, xlp, xpo, xpb, xwd, xwk, xnk, xco, xcb, xml, xme, xro, xow, xol, xla, xsh, xoe, xoh, xsr, xss, xse, xms, xfm, xfa, xfd, xcv, xcr) := by
  obtain ⟨ht, hm, hk, hfm, hfa, ho, hb⟩ := H
  have e0 : (nI t).toNatClampNeg = t := nI_clamp (by omega)
  have e2 : (nI (16 * m + k)).toNatClampNeg = 16 * m + k := nI_clamp (by omega)
  exact nm_r (nI_pred t) ⟨pk_in t 4 ht, pk_in t 4 ht, nm_r (e' := nI (16 * m + k)) (by rw [e0, hfm, hfa, pr_16]) ⟨vp_in_nI (by omega) (by omega), nm_r (e' := nI o) (by rw [e2, ho]) ⟨vp_in_nI (by omega) (by omega), nm_r (e' := Bv) (by rw [e2, hb]) (hf _ (br_t rfl (hw _ (br_f (by decide) (re_power _ h0 (br_t rfl h))))))⟩⟩⟩
/-- a write that power fails at -/
theorem re_xt (P : Int32 → SX → Prop) {t m k o : Nat} {Bv : Int32} {oh : Nat → Int32} (H : re_H xfm xfa xco xcb t m k o Bv) (h0 : xwt = 0) (hf : ∀ post : Int32 → SX → Prop, post 0 (xlim, xpc, xnd, xwc, xit, nI (t + 1), xwt, xan, xlp, xpo, xpb, xwd, xwk, xnk, xco, xcb, xml, xme, xro, xow, xol, xla, xsh, xoe, oh, xsr, xss, xse, xms, xfm, xfa, xfd, xcv, xcr) → wpX_failureOf post (xlim, xpc, xnd, xwc, xit, nI (t + 1), xwt, xan, xlp, xpo, xpb, xwd, xwk, xnk, xco, xcb, xml, xme, xro, xow, xol, xla, xsh, xoe, xoh, xsr, xss, xse, xms, xfm, xfa, xfd, xcv, xcr) (nI o) Bv) (hw : ∀ post : Int32 → Prop, post 1 → wpX_isWrite post (xlim, xpc, xnd, xwc, xit, nI (t + 1), xwt, xan, xlp, xpo, xpb, xwd, xwk, xnk, xco, xcb, xml, xme, xro, xow, xol, xla, xsh, xoe, oh, xsr, xss, xse, xms, xfm, xfa, xfd, xcv, xcr) (nI o) Bv) (h : P 9 (xlim, xpc, xnd, xwc, xit, nI (t + 1), xwt, xan, xlp, xpo, xpb, xwd, xwk, xnk, xco, xcb, xml, xme, xro, xow, xol, xla, xsh, xoe, oh, xsr, xss, xse, xms, xfm, xfa, xfd, xcv, xcr)) : wpX_execute P (xlim, xpc, xnd, xwc, xit, nI (t + 1), xwt, xan, xlp, xpo, xpb, xwd, xwk, xnk, xco, xcb, xml, xme, xro, xow, xol, xla, xsh, xoe, xoh, xsr, xss, xse, xms, xfm, xfa, xfd, xcv, xcr) := by
  obtain ⟨ht, hm, hk, hfm, hfa, ho, hb⟩ := H
  have e0 : (nI t).toNatClampNeg = t := nI_clamp (by omega)
  have e2 : (nI (16 * m + k)).toNatClampNeg = 16 * m + k := nI_clamp (by omega)
  exact nm_r (nI_pred t) ⟨pk_in t 4 ht, pk_in t 4 ht, nm_r (e' := nI (16 * m + k)) (by rw [e0, hfm, hfa, pr_16]) ⟨vp_in_nI (by omega) (by omega), nm_r (e' := nI o) (by rw [e2, ho]) ⟨vp_in_nI (by omega) (by omega), nm_r (e' := Bv) (by rw [e2, hb]) (hf _ (br_t rfl (hw _ (br_f (by decide) (br_t h0 (br_f (by decide) h))))))⟩⟩⟩
/-- a failure -/
theorem re_xf (P : Int32 → SX → Prop) {t m k o : Nat} {Bv r : Int32} {oh : Nat → Int32} (H : re_H xfm xfa xco xcb t m k o Bv) (hr : ¬ r = 0) (hf : ∀ post : Int32 → SX → Prop, post r (xlim, xpc, xnd, xwc, xit, nI (t + 1), xwt, xan, xlp, xpo, xpb, xwd, xwk, xnk, xco, xcb, xml, xme, xro, xow, xol, xla, xsh, xoe, oh, xsr, xss, xse, xms, xfm, xfa, xfd, xcv, xcr) → wpX_failureOf post (xlim, xpc, xnd, xwc, xit, nI (t + 1), xwt, xan, xlp, xpo, xpb, xwd, xwk, xnk, xco, xcb, xml, xme, xro, xow, xol, xla, xsh, xoe, xoh, xsr, xss, xse, xms, xfm, xfa, xfd, xcv, xcr) (nI o) Bv) (h : P r (xlim, xpc, xnd, xwc, xit, nI (t + 1), xwt, xan, xlp, xpo, xpb, xwd, xwk, xnk, xco, xcb, xml, xme, xro, xow, xol, xla, xsh, xoe, oh, xsr, xss, xse, xms, xfm, xfa, xfd, xcv, xcr)) : wpX_execute P (xlim, xpc, xnd, xwc, xit, nI (t + 1), xwt, xan, xlp, xpo, xpb, xwd, xwk, xnk, xco, xcb, xml, xme, xro, xow, xol, xla, xsh, xoe, xoh, xsr, xss, xse, xms, xfm, xfa, xfd, xcv, xcr) := by
  obtain ⟨ht, hm, hk, hfm, hfa, ho, hb⟩ := H
  have e0 : (nI t).toNatClampNeg = t := nI_clamp (by omega)
  have e2 : (nI (16 * m + k)).toNatClampNeg = 16 * m + k := nI_clamp (by omega)
  exact nm_r (nI_pred t) ⟨pk_in t 4 ht, pk_in t 4 ht, nm_r (e' := nI (16 * m + k)) (by rw [e0, hfm, hfa, pr_16]) ⟨vp_in_nI (by omega) (by omega), nm_r (e' := nI o) (by rw [e2, ho]) ⟨vp_in_nI (by omega) (by omega), nm_r (e' := Bv) (by rw [e2, hb]) (hf _ (br_f hr h))⟩⟩⟩
/-! the head of the reference's step -/
theorem re_eta (Q : SY → Prop) : (fun u : SY => match u with | (ylim, ywa, ysk, ylo, yrn, ysp, yaw, yan, ywh, you, ymd, ygd, yop, yops, ybs, ysz, yex, yst, yow, yle, yel, yla, ysh, yro, yos, yoe, yoh, yor, yrw, ynx, ydp, ypl, ykd, ymt, ytd, yht) => Q (ylim, ywa, ysk, ylo, yrn, ysp, yaw, yan, ywh, you, ymd, ygd, yop, yops, ybs, ysz, yex, yst, yow, yle, yel, yla, ysh, yro, yos, yoe, yoh, yor, yrw, ynx, ydp, ypl, ykd, ymt, ytd, yht)) = Q := by
  funext u
  obtain ⟨a1, a2, a3, a4, a5, a6, a7, a8, a9, c1, c2, c3, c4, c5, c6, c7, c8, c9, d1, d2, d3, d4, d5, d6, d7, d8, d9, e1, e2, e3, e4, e5, e6, e7, e8, e9⟩ := u
  rfl
def re_S (rw_ nx ops bs : Nat → Int32) (t m k o : Nat) (Bv : Int32) : Prop := t < 4 ∧ m < 6 ∧ k < 16 ∧ rw_ t = nI m ∧ nx t = nI k ∧ ops (16 * m + k) = nI o ∧ bs (16 * m + k) = Bv
theorem re_ys (Q : SY → Prop) (F : (SY → Prop) → Prop) {t m k o s : Nat} {Bv : Int32} (H : re_S yrw ynx yops ybs t m k o Bv) (hs : ¬ nI s = ylim) (h25 : o < 25)
    (h1 : o < 9 → ∀ post, F post → wpY_simple post (ylim, ywa, ysk, ylo, nI (t + 1), nI (s + 1), yaw, yan, ywh, you, ymd, ygd, yop, yops, ybs, ysz, yex, yst, yow, yle, yel, yla, ysh, yro, yos, yoe, yoh, yor, yrw, ynx, ydp, ypl, ykd, ymt, ytd, yht) (nI o) Bv) (h2 : 9 ≤ o → o < 18 → o ≠ 9 → o ≠ 10 → o ≠ 16 → o ≠ 17 → ∀ post, F post → wpY_onObject post (ylim, ywa, ysk, ylo, nI (t + 1), nI (s + 1), yaw, yan, ywh, you, ymd, ygd, yop, yops, ybs, ysz, yex, yst, yow, yle, yel, yla, ysh, yro, yos, yoe, yoh, yor, yrw, ynx, ydp, ypl, ykd, ymt, ytd, yht) (nI o) Bv) (h3 : o = 9 ∨ o = 10 ∨ o = 16 ∨ o = 17 ∨ 18 ≤ o → ∀ post, F post → wpY_other post (ylim, ywa, ysk, ylo, nI (t + 1), nI (s + 1), yaw, yan, ywh, you, ymd, ygd, yop, yops, ybs, ysz, yex, yst, yow, yle, yel, yla, ysh, yro, yos, yoe, yoh, yor, yrw, ynx, ydp, ypl, ykd, ymt, ytd, yht) (nI o) Bv) (h : F Q) : wpY_step Q (ylim, ywa, ysk, ylo, nI (t + 1), nI s, yaw, yan, ywh, you, ymd, ygd, yop, yops, ybs, ysz, yex, yst, yow, yle, yel, yla, ysh, yro, yos, yoe, yoh, yor, yrw, ynx, ydp, ypl, ykd, ymt, ytd, yht) := by
  obtain ⟨ht, hm, hk, hfm, hfa, ho, hb⟩ := H
  have e0 : (nI t).toNatClampNeg = t := nI_clamp (by omega)
  have e2 : (nI (16 * m + k)).toNatClampNeg = 16 * m + k := nI_clamp (by omega)
  have v1 : vp_in (nI (16 * m + k)) 112 := vp_in_nI (by omega) (by omega)
  have k3 : (o = 9 ∨ o = 10 ∨ o = 16 ∨ o = 17 ∨ 18 ≤ o) → wY_step_122 Q (nI (16 * m + k)) (nI o) ylim ywa ysk ylo (nI (t + 1)) (nI (s + 1)) yaw yan ywh you ymd ygd yop yops ybs ysz yex yst yow yle yel yla ysh yro yos yoe yoh yor yrw ynx ydp ypl ykd ymt ytd yht := fun z => by
    refine ⟨v1, ?_⟩
    rw [e2, hb, re_eta]
    exact h3 z Q h
  refine nm_r (nI_pred t) ⟨pk_in t 4 ht, pk_in t 4 ht, nm_r (e' := nI (16 * m + k)) (by rw [e0, hfm, hfa, pr_16]) (br_f hs (nm_r (nI_1 s) ⟨v1, nm_r (e' := nI o) (by rw [e2, ho]) (pk_le 9 o (fun z => pk_le 18 o (fun y => k3 (by omega)) (fun y => pk_eq o 9 (fun x => k3 (by omega)) (fun x9 => pk_eq o 10 (fun x => k3 (by omega)) (fun x10 => pk_eq o 16 (fun x => k3 (by omega)) (fun x16 => pk_eq o 17 (fun x => k3 (by omega)) (fun x17 => ⟨v1, ?_⟩)))))) (fun z => ⟨v1, ?_⟩))⟩))⟩
  · rw [e2, hb, re_eta]
    exact h2 z (by omega) x9 x10 x16 x17 Q h
  · rw [e2, hb, re_eta]
    exact h1 (by omega) Q h
end RE
