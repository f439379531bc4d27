/-! WHAT THE LOOPS KEEP OF THE RELATION -/
section PR
variable {xlim xpc xnd xwc xit xfc xwt xan xlp : Int32}
variable {xpo xpb xwd xwk xnk xco xcb xml xme xro xow xol xla xsh xoe xoh xsr xss xse xms xfm xfa xfd xcv xcr : Nat → Int32}
variable {ylim ywa ysk ylo yrn ysp yaw yan ywh you ygd yop : Int32}
variable {ymd : Int64}
variable {yops ybs ysz yex yow yle yel yla ysh yro yoe yoh yor yrw ynx ydp ypl ykd ymt ytd yht : Nat → Int32}
variable {yst yos : Nat → Int64}
theorem pr_undo {B : Nat} (hO : rl_O xro xow xol xla xsh xoe yro yow yle yla ysh yel) (hT : rl_T B xit xsr xss xse xms yop yor yoh yoe yst yos ymd) (h1 : yop = 1) :
    rl_O (lo_f xsr 0 6 xro) xow xol xla (lo_xs xms xss 1 xsh) (lo_xe xms xla xse 1 xoe) (lo_f yor 0 6 yro) yow yle yla (lo_ys yst yos yoh 0 ysh) (lo_ye yst yos yla yoe 0 yel) ∧ rl_T B 0 xsr xss xse xms 0 yor yoh yoe yst yos ymd := by
  obtain ⟨o1, o2, o3⟩ := hO
  obtain ⟨t1, t2, ⟨mm, m1, m2, m3, m4⟩, t4⟩ := hT
  obtain ⟨s1, s2, s3⟩ := t4 h1
  refine ⟨⟨fun r hr => ?_, fun o ho => ?_, fun i hi => ?_⟩, rfl, Or.inl rfl, ⟨mm, m1, m2, m3, fun z => absurd z (by decide)⟩, fun z => absurd z (by decide)⟩
  · rw [lo_i (by omega) hr, lo_i (by omega) hr]
    exact s1 r hr
  · obtain ⟨a1, a2, a3, a4, a5, a6, a7, a8⟩ := o2 o ho
    obtain ⟨b1, b2, b3⟩ := s2 o ho
    unfold lo_xs lo_ys
    by_cases z : xms (o + 1) = 0
    · rw [if_pos ⟨by omega, by omega, z⟩, if_pos ⟨by omega, ho, b3.mp z⟩, b1, rl_b_n b2]
      exact ⟨a1, a2, a3, rfl, a5, b2, a7, a8⟩
    · rw [if_neg (fun q => z q.2.2), if_neg (fun q => z (b3.mpr q.2.2))]
      exact ⟨a1, a2, a3, a4, a5, a6, a7, a8⟩
  · have e : (4 + i) / 4 = i / 4 + 1 := by omega
    obtain ⟨a1, a2, a3, a4, a5, a6, a7, a8⟩ := o2 (i / 4) (by omega)
    obtain ⟨b1, b2, b3⟩ := s2 (i / 4) (by omega)
    obtain ⟨c1, c2⟩ := s3 i hi
    unfold lo_xe lo_ye
    rw [e, a3]
    by_cases z : xms (i / 4 + 1) = 0 ∧ ¬ yla (i / 4) = 0
    · rw [if_pos ⟨by omega, by omega, z⟩, if_pos ⟨by omega, hi, b3.mp z.1, z.2⟩, c1, rl_sv_n c2]
      exact ⟨rfl, c2⟩
    · rw [if_neg (fun q => z q.2.2), if_neg (fun q => z ⟨b3.mpr q.2.2.1, q.2.2.2⟩)]
      exact o3 i hi
theorem pr_s0 : vp_nar .short 0 = 0 := by
  rw [vp_nar_short]
  decide
theorem pr_sv0 : rl_sv 0 := by
  unfold rl_sv
  decide
theorem pr_reset (hO : rl_O xro xow xol xla xsh xoe yro yow yle yla ysh yel) : rl_O xro xow xol xla xsh (lo_p xla 1 xoe) yro yow yle yla ysh (lo_yr yla 0 yel) := by
  obtain ⟨o1, o2, o3⟩ := hO
  refine ⟨o1, o2, fun i hi => ?_⟩
  have e : (4 + i) / 4 = i / 4 + 1 := by omega
  have a3 := (o2 (i / 4) (by omega)).2.2.1
  unfold lo_p lo_yr
  rw [e, a3]
  by_cases z : yla (i / 4) = 0
  · rw [if_pos ⟨by omega, by omega, z⟩, if_pos ⟨by omega, hi, z⟩, pr_s0]
    exact ⟨rfl, pr_sv0⟩
  · rw [if_neg (fun q => z q.2.2), if_neg (fun q => z q.2.2)]
    exact o3 i hi
theorem pr_begin {B : Nat} (hO : rl_O xro xow xol xla xsh xoe yro yow yle yla ysh yel) (hT : rl_T B xit xsr xss xse xms yop yor yoh yoe yst yos ymd) :
    rl_T B 1 (lo_f xro 0 6 xsr) (lo_f (fun i => vp_nar .boolean (xsh i)) 1 9 xss) (lo_f xoe 0 36 xse) (lo_f (fun _ => vp_nar .boolean 0) 1 9 xms) 1 (lo_f yro 0 6 yor) (lo_f (fun i => vp_nar .boolean (ysh i)) 0 8 yoh) (lo_f (fun i => vp_nar .short (yel i)) 0 32 yoe) yst (lo_L yst 0 8 yos) ymd := by
  obtain ⟨o1, o2, o3⟩ := hO
  obtain ⟨t1, t2, ⟨mm, m1, m2, m3, m4⟩, t4⟩ := hT
  refine ⟨rfl, Or.inr rfl, ⟨mm, m1, m2, m3, fun _ o ho => ?_⟩, fun _ => ⟨fun r hr => ?_, fun o ho => ?_, fun i hi => ?_⟩⟩
  · rw [lo_Li (by omega) ho]
    exact m3 o ho
  · rw [lo_i (by omega) hr, lo_i (by omega) hr]
    exact o1 r hr
  · obtain ⟨a1, a2, a3, a4, a5, a6, a7, a8⟩ := o2 o ho
    rw [lo_i (by omega) (by omega), lo_i (by omega) (by omega), lo_i (by omega) (by omega), lo_Li (by omega) ho, a4, rl_b_n a6]
    exact ⟨rfl, a6, fun _ => rfl, fun _ => by decide⟩
  · rw [lo_i (by omega) (by omega), lo_i (by omega) (by omega)]
    obtain ⟨c1, c2⟩ := o3 i hi
    rw [c1, rl_sv_n c2]
    exact ⟨rfl, c2⟩
/-! THE FRAMES' SMALL METHODS -/
theorem pr_6 (t d : Nat) : (6 : Int32) * nI t + 2 + nI d = nI (6 * t + (d + 2)) := by
  rw [show (6 : Int32) * nI t = nI (6 * t) from pk_mul 6 t, show nI (6 * t) + 2 = nI (6 * t + 2) from nI_add _ 2, nI_add]
  exact congrArg nI (by omega)
theorem pr_8 (t d : Nat) : (8 : Int32) * nI t + 2 + nI d = nI (8 * t + (d + 2)) := by
  rw [show (8 : Int32) * nI t = nI (8 * t) from pk_mul 8 t, show nI (8 * t) + 2 = nI (8 * t + 2) from nI_add _ 2, nI_add]
  exact congrArg nI (by omega)
theorem pr_81 (t d : Nat) : (8 : Int32) * nI t + 1 + nI d = nI (8 * t + (d + 1)) := by
  rw [show (8 : Int32) * nI t = nI (8 * t) from pk_mul 8 t, show nI (8 * t) + 1 = nI (8 * t + 1) from nI_add _ 1, nI_add]
  exact congrArg nI (by omega)
theorem pr_6b (t b : Nat) : (6 : Int32) * nI t + nI b = nI (6 * t + b) := by
  rw [show (6 : Int32) * nI t = nI (6 * t) from pk_mul 6 t, nI_add]
theorem pr_8b (t b : Nat) : (8 : Int32) * nI t + nI b = nI (8 * t + b) := by
  rw [show (8 : Int32) * nI t = nI (8 * t) from pk_mul 8 t, nI_add]
theorem pr_16 (m k : Nat) : (16 : Int32) * nI m + nI k = nI (16 * m + k) := by
  rw [show (16 : Int32) * nI m = nI (16 * m) from pk_mul 16 m, nI_add]
theorem pr_2b (a b : Nat) : (2 : Int32) * nI a + nI b = nI (2 * a + b) := by
  rw [show (2 : Int32) * nI a = nI (2 * a) from pk_mul 2 a, nI_add]
theorem pr_4b (a b : Nat) : (4 : Int32) * nI a + nI b = nI (4 * a + b) := by
  rw [show (4 : Int32) * nI a = nI (4 * a) from pk_mul 4 a, nI_add]
theorem pr_h (m : Nat) (hm : m < 6) : nI m / 2 = nI (m / 2) := pk_div (d := 2) (by omega) (by decide) (by decide)
theorem pr_xentry (P : Int32 → Prop) {t d j : Nat} (ht : t < 4) (hd : xfd t = nI d) (hd4 : d ≤ 4) (hj : 1 ≤ j) (hjd : j ≤ d) (h : P (xcv (6 * t + (d + 2 - j)))) : wpX_entry P (xlim, xpc, xnd, xwc, xit, nI (t + 1), xwt, xan, xlp, xpo, xpb, xwd, xwk, xnk, xco, xcb, xml, xme, xro, xow, xol, xla, xsh, xoe, xoh, xsr, xss, xse, xms, xfm, xfa, xfd, xcv, xcr) (nI j) := by
  have e0 : (nI t).toNatClampNeg = t := nI_clamp (by omega)
  have e1 : (6 : Int32) * nI t + 2 + xfd (nI t).toNatClampNeg - nI j = nI (6 * t + (d + 2 - j)) := by
    rw [e0, hd, pr_6, pk_sub (by omega)]
    exact congrArg nI (by omega)
  refine nm_r (nI_pred t) ⟨pk_in t 4 ht, ?_⟩
  rw [e1, nI_clamp (by omega)]
  exact ⟨vp_in_nI (by omega) (by omega), h⟩
theorem pr_own (P : Int32 → Prop) {t m : Nat} (ht : t < 4) (hm : xfm t = nI m) (hm6 : m < 6) (h : P (nI (m / 2))) : wpX_ownApplet P (xlim, xpc, xnd, xwc, xit, nI (t + 1), xwt, xan, xlp, xpo, xpb, xwd, xwk, xnk, xco, xcb, xml, xme, xro, xow, xol, xla, xsh, xoe, xoh, xsr, xss, xse, xms, xfm, xfa, xfd, xcv, xcr) := by
  have e : xfm (nI (t + 1) - 1).toNatClampNeg / 2 = nI (m / 2) := by
    rw [nI_pred, nI_clamp (by omega), hm]
    exact pr_h m hm6
  refine ⟨?_, by decide, ?_⟩
  · rw [nI_pred]
    exact pk_in t 4 ht
  · rw [e]
    exact h
theorem pr_xpush (P : SX → Prop) {t d : Nat} {v r : Int32} (ht : t < 4) (hd : xfd t = nI d) (hd4 : d < 4) (hr : rl_b r) (h : P (xlim, xpc, xnd, xwc, xit, nI (t + 1), xwt, xan, xlp, xpo, xpb, xwd, xwk, xnk, xco, xcb, xml, xme, xro, xow, xol, xla, xsh, xoe, xoh, xsr, xss, xse, xms, xfm, xfa, upd xfd t (nI (d + 1)), upd xcv (6 * t + (d + 2)) v, upd xcr (6 * t + (d + 2)) r)) : wpX_push P (xlim, xpc, xnd, xwc, xit, nI (t + 1), xwt, xan, xlp, xpo, xpb, xwd, xwk, xnk, xco, xcb, xml, xme, xro, xow, xol, xla, xsh, xoe, xoh, xsr, xss, xse, xms, xfm, xfa, xfd, xcv, xcr) v r := by
  have e0 : (nI t).toNatClampNeg = t := nI_clamp (by omega)
  have e1 : (6 : Int32) * nI t + 2 + xfd (nI t).toNatClampNeg = nI (6 * t + (d + 2)) := by rw [e0, hd, pr_6]
  have e2 : (nI (6 * t + (d + 2))).toNatClampNeg = 6 * t + (d + 2) := nI_clamp (by omega)
  refine nm_r (nI_pred t) ⟨pk_in t 4 ht, nm_r e1 ⟨vp_in_nI (by omega) (by omega), nm_r (by rw [e2]) ⟨vp_in_nI (by omega) (by omega), nm_r (by rw [e2, rl_b_n hr]) ⟨pk_in t 4 ht, pk_in t 4 ht, nm_r (by rw [e0, hd, nI_1]) h⟩⟩⟩⟩
theorem pr_xpop (P : Int32 → SX → Prop) {t d : Nat} (ht : t < 4) (hd : xfd t = nI (d + 1)) (hd4 : d < 4) (h : P (xcv (6 * t + (d + 2))) (xlim, xpc, xnd, xwc, xit, nI (t + 1), xwt, xan, xlp, xpo, xpb, xwd, xwk, xnk, xco, xcb, xml, xme, xro, xow, xol, xla, xsh, xoe, xoh, xsr, xss, xse, xms, xfm, xfa, upd xfd t (nI d), xcv, xcr)) : wpX_pop P (xlim, xpc, xnd, xwc, xit, nI (t + 1), xwt, xan, xlp, xpo, xpb, xwd, xwk, xnk, xco, xcb, xml, xme, xro, xow, xol, xla, xsh, xoe, xoh, xsr, xss, xse, xms, xfm, xfa, xfd, xcv, xcr) := by
  have e0 : (nI t).toNatClampNeg = t := nI_clamp (by omega)
  refine nm_r (nI_pred t) ⟨pk_in t 4 ht, pk_in t 4 ht, nm_r (e' := upd xfd t (nI d)) (by rw [e0, hd, nI_pred]) ⟨pk_in t 4 ht, ?_⟩⟩
  rw [e0, pk_us, pr_6, nI_clamp (by omega)]
  exact ⟨vp_in_nI (by omega) (by omega), h⟩
theorem pr_yentry (P : Int32 → Prop) {t d j : Nat} (ht : t < 4) (hd : ydp t = nI d) (hd4 : d ≤ 4) (hjd : j < d) (h : P (ypl (8 * t + (d + 1 - j)))) : wpY_entry P (ylim, ywa, ysk, ylo, nI (t + 1), ysp, yaw, yan, ywh, you, ymd, ygd, yop, yops, ybs, ysz, yex, yst, yow, yle, yel, yla, ysh, yro, yos, yoe, yoh, yor, yrw, ynx, ydp, ypl, ykd, ymt, ytd, yht) (nI j) := by
  have e0 : (nI (t + 1) - 1) = nI t := nI_pred t
  have e1 : (8 : Int32) * (nI (t + 1) - 1) + 1 + ydp (nI (t + 1) - 1).toNatClampNeg - nI j = nI (8 * t + (d + 1 - j)) := by
    rw [e0, nI_clamp (by omega), hd, pr_81, pk_sub (by omega)]
    exact congrArg nI (by omega)
  refine ⟨by rw [e0]; exact pk_in t 4 ht, ?_⟩
  rw [e1, nI_clamp (by omega)]
  exact ⟨vp_in_nI (by omega) (by omega), h⟩
theorem pr_app (P : Int32 → Prop) {t m : Nat} (ht : t < 4) (hm : yrw t = nI m) (hm6 : m < 6) (h : P (nI (m / 2))) : wpY_applet P (ylim, ywa, ysk, ylo, nI (t + 1), ysp, yaw, yan, ywh, you, ymd, ygd, yop, yops, ybs, ysz, yex, yst, yow, yle, yel, yla, ysh, yro, yos, yoe, yoh, yor, yrw, ynx, ydp, ypl, ykd, ymt, ytd, yht) := by
  have e : yrw (nI (t + 1) - 1).toNatClampNeg / 2 = nI (m / 2) := by
    rw [nI_pred, nI_clamp (by omega), hm]
    exact pr_h m hm6
  refine ⟨?_, by decide, ?_⟩
  · rw [nI_pred]
    exact pk_in t 4 ht
  · rw [e]
    exact h
theorem pr_b012 : ∀ c, c < 3 → vp_nar .byte (nI c).toInt8.toInt32 = nI c := by
  intro c hc
  obtain rfl | rfl | rfl : c = 0 ∨ c = 1 ∨ c = 2 := by omega
  all_goals (rw [vp_nar_byte]; decide)
theorem pr_b012' : ∀ c, c < 3 → vp_nar .byte (nI c) = nI c := by
  intro c hc
  obtain rfl | rfl | rfl : c = 0 ∨ c = 1 ∨ c = 2 := by omega
  all_goals (rw [vp_nar_byte]; decide)
theorem pr_ypush (P : SY → Prop) {t d c : Nat} {v : Int32} (ht : t < 4) (hd : ydp t = nI d) (hd4 : d < 4) (hc : c < 3) (h : P (ylim, ywa, ysk, ylo, nI (t + 1), ysp, yaw, yan, ywh, you, ymd, ygd, yop, yops, ybs, ysz, yex, yst, yow, yle, yel, yla, ysh, yro, yos, yoe, yoh, yor, yrw, ynx, upd ydp t (nI (d + 1)), upd ypl (8 * t + (d + 2)) v, upd ykd (8 * t + (d + 2)) (nI c), ymt, ytd, yht)) : wpY_push P (ylim, ywa, ysk, ylo, nI (t + 1), ysp, yaw, yan, ywh, you, ymd, ygd, yop, yops, ybs, ysz, yex, yst, yow, yle, yel, yla, ysh, yro, yos, yoe, yoh, yor, yrw, ynx, ydp, ypl, ykd, ymt, ytd, yht) (nI c) v := by
  have e0 : (nI t).toNatClampNeg = t := nI_clamp (by omega)
  have e1 : (8 : Int32) * nI t + 2 + ydp (nI t).toNatClampNeg = nI (8 * t + (d + 2)) := by rw [e0, hd, pr_8]
  have e2 : (nI (8 * t + (d + 2))).toNatClampNeg = 8 * t + (d + 2) := nI_clamp (by omega)
  refine nm_r (nI_pred t) ⟨pk_in t 4 ht, pk_in t 4 ht, nm_r (by rw [e0, hd, nI_1]) (nm_r e1 ⟨vp_in_nI (by omega) (by omega), nm_r (by rw [e2, pr_b012 c hc]) ⟨vp_in_nI (by omega) (by omega), nm_r (by rw [e2]) h⟩⟩)⟩
theorem pr_drop (P : SY → Prop) {t d j : Nat} (ht : t < 4) (hd : ydp t = nI d) (hd4 : d ≤ 4) (hjd : j ≤ d) (h : P (ylim, ywa, ysk, ylo, nI (t + 1), ysp, yaw, yan, ywh, you, ymd, ygd, yop, yops, ybs, ysz, yex, yst, yow, yle, yel, yla, ysh, yro, yos, yoe, yoh, yor, yrw, ynx, upd ydp t (nI (d - j)), ypl, ykd, ymt, ytd, yht)) : wpY_drop P (ylim, ywa, ysk, ylo, nI (t + 1), ysp, yaw, yan, ywh, you, ymd, ygd, yop, yops, ybs, ysz, yex, yst, yow, yle, yel, yla, ysh, yro, yos, yoe, yoh, yor, yrw, ynx, ydp, ypl, ykd, ymt, ytd, yht) (nI j) := by
  have e0 : (nI (t + 1) - 1).toNatClampNeg = t := by rw [nI_pred]; exact nI_clamp (by omega)
  have i0 : vp_in (nI (t + 1) - 1) 4 := by rw [nI_pred]; exact pk_in t 4 ht
  exact ⟨i0, i0, nm_r (by rw [e0, hd, pk_sub hjd]) h⟩
theorem pr_on (P : SY → Prop) {t k : Nat} (ht : t < 4) (hk : ynx t = nI k) (h : P (ylim, ywa, ysk, ylo, nI (t + 1), ysp, yaw, yan, ywh, you, ymd, ygd, yop, yops, ybs, ysz, yex, yst, yow, yle, yel, yla, ysh, yro, yos, yoe, yoh, yor, yrw, upd ynx t (nI (k + 1)), ydp, ypl, ykd, ymt, ytd, yht)) : wpY_on P (ylim, ywa, ysk, ylo, nI (t + 1), ysp, yaw, yan, ywh, you, ymd, ygd, yop, yops, ybs, ysz, yex, yst, yow, yle, yel, yla, ysh, yro, yos, yoe, yoh, yor, yrw, ynx, ydp, ypl, ykd, ymt, ytd, yht) := by
  have e0 : (nI (t + 1) - 1).toNatClampNeg = t := by rw [nI_pred]; exact nI_clamp (by omega)
  have i0 : vp_in (nI (t + 1) - 1) 4 := by rw [nI_pred]; exact pk_in t 4 ht
  exact ⟨i0, i0, nm_r (by rw [e0, hk, nI_1]) h⟩
theorem pr_enter (P : SX → Prop) {t m : Nat} {v : Int32} (ht : t < 4) (h : P (xlim, xpc, xnd, xwc, xit, nI (t + 1), xwt, xan, xlp, xpo, xpb, xwd, xwk, xnk, xco, xcb, xml, xme, xro, xow, xol, xla, xsh, xoe, xoh, xsr, xss, xse, xms, upd xfm t (nI m), upd xfa t 0, upd xfd t 0, upd xcv (6 * t) v, upd (upd xcr (6 * t) 0) (6 * t + 1) 0)) : wpX_enter P (xlim, xpc, xnd, xwc, xit, nI t, xwt, xan, xlp, xpo, xpb, xwd, xwk, xnk, xco, xcb, xml, xme, xro, xow, xol, xla, xsh, xoe, xoh, xsr, xss, xse, xms, xfm, xfa, xfd, xcv, xcr) (nI m) v := by
  have e0 : (nI t).toNatClampNeg = t := nI_clamp (by omega)
  have e6 : (6 : Int32) * nI t = nI (6 * t) := pk_mul 6 t
  have e2 : (nI (6 * t)).toNatClampNeg = 6 * t := nI_clamp (by omega)
  have e3 : (nI (6 * t) + 1).toNatClampNeg = 6 * t + 1 := by rw [nI_1]; exact nI_clamp (by omega)
  have b0 : vp_nar .boolean 0 = 0 := by decide
  exact nm_r e6 ⟨pk_in t 4 ht, nm_r (by rw [e0]) ⟨pk_in t 4 ht, nm_r (by rw [e0]) ⟨pk_in t 4 ht, nm_r (by rw [e0]) ⟨vp_in_nI (by omega) (by omega), nm_r (by rw [e2]) ⟨vp_in_nI (by omega) (by omega), nm_r (by rw [e2, b0]) ⟨pk_in (6 * t + 1) 24 (by omega) (nI_1 _), nm_r (by rw [e3, b0]) (nm_r (nI_1 t) h)⟩⟩⟩⟩⟩⟩
theorem pr_start (P : SY → Prop) {t m : Nat} {v : Int32} (ht : t < 4) (hv : v.toInt16.toInt32 = v) (h : P (ylim, ywa, ysk, ylo, nI (t + 1), ysp, yaw, yan, ywh, you, ymd, ygd, yop, yops, ybs, ysz, yex, yst, yow, yle, yel, yla, ysh, yro, yos, yoe, yoh, yor, upd yrw t (nI m), upd ynx t 0, upd ydp t 0, upd ypl (8 * t) v, upd (upd ykd (8 * t) 1) (8 * t + 1) 0, ymt, ytd, yht)) : wpY_start P (ylim, ywa, ysk, ylo, nI t, ysp, yaw, yan, ywh, you, ymd, ygd, yop, yops, ybs, ysz, yex, yst, yow, yle, yel, yla, ysh, yro, yos, yoe, yoh, yor, yrw, ynx, ydp, ypl, ykd, ymt, ytd, yht) (nI m) v := by
  have e0 : (nI t).toNatClampNeg = t := nI_clamp (by omega)
  have e6 : (8 : Int32) * nI t = nI (8 * t) := pk_mul 8 t
  have e2 : (nI (8 * t)).toNatClampNeg = 8 * t := nI_clamp (by omega)
  have e3 : (nI (8 * t) + 1).toNatClampNeg = 8 * t + 1 := by rw [nI_1]; exact nI_clamp (by omega)
  have b0 : vp_nar .byte 0 = 0 := pr_b012' 0 (by decide)
  have b1 : vp_nar .byte 1 = 1 := pr_b012' 1 (by decide)
  exact ⟨pk_in t 4 ht, nm_r (by rw [e0]) ⟨pk_in t 4 ht, nm_r (by rw [e0]) ⟨pk_in t 4 ht, nm_r (by rw [e0]) (nm_r e6 ⟨vp_in_nI (by omega) (by omega), nm_r (by rw [e2, b1]) ⟨vp_in_nI (by omega) (by omega), nm_r (by rw [e2, hv]) ⟨pk_in (8 * t + 1) 32 (by omega) (nI_1 _), nm_r (by rw [e3, b0]) (nm_r (nI_1 t) h)⟩⟩⟩)⟩⟩⟩
end PR
