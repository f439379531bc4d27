/-! A RUN: all its steps -/
section RU
variable {xlim xpc xnd xwc xit xfc xwt xan xlp : Int32}
variable {xpo xpb xwd xwk xnk xco xcb xml xme xro xow xol xla xsh xoe xoh xsr xss xse xms xfm xfa xfd xcv xcr : Nat → Int32}
variable {ylim ywa ysk ylo yrn ysp yaw yan ywh you ygd yop : Int32}
variable {ymd : Int64}
variable {yops ybs ysz yex yow yle yel yla ysh yro yoe yoh yor yrw ynx ydp ypl ykd ymt ytd yht : Nat → Int32}
variable {yst yos : Nat → Int64}
variable {B t m k d l s : Nat} {f : Nat → Nat}
theorem ru_b1 {b : Nat} {x : Int32} (hb : b = x.toNatClampNeg) (h : x = 0 ∨ x = 1) : b ≤ 1 ∧ x = nI b := by
  rcases h with e | e
  · rw [hb, e]
    exact ⟨by decide, by decide⟩
  · rw [hb, e]
    exact ⟨by decide, by decide⟩
theorem ru_b6 {b : Nat} {x : Int32} (hb : b = x.toNatClampNeg) (h : 0 ≤ x ∧ x < 6) : b < 6 ∧ x = nI b := by
  obtain ⟨j, hj, e⟩ := nI_of (x := x) (Int32.not_lt.mpr h.1)
  rw [e] at h
  have := (nI_ltI (b := 6) hj (by decide)).mp h.2
  rw [hb, e, nI_clamp hj]
  exact ⟨this, rfl⟩
theorem ru_step (h : rr B t m k d f (nI l, xpc, xnd, xwc, xit, nI (t + 1), xwt, xan, xlp, xpo, xpb, xwd, xwk, xnk, xco, xcb, xml, xme, xro, xow, xol, xla, xsh, xoe, xoh, xsr, xss, xse, xms, xfm, xfa, xfd, xcv, xcr) (nI l, ywa, ysk, ylo, nI (t + 1), nI s, yaw, yan, ywh, you, ymd, ygd, yop, yops, ybs, ysz, yex, yst, yow, yle, yel, yla, ysh, yro, yos, yoe, yoh, yor, yrw, ynx, ydp, ypl, ykd, ymt, ytd, yht)) (hs : ¬ nI s = nI l) (hB : B < 2 ^ 30) : so B l s (nI l, xpc, xnd, xwc, xit, nI (t + 1), xwt, xan, xlp, xpo, xpb, xwd, xwk, xnk, xco, xcb, xml, xme, xro, xow, xol, xla, xsh, xoe, xoh, xsr, xss, xse, xms, xfm, xfa, xfd, xcv, xcr) (nI l, ywa, ysk, ylo, nI (t + 1), nI s, yaw, yan, ywh, you, ymd, ygd, yop, yops, ybs, ysz, yex, yst, yow, yle, yel, yla, ysh, yro, yos, yoe, yoh, yor, yrw, ynx, ydp, ypl, ykd, ymt, ytd, yht) := by
  have h2 := h
  obtain ⟨ht, _, _, hya, hL, hP, hM, hO, hT, hW, hlo, htp⟩ := h2
  obtain ⟨o, b, n, ho, hn, hkn, hb, H, S, hfb, hos, hju, hgo⟩ := so_at ht hM htp
  rcases ck_25 ho with rfl | rfl | rfl | rfl | rfl | rfl | rfl | rfl | rfl | rfl | rfl | rfl | rfl | rfl | rfl | rfl | rfl | rfl | rfl | rfl | rfl | rfl | rfl | rfl | rfl
  · exact st_0 h hs H S hfb hos (hgo (by decide))
  · obtain ⟨b1, b2⟩ := ru_b1 hb (hfb.2.1 (by decide))
    clear hb
    obtain rfl | rfl : b = 0 ∨ b = 1 := by omega
    · exact st_1_0 h hs H S hfb hos (hgo (by decide)) b2
    · exact st_1_1 h hs H S hfb hos (hgo (by decide)) b2
  · obtain ⟨b1, b2⟩ := ru_b1 hb (hfb.2.1 (by decide))
    clear hb
    obtain rfl | rfl : b = 0 ∨ b = 1 := by omega
    · exact st_2_0 h hs H S hfb hos (hgo (by decide)) b2
    · exact st_2_1 h hs H S hfb hos (hgo (by decide)) b2
  · exact st_3 h hs H S hfb hos (hgo (by decide))
  · exact st_4 h hs H S hfb hos (hgo (by decide))
  · exact st_5 h hs H S hfb hos (hgo (by decide))
  · exact st_6 h hs H S hfb hos (hgo (by decide))
  · exact st_7 h hs H S hfb (hju (by decide))
  · exact st_8 h hs H S hfb hos (hgo (by decide)) (hju (by decide))
  · exact st_9 h hs H S hfb hos (hgo (by decide)) (ru_b1 hb (hfb.2.1 (by decide)))
  · exact st_10 h hs H S hfb hos (hgo (by decide)) (ru_b1 hb (hfb.2.1 (by decide)))
  · exact st_11 h hs H S hfb hos (hgo (by decide)) hB (hfb.2.1 (by decide))
  · exact st_12 h hs H S hfb hos (hgo (by decide))
  · exact st_13 h hs H S hfb hos (hgo (by decide))
  · exact st_14 h hs H S hfb hos (hgo (by decide))
  · exact st_15 h hs H S hfb hos (hgo (by decide))
  · exact st_16 h hs H S hfb hos (hgo (by decide)) (ru_b6 hb (hfb.2.2.2 (by decide)))
  · exact st_17 h hs H S hfb hos (hgo (by decide))
  · exact st_18 h hs H S hfb hos (hgo (by decide)) (ru_b6 hb (hfb.2.2.2 (by decide)))
  · cases t with
    | zero => exact st_19e h hs H S hos
    | succ t => exact st_19 h hs H S hos
  · exact st_20 h hs H S hfb hos (hgo (by decide))
  · exact st_21 h hs H S hfb hos (hgo (by decide))
  · exact st_22 h hs H S hfb hos (hgo (by decide))
  · exact st_23 h hs H S hfb hos (hgo (by decide))
  · exact st_24 h hs H S hfb hos (hgo (by decide))
/-- the loops, with the state as one -/
def ru_X (P : Int32 → SX → Prop) (n : Nat) (a c : Int32) (u : SX) : Prop := match u with | (xlim, xpc, xnd, xwc, xit, xfc, xwt, xan, xlp, xpo, xpb, xwd, xwk, xnk, xco, xcb, xml, xme, xro, xow, xol, xla, xsh, xoe, xoh, xsr, xss, xse, xms, xfm, xfa, xfd, xcv, xcr) => wX_run_43 P n a c xlim xpc xnd xwc xit xfc xwt xan xlp xpo xpb xwd xwk xnk xco xcb xml xme xro xow xol xla xsh xoe xoh xsr xss xse xms xfm xfa xfd xcv xcr
def ru_Y (Q : Int32 → SY → Prop) (n : Nat) (c : Int32) (v : SY) : Prop := match v with | (ylim, ywa, ysk, ylo, yrn, ysp, yaw, yan, ywh, you, ymd, ygd, yop, yops, ybs, ysz, yex, yst, yow, yle, yel, yla, ysh, yro, yos, yoe, yoh, yor, yrw, ynx, ydp, ypl, ykd, ymt, ytd, yht) => wY_run_68 Q n c ylim ywa ysk ylo yrn ysp yaw yan ywh you ymd ygd yop yops ybs ysz yex yst yow yle yel yla ysh yro yos yoe yoh yor yrw ynx ydp ypl ykd ymt ytd yht
/-- the component's loop, once the run is over -/
theorem ru_xend (P : Int32 → SX → Prop) {r c : Int32} {u' u'' : SX} {n : Nat} (hr : ¬ r = 0 ∨ (r = 0 ∧ so_fc u' = 0)) (hf : ∀ P : SX → Prop, P u'' → wpX_finish P u' r) (h : P r u'') : ru_X P (n + 1) r c u' := by
  obtain ⟨xlim, xpc, xnd, xwc, xit, xfc, xwt, xan, xlp, xpo, xpb, xwd, xwk, xnk, xco, xcb, xml, xme, xro, xow, xol, xla, xsh, xoe, xoh, xsr, xss, xse, xms, xfm, xfa, xfd, xcv, xcr⟩ := u'
  obtain ⟨xlim1, xpc1, xnd1, xwc1, xit1, xfc1, xwt1, xan1, xlp1, xpo1, xpb1, xwd1, xwk1, xnk1, xco1, xcb1, xml1, xme1, xro1, xow1, xol1, xla1, xsh1, xoe1, xoh1, xsr1, xss1, xse1, xms1, xfm1, xfa1, xfd1, xcv1, xcr1⟩ := u''
  have k91 : wX_run_91 P r xlim xpc xnd xwc xit xfc xwt xan xlp xpo xpb xwd xwk xnk xco xcb xml xme xro xow xol xla xsh xoe xoh xsr xss xse xms xfm xfa xfd xcv xcr := by
    unfold wX_run_91
    exact hf _ h
  have k76 : wX_run_76 P r xlim xpc xnd xwc xit xfc xwt xan xlp xpo xpb xwd xwk xnk xco xcb xml xme xro xow xol xla xsh xoe xoh xsr xss xse xms xfm xfa xfd xcv xcr := by
    refine br_c (fun z => ?_) (fun z => k91)
    have hfc : xfc = 0 := (hr.resolve_left (fun q => q z)).2
    exact br_t (by rw [hfc]; decide) k91
  refine br_c (fun _ => k76) (fun _ => br_c (fun _ => k76) (fun y => br_c (fun z => ?_) (fun _ => k76)))
  have hfc : xfc = 0 := (hr.resolve_left (fun q => q z)).2
  exact absurd (by rw [hfc]; decide) y
/-- the reference's loop, once the run is over -/
theorem ru_yend (Q : Int32 → SY → Prop) {r c : Int32} {u : SX} {v : SY} {n : Nat} (h : so_fi r B u v) (hq : Q r v) : ru_Y Q (n + 1) c v := by
  obtain ⟨xlim1, xpc1, xnd1, xwc1, xit1, xfc1, xwt1, xan1, xlp1, xpo1, xpb1, xwd1, xwk1, xnk1, xco1, xcb1, xml1, xme1, xro1, xow1, xol1, xla1, xsh1, xoe1, xoh1, xsr1, xss1, xse1, xms1, xfm1, xfa1, xfd1, xcv1, xcr1⟩ := u
  obtain ⟨ylim1, ywa1, ysk1, ylo1, yrn1, ysp1, yaw1, yan1, ywh1, you1, ymd1, ygd1, yop1, yops1, ybs1, ysz1, yex1, yst1, yow1, yle1, yel1, yla1, ysh1, yro1, yos1, yoe1, yoh1, yor1, yrw1, ynx1, ydp1, ypl1, ykd1, ymt1, ytd1, yht1⟩ := v
  obtain ⟨h1, h2, _⟩ := h
  subst h1
  subst h2
  exact br_c (fun _ => hq) (fun _ => br_t (by decide) hq)
theorem ru_T {r : Int32} {B B' : Nat} {u : SX} {v : SY} (h : so_fi r B u v) (hB : B ≤ B') : so_fi r B' u v := by
  obtain ⟨xlim1, xpc1, xnd1, xwc1, xit1, xfc1, xwt1, xan1, xlp1, xpo1, xpb1, xwd1, xwk1, xnk1, xco1, xcb1, xml1, xme1, xro1, xow1, xol1, xla1, xsh1, xoe1, xoh1, xsr1, xss1, xse1, xms1, xfm1, xfa1, xfd1, xcv1, xcr1⟩ := u
  obtain ⟨ylim1, ywa1, ysk1, ylo1, yrn1, ysp1, yaw1, yan1, ywh1, you1, ymd1, ygd1, yop1, yops1, ybs1, ysz1, yex1, yst1, yow1, yle1, yel1, yla1, ysh1, yro1, yos1, yoe1, yoh1, yor1, yrw1, ynx1, ydp1, ypl1, ykd1, ymt1, ytd1, yht1⟩ := v
  obtain ⟨h1, h2, h3, h4, h5, h6, h7, h8, h9, h10, h11, h12⟩ := h
  exact ⟨h1, h2, h3, h4, h5, h6, h7, h8, re_T_up h9 hB, h10, h11, h12⟩
theorem ru_loop {l : Nat} (hl : l ≤ 250) : ∀ e s B t m k d f (u : SX) (v : SY), s + e = l → B + e < 2 ^ 30 → rr B t m k d f u v → so_xl u = nI l → so_yl v = nI l → so_sp v = nI s → ∃ r u'' v'', (∀ (P : Int32 → SX → Prop) n, e + 1 < n → P r u'' → ru_X P n 0 (nI s) u) ∧ (∀ (Q : Int32 → SY → Prop) n, e + 1 < n → Q r v'' → ru_Y Q n (nI s) v) ∧ so_fi r (B + e + 1) u'' v'' := by
  intro e
  induction e with
  | zero =>
    intro s B t m k d f u v hs hB h hx hy hsp
    obtain ⟨xlim, xpc, xnd, xwc, xit, xfc, xwt, xan, xlp, xpo, xpb, xwd, xwk, xnk, xco, xcb, xml, xme, xro, xow, xol, xla, xsh, xoe, xoh, xsr, xss, xse, xms, xfm, xfa, xfd, xcv, xcr⟩ := u
    obtain ⟨ylim, ywa, ysk, ylo, yrn, ysp, yaw, yan, ywh, you, ymd, ygd, yop, yops, ybs, ysz, yex, yst, yow, yle, yel, yla, ysh, yro, yos, yoe, yoh, yor, yrw, ynx, ydp, ypl, ykd, ymt, ytd, yht⟩ := v
    have hx' : xlim = nI l := hx
    have hy' : ylim = nI l := hy
    have hsp' : ysp = nI s := hsp
    obtain rfl : s = l := by omega
    subst hx'
    subst hy'
    subst hsp'
    obtain ⟨u'', v'', g1, g2, g3⟩ := so_fail (r := 1) (by decide) h
    obtain ⟨ht, hfc, hrn, _⟩ := h
    have hfc' : ¬ xfc ≤ 0 := by rw [hfc]; exact nI_nle (by omega) (by omega)
    have hrn' : ¬ yrn ≤ 0 := by rw [hrn]; exact nI_nle (by omega) (by omega)
    refine ⟨1, u'', v'', fun P n hn hp => ?_, fun Q n hn hq => ?_, g3⟩
    · obtain ⟨n, rfl⟩ : ∃ q, n = q + 1 := ⟨n - 1, by omega⟩
      obtain ⟨xlim1, xpc1, xnd1, xwc1, xit1, xfc1, xwt1, xan1, xlp1, xpo1, xpb1, xwd1, xwk1, xnk1, xco1, xcb1, xml1, xme1, xro1, xow1, xol1, xla1, xsh1, xoe1, xoh1, xsr1, xss1, xse1, xms1, xfm1, xfa1, xfd1, xcv1, xcr1⟩ := u''
      refine br_t (nI_le (Nat.le_refl _) (by omega)) (br_t rfl (br_f hfc' ?_))
      unfold wX_run_91
      exact g1 _ hp
    · obtain ⟨n, rfl⟩ : ∃ q, n = q + 2 := ⟨n - 2, by omega⟩
      have hq' := ru_yend (c := nI s + 1) (n := n) Q g3 hq
      obtain ⟨ylim1, ywa1, ysk1, ylo1, yrn1, ysp1, yaw1, yan1, ywh1, you1, ymd1, ygd1, yop1, yops1, ybs1, ysz1, yex1, yst1, yow1, yle1, yel1, yla1, ysh1, yro1, yos1, yoe1, yoh1, yor1, yrw1, ynx1, ydp1, ypl1, ykd1, ymt1, ytd1, yht1⟩ := v''
      have i0 : (nI (t + 1) - 1) = nI t := nI_pred t
      subst hrn
      refine br_f (nI_ge (b := 300) (by omega) (by decide)) (br_f hrn' (nm_r (nI_pred t) ⟨pk_in t 4 ht, pk_in t 4 ht, nm_e (br_t rfl (g2 _ (nm_e hq')))⟩))
  | succ e ih =>
    intro s B t m k d f u v hs hB h hx hy hsp
    obtain ⟨xlim, xpc, xnd, xwc, xit, xfc, xwt, xan, xlp, xpo, xpb, xwd, xwk, xnk, xco, xcb, xml, xme, xro, xow, xol, xla, xsh, xoe, xoh, xsr, xss, xse, xms, xfm, xfa, xfd, xcv, xcr⟩ := u
    obtain ⟨ylim, ywa, ysk, ylo, yrn, ysp, yaw, yan, ywh, you, ymd, ygd, yop, yops, ybs, ysz, yex, yst, yow, yle, yel, yla, ysh, yro, yos, yoe, yoh, yor, yrw, ynx, ydp, ypl, ykd, ymt, ytd, yht⟩ := v
    have hx' : xlim = nI l := hx
    have hy' : ylim = nI l := hy
    have hsp' : ysp = nI s := hsp
    have hfc : xfc = nI (t + 1) := h.2.1
    have hrn : yrn = nI (t + 1) := h.2.2.1
    subst hx'
    subst hy'
    subst hsp'
    subst hfc
    subst hrn
    have hne : ¬ nI s = nI l := fun q => by
      have := (nI_eq (by omega) (by omega)).mp q
      omega
    have k1 : ¬ nI l ≤ nI s := nI_ge (by omega) (by omega)
    have k2 : ¬ nI (t + 1) ≤ 0 := nI_nle (by omega) (by have := h.1; omega)
    have k3 : ¬ (300 : Int32) ≤ nI s := nI_ge (b := 300) (by omega) (by decide)
    rcases ru_step h hne (by omega) with ⟨u', v', t', m', k', d', f', g1, g2, g3, g4, g5, g6⟩ | ⟨r, u', u'', v', g1, g2, g3, g4, g5, g6⟩
    · obtain ⟨r, u'', v'', i1, i2, i3⟩ := ih (s + 1) (B + 1) t' m' k' d' f' u' v' (by omega) (by omega) g3 g4 g5 g6
      refine ⟨r, u'', v'', fun P n hn hp => ?_, fun Q n hn hq => ?_, ru_T i3 (by omega)⟩
      · obtain ⟨n, rfl⟩ : ∃ q, n = q + 1 := ⟨n - 1, by omega⟩
        have hp' := i1 P n (by omega) hp
        obtain ⟨xlim1, xpc1, xnd1, xwc1, xit1, xfc1, xwt1, xan1, xlp1, xpo1, xpb1, xwd1, xwk1, xnk1, xco1, xcb1, xml1, xme1, xro1, xow1, xol1, xla1, xsh1, xoe1, xoh1, xsr1, xss1, xse1, xms1, xfm1, xfa1, xfd1, xcv1, xcr1⟩ := u'
        exact br_f k1 (br_f k2 (br_t rfl (g1 _ (nm_r (nI_1 s) hp'))))
      · obtain ⟨n, rfl⟩ : ∃ q, n = q + 1 := ⟨n - 1, by omega⟩
        have hq' := i2 Q n (by omega) hq
        obtain ⟨ylim1, ywa1, ysk1, ylo1, yrn1, ysp1, yaw1, yan1, ywh1, you1, ymd1, ygd1, yop1, yops1, ybs1, ysz1, yex1, yst1, yow1, yle1, yel1, yla1, ysh1, yro1, yos1, yoe1, yoh1, yor1, yrw1, ynx1, ydp1, ypl1, ykd1, ymt1, ytd1, yht1⟩ := v'
        exact br_f k3 (br_f k2 (g2 _ (nm_r (nI_1 s) hq')))
    · refine ⟨r, u'', v', fun P n hn hp => ?_, fun Q n hn hq => ?_, ru_T g6 (by omega)⟩
      · obtain ⟨n, rfl⟩ : ∃ q, n = q + 2 := ⟨n - 2, by omega⟩
        have hp' := ru_xend (c := nI (s + 1)) (n := n) P g2 g4 hp
        obtain ⟨xlim1, xpc1, xnd1, xwc1, xit1, xfc1, xwt1, xan1, xlp1, xpo1, xpb1, xwd1, xwk1, xnk1, xco1, xcb1, xml1, xme1, xro1, xow1, xol1, xla1, xsh1, xoe1, xoh1, xsr1, xss1, xse1, xms1, xfm1, xfa1, xfd1, xcv1, xcr1⟩ := u'
        exact br_f k1 (br_f k2 (br_t rfl (g1 _ (nm_r (nI_1 s) hp'))))
      · obtain ⟨n, rfl⟩ : ∃ q, n = q + 2 := ⟨n - 2, by omega⟩
        have hq' := ru_yend (c := nI (s + 1)) (n := n) Q g6 hq
        obtain ⟨ylim1, ywa1, ysk1, ylo1, yrn1, ysp1, yaw1, yan1, ywh1, you1, ymd1, ygd1, yop1, yops1, ybs1, ysz1, yex1, yst1, yow1, yle1, yel1, yla1, ysh1, yro1, yos1, yoe1, yoh1, yor1, yrw1, ynx1, ydp1, ypl1, ykd1, ymt1, ytd1, yht1⟩ := v'
        exact br_f k3 (br_f k2 (g5 _ (nm_r (nI_1 s) hq')))
end RU
