/-! THE STEPS: NEW, CALL, RETURN -/
section SN
variable {xlim xpc xnd xwc xit xfc xwt xan xlp : Int32}
variable {xpo xpb xwd xwk xnk xco xcb xml xme xro xow xol xla xsh xoe xoh xsr xss xse xms xfm xfa xfd xcv xcr : Nat → Int32}
variable {ylim ywa ysk ylo yrn ysp yaw yan ywh you ygd yop : Int32}
variable {ymd : Int64}
variable {yops ybs ysz yex yow yle yel yla ysh yro yoe yoh yor yrw ynx ydp ypl ykd ymt ytd yht : Nat → Int32}
variable {yst yos : Nat → Int64}
variable {B t m k d l s n b : Nat} {f : Nat → Nat} {Bv : Int32}
/-- the frames, for counting what is held -/
def sn_fr (T : Nat) (fd cv cr dp pl kd : Nat → Int32) : Prop := ∀ g, g < T → ∃ d f, d ≤ 4 ∧ fd g = nI d ∧ dp g = nI d ∧ rl_cs g d f cv cr pl kd
theorem sn_frames (hlo : rl_lo yops ybs ysz t xfm xfa xfd xcv xcr yrw ynx ydp ypl ykd) (htp : rl_tp yops ybs ysz t m k d f xfm xfa xfd xcv xcr yrw ynx ydp ypl ykd) : sn_fr (t + 1) xfd xcv xcr ydp ypl ykd := by
  intro g hg
  by_cases e : g = t
  · subst e
    obtain ⟨_, _, hd4, _, _, _, _, _, hfd, hdp, _, hcs⟩ := htp
    exact ⟨d, f, hd4, hfd, hdp, hcs⟩
  · obtain ⟨m', k', d', f', _, _, a3, _, _, _, _, _, a9, a10, _, a12⟩ := hlo g (by omega)
    exact ⟨d', f', by omega, a9, a10, a12⟩
theorem sn_rf {x y : Int32} {o : Nat} (h : rl_rf x y) (ho : o < 8) : x = nI (o + 1) ↔ y = nI o := by
  rcases rl_rf_c h with ⟨rfl, rfl⟩ | ⟨p, hp, rfl, rfl⟩
  · refine ⟨fun z => ?_, fun z => ?_⟩
    · exact absurd z.symm (nI_ne0 (by omega) (by omega))
    · have := nI_pos (n := o) (by omega)
      rw [← z] at this
      exact absurd (by decide) this
  · rw [nI_eq (by omega) (by omega), nI_eq (by omega) (by omega)]
    omega
theorem sn_ce {c o : Nat} {xv xr yv yk : Int32} (h : rl_ce c xv xr yv yk) (ho : o < 8) : (¬ xr = 0 ∧ xv = nI (o + 1)) ↔ (yk = 2 ∧ yv = nI o) := by
  rcases h with ⟨_, h1, h2⟩ | ⟨_, h1, h2, _⟩ | ⟨_, h1, h2, h3⟩
  · rw [h1, h2]
    exact ⟨fun z => absurd rfl z.1, fun z => absurd z.1 (by decide)⟩
  · rw [h1, h2]
    exact ⟨fun z => absurd rfl z.1, fun z => absurd z.1 (by decide)⟩
  · rw [h1, h2]
    exact ⟨fun z => ⟨rfl, (sn_rf h3 ho).mp z.2⟩, fun z => ⟨by decide, (sn_rf h3 ho).mpr z.2⟩⟩
theorem sn_ok {T g : Nat} (h : sn_fr T xfd xcv xcr ydp ypl ykd) (hg : g < T) : he_ok xfd xcr xcv g := by
  obtain ⟨d, f, a1, a2, a3, a4⟩ := h g hg
  refine ⟨d, a1, a2, fun j hj => ?_⟩
  rcases a4 j hj with ⟨_, h1, _⟩ | ⟨_, h1, _⟩ | ⟨_, h1, _, o, ho, e, _⟩
  · exact Or.inl h1
  · exact Or.inl h1
  · exact Or.inr ⟨by rw [h1]; decide, o, ho, e⟩
/-- held on one side, held on the other -/
theorem sn_iff {T o : Nat} (ho : o < 8) (hO : rl_O xro xow xol xla xsh xoe yro yow yle yla ysh yel) (hT : rl_T B xit xsr xss xse xms yop yor yoh yoe yst yos ymd) (hF : sn_fr T xfd xcv xcr ydp ypl ykd) :
    ((∃ r, r < 6 ∧ he_xr xit xro xsr r (o + 1)) ∨ ∃ g, g < T ∧ he_xf xfd xcr xcv g (o + 1)) ↔ he_Y yop yro yor ydp ykd ypl T o := by
  have hs : ¬ yop = 0 → ∀ r, r < 6 → rl_rf (xsr r) (yor r) := fun z => (hT.2.2.2 (hT.2.1.resolve_left z)).1
  have e1 := hT.1
  refine ⟨fun z => ?_, fun z => ?_⟩
  · rcases z with ⟨r, hr, q | ⟨q1, q2⟩⟩ | ⟨g, hg, d1, j, a1, a2, a3, a4⟩
    · exact Or.inl ⟨r, hr, Or.inl ((sn_rf (hO.1 r hr) ho).mp q)⟩
    · rw [e1] at q1
      exact Or.inl ⟨r, hr, Or.inr ⟨q1, (sn_rf (hs q1 r hr) ho).mp q2⟩⟩
    · obtain ⟨d2, f2, b1, b2, b3, b4⟩ := hF g hg
      rw [b2] at a2
      have e : d2 = d1 := (nI_eq (by omega) (by omega)).mp a2
      subst e
      exact Or.inr ⟨g, hg, d2, j, b1, b3, a3, (sn_ce (b4 j a3) ho).mp a4⟩
  · rcases z with ⟨r, hr, q | ⟨q1, q2⟩⟩ | ⟨g, hg, d1, j, a1, a2, a3, a4⟩
    · exact Or.inl ⟨r, hr, Or.inl ((sn_rf (hO.1 r hr) ho).mpr q)⟩
    · exact Or.inl ⟨r, hr, Or.inr ⟨by rw [e1]; exact q1, (sn_rf (hs q1 r hr) ho).mpr q2⟩⟩
    · obtain ⟨d2, f2, b1, b2, b3, b4⟩ := hF g hg
      rw [b3] at a2
      have e : d2 = d1 := (nI_eq (by omega) (by omega)).mp a2
      subst e
      exact Or.inr ⟨g, hg, d2, j, b1, b2, a3, (sn_ce (b4 j a3) ho).mpr a4⟩
theorem sn_sm {G : Nat → Nat} : ∀ n, (∀ i, i < n → G i ≤ 1) → ck_sm G n ≤ n ∧ ((∀ i, i < n → G i = 1) → ck_sm G n = n) ∧ (∀ q, q < n → G q = 0 → ck_sm G n < n)
  | 0, _ => ⟨Nat.le_refl 0, fun _ => rfl, fun q hq => absurd hq (Nat.not_lt_zero q)⟩
  | n + 1, h => by
    obtain ⟨a, b, c⟩ := sn_sm n (fun i hi => h i (by omega))
    have hn := h n (by omega)
    refine ⟨?_, fun z => ?_, fun q hq z => ?_⟩
    · show ck_sm G n + G n ≤ n + 1
      omega
    · show ck_sm G n + G n = n + 1
      rw [b (fun i hi => z i (by omega)), z n (by omega)]
    · show ck_sm G n + G n < n + 1
      by_cases e : q = n
      · subst e
        omega
      · have := c q (by omega) z
        omega
theorem sn_least {P : Nat → Prop} : ∀ n, (∀ i, i < n → P i) ∨ ∃ q, q < n ∧ (∀ i, i < q → P i) ∧ ¬ P q
  | 0 => Or.inl (fun i hi => absurd hi (Nat.not_lt_zero i))
  | n + 1 => by
    rcases sn_least (P := P) n with h | ⟨q, h1, h2, h3⟩
    · by_cases z : P n
      · refine Or.inl (fun i hi => ?_)
        by_cases e : i = n
        · rw [e]; exact z
        · exact h i (by omega)
      · exact Or.inr ⟨n, by omega, h, z⟩
    · exact Or.inr ⟨q, by omega, h2, h3⟩
theorem sn_newb (P : Int32 → SX → Prop) (ht : t < 4) (hd : xfd t = nI (d + 1)) (h4 : d < 4) (hb : xcv (6 * t + (d + 2)) < 1 ∨ ¬ xcv (6 * t + (d + 2)) ≤ 4) (h : P 4 (nI l, xpc, xnd, xwc, xit, nI (t + 1), xwt, xan, xlp, xpo, xpb, xwd, xwk, xnk, xco, xcb, xml, xme, xro, xow, xol, xla, xsh, xoe, xoh, xsr, xss, xse, xms, xfm, xfa, xfd, xcv, xcr)) : wpX_newFailure P (nI l, xpc, xnd, xwc, xit, nI (t + 1), xwt, xan, xlp, xpo, xpb, xwd, xwk, xnk, xco, xcb, xml, xme, xro, xow, xol, xla, xsh, xoe, xoh, xsr, xss, xse, xms, xfm, xfa, xfd, xcv, xcr) := by
  unfold wpX_newFailure
  refine pr_xentry _ (j := 1) ht hd (by omega) (by omega) (by omega) ?_
  have e : 6 * t + (d + 1 + 2 - 1) = 6 * t + (d + 2) := rfl
  rw [e]
  exact br_c (fun _ => h) (fun z => br_f (hb.resolve_left z) h)
theorem sn_newc (P : Int32 → SX → Prop) {c : Nat} {oh : Nat → Int32} (ht : t < 4) (hd : xfd t = nI (d + 1)) (h4 : d < 4) (h1 : ¬ xcv (6 * t + (d + 2)) < 1) (h2 : xcv (6 * t + (d + 2)) ≤ 4) (hc : ∀ P : Int32 → SX → Prop, P (nI c) (nI l, xpc, xnd, xwc, xit, nI (t + 1), xwt, xan, xlp, xpo, xpb, xwd, xwk, xnk, xco, xcb, xml, xme, xro, xow, xol, xla, xsh, xoe, oh, xsr, xss, xse, xms, xfm, xfa, xfd, xcv, xcr) → wpX_countHeld P (nI l, xpc, xnd, xwc, xit, nI (t + 1), xwt, xan, xlp, xpo, xpb, xwd, xwk, xnk, xco, xcb, xml, xme, xro, xow, xol, xla, xsh, xoe, xoh, xsr, xss, xse, xms, xfm, xfa, xfd, xcv, xcr)) (hc8 : c ≤ 8) (h : (c < 8 → P 0 (nI l, xpc, xnd, xwc, xit, nI (t + 1), xwt, xan, xlp, xpo, xpb, xwd, xwk, xnk, xco, xcb, xml, xme, xro, xow, xol, xla, xsh, xoe, oh, xsr, xss, xse, xms, xfm, xfa, xfd, xcv, xcr)) ∧ (c = 8 → P 7 (nI l, xpc, xnd, xwc, xit, nI (t + 1), xwt, xan, xlp, xpo, xpb, xwd, xwk, xnk, xco, xcb, xml, xme, xro, xow, xol, xla, xsh, xoe, oh, xsr, xss, xse, xms, xfm, xfa, xfd, xcv, xcr))) : wpX_newFailure P (nI l, xpc, xnd, xwc, xit, nI (t + 1), xwt, xan, xlp, xpo, xpb, xwd, xwk, xnk, xco, xcb, xml, xme, xro, xow, xol, xla, xsh, xoe, xoh, xsr, xss, xse, xms, xfm, xfa, xfd, xcv, xcr) := by
  unfold wpX_newFailure
  refine pr_xentry _ (j := 1) ht hd (by omega) (by omega) (by omega) ?_
  have e : 6 * t + (d + 1 + 2 - 1) = 6 * t + (d + 2) := rfl
  rw [e]
  exact br_f h1 (br_t h2 (hc _ (pk_lt c 8 (fun z => h.1 z) (fun z => h.2 (by omega)))))
/-- the objects after NEW -/
theorem sn_O {q ln a : Nat} {z : Int32} (hq : q < 8) (hl : ln ≤ 4) (ha : a < 3) (hz : rl_b z) (hO : rl_O xro xow xol xla xsh xoe yro yow yle yla ysh yel) : rl_O xro (upd xow (q + 1) (nI a)) (upd xol (q + 1) (nI ln)) (upd xla (q + 1) z) (upd xsh (q + 1) 0) (lo_f (fun _ => 0) (4 * (q + 1)) (4 * (q + 1) + 4) xoe) yro (upd yow q (nI a)) (upd yle q (nI ln)) (upd yla q z) (upd ysh q 0) (lo_f (fun _ => vp_nar .short 0) (4 * q) (4 * q + 4) yel) := by
  refine ⟨hO.1, fun o ho => ?_, fun i hi => ?_⟩
  · by_cases e : o = q
    · subst e
      rw [pk_us, pk_us, pk_us, pk_us, pk_us, pk_us, pk_us, pk_us]
      exact ⟨rfl, rfl, rfl, rfl, hz, Or.inl rfl, ⟨a, ha, rfl⟩, ⟨ln, hl, rfl⟩⟩
    · have e' : o + 1 ≠ q + 1 := by omega
      simp only [pk_un e', pk_un e]
      exact hO.2.1 o ho
  · by_cases e : 4 * q ≤ i ∧ i < 4 * q + 4
    · rw [lo_i (by omega) (by omega), lo_i e.1 e.2, pr_s0]
      exact ⟨rfl, pr_sv0⟩
    · rw [lo_o (by omega), lo_o e]
      exact hO.2.2 i hi
theorem sn_T {q : Nat} (hq : q < 8) (hB : B < 2 ^ 30) (hT : rl_T B xit xsr xss xse xms yop yor yoh yoe yst yos ymd) : rl_T (B + 1) xit xsr xss xse (upd xms (q + 1) 1) yop yor yoh yoe (vp_updL yst q (ymd + 1)) yos (ymd + 1) := by
  obtain ⟨t1, t2, ⟨mm, m1, m2, m3, m4⟩, t4⟩ := hT
  have e : ymd + 1 = lN (mm + 1) := by rw [m2]; exact lN_1 mm
  rw [e]
  refine ⟨t1, t2, ⟨mm + 1, by omega, rfl, fun o ho => ?_, fun z o ho => ?_⟩, fun z => ?_⟩
  · by_cases eo : o = q
    · rw [eo, pk_uLs]
      exact ⟨mm + 1, Nat.le_refl _, rfl⟩
    · rw [pk_uLn eo]
      obtain ⟨s, hs, e⟩ := m3 o ho
      exact ⟨s, by omega, e⟩
  · obtain ⟨s, hs, e⟩ := m4 z o ho
    exact ⟨s, by omega, e⟩
  · obtain ⟨s1, s2, s3⟩ := t4 z
    refine ⟨s1, fun o ho => ?_, s3⟩
    obtain ⟨b1, b2, b3⟩ := s2 o ho
    refine ⟨b1, b2, ?_⟩
    by_cases eo : o = q
    · subst eo
      rw [pk_us, pk_uLs]
      obtain ⟨s, hs, es⟩ := m4 z o ho
      rw [es]
      exact ⟨fun q => absurd q (by decide), fun q => absurd ((lN_eq (by omega) (by omega)).mp q) (by omega)⟩
    · rw [pk_un (by omega), pk_uLn eo]
      exact b3
theorem st_11 (h : rr B t m k d f (nI l, xpc, xnd, xwc, xit, nI (t + 1), xwt, xan, xlp, xpo, xpb, xwd, xwk, xnk, xco, xcb, xml, xme, xro, xow, xol, xla, xsh, xoe, xoh, xsr, xss, xse, xms, xfm, xfa, xfd, xcv, xcr) (nI l, ywa, ysk, ylo, nI (t + 1), nI s, yaw, yan, ywh, you, ymd, ygd, yop, yops, ybs, ysz, yex, yst, yow, yle, yel, yla, ysh, yro, yos, yoe, yoh, yor, yrw, ynx, ydp, ypl, ykd, ymt, ytd, yht)) (hs : ¬ nI s = nI l) (H : re_H xfm xfa xco xcb t m k 11 Bv) (S : re_S yrw ynx yops ybs t m k 11 Bv) (hfb : rl_fb 11 Bv n) (hos : ck_os [1, 5] d f) (hgo : k + 1 < 16 ∧ rl_ty yops ybs ysz m (k + 1) (ck_rd [1, 5] d) (ck_rk [1, 5] d f)) (hB30 : B < 2 ^ 30) (hB : Bv = 0 ∨ Bv = 1) : so B l s (nI l, xpc, xnd, xwc, xit, nI (t + 1), xwt, xan, xlp, xpo, xpb, xwd, xwk, xnk, xco, xcb, xml, xme, xro, xow, xol, xla, xsh, xoe, xoh, xsr, xss, xse, xms, xfm, xfa, xfd, xcv, xcr) (nI l, ywa, ysk, ylo, nI (t + 1), nI s, yaw, yan, ywh, you, ymd, ygd, yop, yops, ybs, ysz, yex, yst, yow, yle, yel, yla, ysh, yro, yos, yoe, yoh, yor, yrw, ynx, ydp, ypl, ykd, ymt, ytd, yht) := by
  have h2 := h
  obtain ⟨ht, _, _, hya, hL, hP, hM, hO, hT, hW, hlo, htp⟩ := h
  have htp2 := htp
  obtain ⟨hm6, hk16, hd4, hsz, hfm, hrw, hfa, hnx, hfd, hdp, hty, hcs⟩ := htp2
  have h0 : 0 < d := hos.1.1
  obtain ⟨d, rfl⟩ : ∃ q, d = q + 1 := ⟨d - 1, by omega⟩
  have f1 : f (d + 2) = 1 := hos.1.2
  have c1 := hcs (d + 2) (by omega)
  rw [f1] at c1
  have e1 := (rl_ce1 c1).2.2.1
  have hF := sn_frames hlo htp
  have hdps : ∀ g, g < t + 1 → ∃ d, d ≤ 4 ∧ ydp g = nI d := fun g hg => by
    obtain ⟨d', f', a1, a2, a3, a4⟩ := hF g hg
    exact ⟨d', a1, a3⟩
  by_cases z1 : ypl (8 * t + (d + 2)) < 1
  · have z1' : xcv (6 * t + (d + 2)) < 1 := by rw [e1]; exact z1
    exact so_f (r := 4) (oh := xoh) (by decide) h2 (fun P hp => re_xf P H (by decide) (fun post h => br_f (by decide) <| br_f (by decide) <| br_t rfl <|  sn_newb _ ht hfd (by omega) (Or.inl z1') h) hp) (fun v' hE Q hq => re_ys Q (fun post => post v') S hs (by decide) (fun z => absurd z (by decide)) (fun _ _ _ _ _ _ post h => yb_11b post ht hdp (by omega) hdps (Or.inl z1) hE h) (fun z => absurd z (by decide)) hq)
  · have z1' : ¬ xcv (6 * t + (d + 2)) < 1 := by rw [e1]; exact z1
    by_cases z2 : ypl (8 * t + (d + 2)) ≤ 4
    · have z2' : xcv (6 * t + (d + 2)) ≤ 4 := by rw [e1]; exact z2
      obtain ⟨oh, hoh, hcount⟩ := he_count (xlim := nI l) (xpc := xpc) (xnd := xnd) (xwc := xwc) (xit := xit) (xfc := nI (t + 1)) (xwt := xwt) (xan := xan) (xlp := xlp) (xpo := xpo) (xpb := xpb) (xwd := xwd) (xwk := xwk) (xnk := xnk) (xco := xco) (xcb := xcb) (xml := xml) (xme := xme) (xro := xro) (xow := xow) (xol := xol) (xla := xla) (xsh := xsh) (xoe := xoe) (xoh := xoh) (xsr := xsr) (xss := xss) (xse := xse) (xms := xms) (xfm := xfm) (xfa := xfa) (xfd := xfd) (xcv := xcv) (xcr := xcr) (T := t + 1) (by omega) rfl (fun r hr => by
        obtain ⟨o, ho, e, _⟩ := hO.1 r hr
        exact ⟨o, ho, e⟩) (fun w r hr => by
        obtain ⟨o, ho, e, _⟩ := (hT.2.2.2 (hT.2.1.resolve_left (fun q => w (hT.1.trans q)))).1 r hr
        exact ⟨o, ho, e⟩) (fun g hg => sn_ok hF hg)
      have hiff : ∀ o, o < 8 → (oh (o + 1) = 1 ↔ he_Y yop yro yor ydp ykd ypl (t + 1) o) := fun o ho => (hoh (o + 1) (by omega)).2.trans (sn_iff ho hO hT hF)
      have h01 : ∀ o, o < 8 → oh (o + 1) = 0 ∨ oh (o + 1) = 1 := fun o ho => (hoh (o + 1) (by omega)).1
      obtain ⟨hc8, hcall, hcno⟩ := sn_sm (G := fun o => (oh (o + 1)).toNatClampNeg) 8 (fun o ho => by
        show (oh (o + 1)).toNatClampNeg ≤ 1
        rcases h01 o ho with q | q
        · rw [q]; decide
        · rw [q]; decide)
      rcases sn_least (P := he_Y yop yro yor ydp ykd ypl (t + 1)) 8 with hall | ⟨q, hq8, hq1, hq2⟩
      · have hc := hcall (fun o ho => by
          show (oh (o + 1)).toNatClampNeg = 1
          rw [(hiff o ho).mpr (hall o ho)]
          decide)
        exact so_f (r := 7) (oh := oh) (by decide) h2 (fun P hp => re_xf P H (by decide) (fun post h => br_f (by decide) <| br_f (by decide) <| br_t rfl <|  sn_newc _ ht hfd (by omega) z1' z2' hcount hc8 ⟨fun q => absurd q (by omega), fun _ => h⟩) hp) (fun v' hE Q hq => re_ys Q (fun post => post v') S hs (by decide) (fun z => absurd z (by decide)) (fun _ _ _ _ _ _ post h => yb_11m post ht hdp (by omega) hdps z1 z2 hall hE h) (fun z => absurd z (by decide)) hq)
      · have hq0 : oh (q + 1) = 0 := (h01 q hq8).resolve_right (fun w => hq2 ((hiff q hq8).mp w))
        have hc := hcno q hq8 (by
          show (oh (q + 1)).toNatClampNeg = 0
          rw [hq0]
          decide)
        have hqb : ∀ o, o < q → ¬ oh (o + 1) = 0 := fun o ho w => by
          have := (hiff o (by omega)).mpr (hq1 o ho)
          rw [w] at this
          exact absurd this (by decide)
        obtain ⟨ln, hln0, eln⟩ := nI_of (x := ypl (8 * t + (d + 2))) (fun w => z1 (by
          rw [Int32.lt_iff_toInt_lt] at w ⊢
          rw [show (0 : Int32).toInt = 0 by decide] at w
          rw [show (1 : Int32).toInt = 1 by decide]
          omega))
        have hln : ln ≤ 4 := by
          rw [eln] at z2
          exact (nI_leI (b := 4) hln0 (by decide)).mp z2
        have eln' : xcv (6 * t + (d + 2)) = nI ln := e1.trans eln
        have hO' : ∀ z, rl_b z → rl_O xro (upd xow (q + 1) (nI (m / 2))) (upd xol (q + 1) (xcv (6 * t + (d + 2)))) (upd xla (q + 1) z) (upd xsh (q + 1) 0) (lo_f (fun _ => 0) (4 * (q + 1)) (4 * (q + 1) + 4) xoe) yro (upd yow q (nI (m / 2))) (upd yle q (ypl (8 * t + (d + 2)))) (upd yla q z) (upd ysh q 0) (lo_f (fun _ => vp_nar .short 0) (4 * q) (4 * q + 4) yel) := fun z hz => by
          rw [eln', eln]
          exact sn_O hq8 hln (by omega) hz hO
        have hT' := sn_T hq8 hB30 hT
        obtain ⟨lo', tp'⟩ := so_topc (c := d + 2) (v := 2) (k' := k + 1) (d' := d + 1) ht hlo htp hgo.1 (by omega) hgo.2 (rl_n2 (rl_rfS hq8)) (by omega) (fun j hj hne => by omega)
        rcases hB with hB | hB
        · by_cases w0 : xwt = 0
          · have w1 : yaw = 0 := hW.1.symm.trans w0
            exact so_f (r := 9) (oh := oh) (by decide) h2 (fun P hp => re_xt P H w0 (fun post h => br_f (by decide) <| br_f (by decide) <| br_t rfl <|  sn_newc _ ht hfd (by omega) z1' z2' hcount hc8 ⟨fun _ => h, fun q => absurd q (by omega)⟩) (fun post h => br_f (by decide) <| br_f (by decide) <| br_f (by decide) <| br_t rfl <|  br_t hB h) hp) (fun v' hE Q hq => re_ys Q (fun post => post v') S hs (by decide) (fun z => absurd z (by decide)) (fun _ _ _ _ _ _ post h => yb_11t post ht hdp (by omega) hdps z1 z2 hq8 hq2 hB w1 hE h) (fun z => absurd z (by decide)) hq)
          · have w1 : ¬ yaw = 0 := fun q => w0 (hW.1.trans q)
            refine Or.inl ⟨(nI l, xpc, xnd, xwc, xit, nI (t + 1), re_pd xwt, xan, xlp, xpo, xpb, xwd, xwk, xnk, xco, xcb, xml, xme, xro, upd xow (q + 1) (nI (m / 2)), upd xol (q + 1) (xcv (6 * t + (d + 2))), upd xla (q + 1) 1, upd xsh (q + 1) 0, lo_f (fun _ => 0) (4 * (q + 1)) (4 * (q + 1) + 4) xoe, oh, xsr, xss, xse, upd xms (q + 1) 1, xfm, upd xfa t (nI (k + 1)), upd xfd t (nI (d + 1)), upd xcv (6 * t + (d + 2)) (nI (q + 1)), upd xcr (6 * t + (d + 2)) 1), (nI l, ywa, ysk, ylo, nI (t + 1), nI (s + 1), re_pd yaw, yan, ywh, you, ymd + 1, ygd, yop, yops, ybs, ysz, yex, vp_updL yst q (ymd + 1), upd yow q (nI (m / 2)), upd yle q (ypl (8 * t + (d + 2))), lo_f (fun _ => vp_nar .short 0) (4 * q) (4 * q + 4) yel, upd yla q 1, upd ysh q 0, yro, yos, yoe, yoh, yor, yrw, upd ynx t (nI (k + 1)), upd ydp t (nI (d + 1)), upd ypl (8 * t + (d + 2)) (nI q), upd ykd (8 * t + (d + 2)) 2, ymt, ytd, yht), t, m, k + 1, d + 1, _, fun P hp => ?_, fun Q hq => ?_, ⟨by omega, rfl, rfl, hya, hL, hP, hM, hO' 1 (Or.inr rfl), hT', re_W_pd hW w0, lo', tp'⟩, rfl, rfl, rfl⟩
            · exact re_xw P (oh := oh) H w0 (fun post h => br_f (by decide) <| br_f (by decide) <| br_t rfl <|  sn_newc _ ht hfd (by omega) z1' z2' hcount hc8 ⟨fun _ => h, fun q => absurd q (by omega)⟩) (fun post h => br_f (by decide) <| br_f (by decide) <| br_f (by decide) <| br_t rfl <|  br_t hB h) (re_76o P ht hfa (by decide) (by decide) (fun post h => xo_11 post (z := 1) ht hfm hm6 hfd (by omega) hq8 hqb (Or.inr hq0) (Or.inl ⟨hB, rfl⟩) h) hp)
            · exact re_ys Q (fun post => post (nI l, ywa, ysk, ylo, nI (t + 1), nI (s + 1), re_pd yaw, yan, ywh, you, ymd + 1, ygd, yop, yops, ybs, ysz, yex, vp_updL yst q (ymd + 1), upd yow q (nI (m / 2)), upd yle q (ypl (8 * t + (d + 2))), lo_f (fun _ => vp_nar .short 0) (4 * q) (4 * q + 4) yel, upd yla q 1, upd ysh q 0, yro, yos, yoe, yoh, yor, yrw, upd ynx t (nI (k + 1)), upd ydp t (nI (d + 1)), upd ypl (8 * t + (d + 2)) (nI q), upd ykd (8 * t + (d + 2)) 2, ymt, ytd, yht)) S hs (by decide) (fun z => absurd z (by decide)) (fun _ _ _ _ _ _ post h => yb_11w post (z := 1) ht hdp (by omega) hdps hnx hrw hm6 z1 z2 hq8 hq1 hq2 hB rfl w1 h) (fun z => absurd z (by decide)) hq
        · have hB1 : ¬ Bv = 0 := by rw [hB]; decide
          refine Or.inl ⟨(nI l, xpc, xnd, xwc, xit, nI (t + 1), xwt, xan, xlp, xpo, xpb, xwd, xwk, xnk, xco, xcb, xml, xme, xro, upd xow (q + 1) (nI (m / 2)), upd xol (q + 1) (xcv (6 * t + (d + 2))), upd xla (q + 1) 0, upd xsh (q + 1) 0, lo_f (fun _ => 0) (4 * (q + 1)) (4 * (q + 1) + 4) xoe, oh, xsr, xss, xse, upd xms (q + 1) 1, xfm, upd xfa t (nI (k + 1)), upd xfd t (nI (d + 1)), upd xcv (6 * t + (d + 2)) (nI (q + 1)), upd xcr (6 * t + (d + 2)) 1), (nI l, ywa, ysk, ylo, nI (t + 1), nI (s + 1), yaw, yan, ywh, you, ymd + 1, ygd, yop, yops, ybs, ysz, yex, vp_updL yst q (ymd + 1), upd yow q (nI (m / 2)), upd yle q (ypl (8 * t + (d + 2))), lo_f (fun _ => vp_nar .short 0) (4 * q) (4 * q + 4) yel, upd yla q 0, upd ysh q 0, yro, yos, yoe, yoh, yor, yrw, upd ynx t (nI (k + 1)), upd ydp t (nI (d + 1)), upd ypl (8 * t + (d + 2)) (nI q), upd ykd (8 * t + (d + 2)) 2, ymt, ytd, yht), t, m, k + 1, d + 1, _, fun P hp => ?_, fun Q hq => ?_, ⟨by omega, rfl, rfl, hya, hL, hP, hM, hO' 0 (Or.inl rfl), hT', hW, lo', tp'⟩, rfl, rfl, rfl⟩
          · exact re_xn P (oh := oh) H (fun post h => br_f (by decide) <| br_f (by decide) <| br_t rfl <|  sn_newc _ ht hfd (by omega) z1' z2' hcount hc8 ⟨fun _ => h, fun q => absurd q (by omega)⟩) (fun post h => br_f (by decide) <| br_f (by decide) <| br_f (by decide) <| br_t rfl <|  br_f hB1 h) (re_76o P ht hfa (by decide) (by decide) (fun post h => xo_11 post (z := 0) ht hfm hm6 hfd (by omega) hq8 hqb (Or.inr hq0) (Or.inr ⟨hB1, rfl⟩) h) hp)
          · exact re_ys Q (fun post => post (nI l, ywa, ysk, ylo, nI (t + 1), nI (s + 1), yaw, yan, ywh, you, ymd + 1, ygd, yop, yops, ybs, ysz, yex, vp_updL yst q (ymd + 1), upd yow q (nI (m / 2)), upd yle q (ypl (8 * t + (d + 2))), lo_f (fun _ => vp_nar .short 0) (4 * q) (4 * q + 4) yel, upd yla q 0, upd ysh q 0, yro, yos, yoe, yoh, yor, yrw, upd ynx t (nI (k + 1)), upd ydp t (nI (d + 1)), upd ypl (8 * t + (d + 2)) (nI q), upd ykd (8 * t + (d + 2)) 2, ymt, ytd, yht)) S hs (by decide) (fun z => absurd z (by decide)) (fun _ _ _ _ _ _ post h => yb_11p post (z := 0) ht hdp (by omega) hdps hnx hrw hm6 z1 z2 hq8 hq1 hq2 hB rfl h) (fun z => absurd z (by decide)) hq
    · have z2' : ¬ xcv (6 * t + (d + 2)) ≤ 4 := by rw [e1]; exact z2
      exact so_f (r := 4) (oh := xoh) (by decide) h2 (fun P hp => re_xf P H (by decide) (fun post h => br_f (by decide) <| br_f (by decide) <| br_t rfl <|  sn_newb _ ht hfd (by omega) (Or.inr z2') h) hp) (fun v' hE Q hq => re_ys Q (fun post => post v') S hs (by decide) (fun z => absurd z (by decide)) (fun _ _ _ _ _ _ post h => yb_11b post ht hdp (by omega) hdps (Or.inr z2) hE h) (fun z => absurd z (by decide)) hq)
theorem st_18 (h : rr B t m k d f (nI l, xpc, xnd, xwc, xit, nI (t + 1), xwt, xan, xlp, xpo, xpb, xwd, xwk, xnk, xco, xcb, xml, xme, xro, xow, xol, xla, xsh, xoe, xoh, xsr, xss, xse, xms, xfm, xfa, xfd, xcv, xcr) (nI l, ywa, ysk, ylo, nI (t + 1), nI s, yaw, yan, ywh, you, ymd, ygd, yop, yops, ybs, ysz, yex, yst, yow, yle, yel, yla, ysh, yro, yos, yoe, yoh, yor, yrw, ynx, ydp, ypl, ykd, ymt, ytd, yht)) (hs : ¬ nI s = nI l) (H : re_H xfm xfa xco xcb t m k 18 Bv) (S : re_S yrw ynx yops ybs t m k 18 Bv) (hfb : rl_fb 18 Bv n) (hos : ck_os [1, 4] d f) (hgo : k + 1 < 16 ∧ rl_ty yops ybs ysz m (k + 1) (ck_rd [1, 4] d) (ck_rk [1, 4] d f)) (hB : b < 6 ∧ Bv = nI b) : so B l s (nI l, xpc, xnd, xwc, xit, nI (t + 1), xwt, xan, xlp, xpo, xpb, xwd, xwk, xnk, xco, xcb, xml, xme, xro, xow, xol, xla, xsh, xoe, xoh, xsr, xss, xse, xms, xfm, xfa, xfd, xcv, xcr) (nI l, ywa, ysk, ylo, nI (t + 1), nI s, yaw, yan, ywh, you, ymd, ygd, yop, yops, ybs, ysz, yex, yst, yow, yle, yel, yla, ysh, yro, yos, yoe, yoh, yor, yrw, ynx, ydp, ypl, ykd, ymt, ytd, yht) := by
  have h2 := h
  obtain ⟨ht, _, _, hya, hL, hP, hM, hO, hT, hW, hlo, htp⟩ := h
  have htp2 := htp
  obtain ⟨hm6, hk16, hd4, hsz, hfm, hrw, hfa, hnx, hfd, hdp, hty, hcs⟩ := htp2
  obtain ⟨hb1, rfl⟩ := hB
  have h0 : 0 < d := hos.1.1
  obtain ⟨d, rfl⟩ : ∃ q, d = q + 1 := ⟨d - 1, by omega⟩
  have f1 : f (d + 2) = 1 := hos.1.2
  have c1 := hcs (d + 2) (by omega)
  rw [f1] at c1
  have e1 := (rl_ce1 c1).2.2.1
  have hsv := (rl_ce1 c1).2.2.2
  obtain ⟨n', hn', hml, hyz, hme, hex, hco, hcd⟩ := hM b hb1
  by_cases z5 : ysz b = 0
  · have z5' : xml b = 0 := by rw [hml, ← hyz]; exact z5
    exact so_f (r := 5) (oh := xoh) (by decide) h2 (fun P hp => re_xf P H (by decide) (fun post h => br_f (by decide) <| br_f (by decide) <| br_f (by decide) <| br_f (by decide) <| br_f (by decide) <| br_f (by decide) <| br_f (by decide) <| br_f (by decide) <| br_f (by decide) <| br_t rfl <|  xo_callF _ ht hfm hm6 hb1 (fun _ => h) (fun q _ _ => absurd z5' q) (fun q _ => absurd z5' q)) hp) (fun v' hE Q hq => re_ys Q (fun post => post v') S hs (by decide) (fun z => absurd z (by decide)) (fun _ z => absurd z (by decide)) (fun _ post h => yo_18e post ht hrw hm6 hb1 (fun _ => hE) (fun q _ _ => absurd z5 q) (fun q _ => absurd z5 q) h) hq)
  · have z5' : ¬ xml b = 0 := by rw [hml, ← hyz]; exact z5
    by_cases z3 : ¬ yex b = 0 ∨ b / 2 = m / 2
    · have z3' : ¬ xme b = 0 ∨ b / 2 = m / 2 := by rw [hme]; exact z3
      by_cases t3 : t = 3
      · exact so_f (r := 6) (oh := xoh) (by decide) h2 (fun P hp => re_xf P H (by decide) (fun post h => br_f (by decide) <| br_f (by decide) <| br_f (by decide) <| br_f (by decide) <| br_f (by decide) <| br_f (by decide) <| br_f (by decide) <| br_f (by decide) <| br_f (by decide) <| br_t rfl <|  xo_callF _ ht hfm hm6 hb1 (fun q => absurd q z5') (fun _ y w => absurd z3' (fun q => q.elim (fun a => a y) w)) (fun _ _ => ⟨fun q => absurd q (by omega), fun _ => h⟩)) hp) (fun v' hE Q hq => re_ys Q (fun post => post v') S hs (by decide) (fun z => absurd z (by decide)) (fun _ z => absurd z (by decide)) (fun _ post h => yo_18e post ht hrw hm6 hb1 (fun q => absurd q z5) (fun _ y w => absurd z3 (fun q => q.elim (fun a => a y) w)) (fun _ _ => ⟨t3, hE⟩) h) hq)
      · have hn0 : 0 < n' := by
          cases n' with
          | zero => exact absurd hyz z5
          | succ _ => omega
        have hszb : (ysz b).toNatClampNeg = n' := by rw [hyz]; exact nI_clamp (by omega)
        have hty0 : rl_ty yops ybs ysz b 0 0 ck_f0 := by
          unfold rl_ty
          rw [hszb]
          exact ck_ty0 (hcd hn0).2.2
        have lo' : rl_lo yops ybs ysz (t + 1) (upd xfm (t + 1) (nI b)) (upd (upd xfa t (nI (k + 1))) (t + 1) 0) (upd (upd xfd t (nI d)) (t + 1) 0) (upd xcv (6 * (t + 1)) (xcv (6 * t + (d + 2)))) (upd (upd xcr (6 * (t + 1)) 0) (6 * (t + 1) + 1) 0) (upd yrw (t + 1) (nI b)) (upd ynx (t + 1) 0) (upd (upd ydp t (nI d)) (t + 1) 0) (upd ypl (8 * (t + 1)) (ypl (8 * t + (d + 2)))) (upd (upd ykd (8 * (t + 1)) 1) (8 * (t + 1) + 1) 0) := by
          intro g hg
          by_cases e : g = t
          · subst e
            refine ⟨m, k, d, f, hm6, hk16, by omega, hsz, ?_, ?_, ?_, ?_, ?_, ?_, hgo.2, fun j hj => ?_⟩
            · rw [pk_un (by omega)]; exact hfm
            · rw [pk_un (by omega)]; exact hrw
            · rw [pk_un (by omega), pk_us]
            · rw [pk_un (by omega)]; exact hnx
            · rw [pk_un (by omega), pk_us]
            · rw [pk_un (by omega), pk_us]
            · rw [pk_un (by omega), pk_un (by omega), pk_un (by omega), pk_un (by omega), pk_un (by omega), pk_un (by omega)]
              exact hcs j (by omega)
          · obtain ⟨m2, k2, d2, f2, a1, a2, a3, a4, a5, a6, a7, a8, a9, a10, a11, a12⟩ := hlo g (by omega)
            refine ⟨m2, k2, d2, f2, a1, a2, a3, a4, ?_, ?_, ?_, ?_, ?_, ?_, a11, fun j hj => ?_⟩
            · rw [pk_un (by omega)]; exact a5
            · rw [pk_un (by omega)]; exact a6
            · rw [pk_un (by omega), pk_un e]; exact a7
            · rw [pk_un (by omega)]; exact a8
            · rw [pk_un (by omega), pk_un e]; exact a9
            · rw [pk_un (by omega), pk_un e]; exact a10
            · rw [pk_un (by omega), pk_un (by omega), pk_un (by omega), pk_un (by omega), pk_un (by omega), pk_un (by omega)]
              exact a12 j hj
        have tp' : rl_tp yops ybs ysz (t + 1) b 0 0 ck_f0 (upd xfm (t + 1) (nI b)) (upd (upd xfa t (nI (k + 1))) (t + 1) 0) (upd (upd xfd t (nI d)) (t + 1) 0) (upd xcv (6 * (t + 1)) (xcv (6 * t + (d + 2)))) (upd (upd xcr (6 * (t + 1)) 0) (6 * (t + 1) + 1) 0) (upd yrw (t + 1) (nI b)) (upd ynx (t + 1) 0) (upd (upd ydp t (nI d)) (t + 1) 0) (upd ypl (8 * (t + 1)) (ypl (8 * t + (d + 2)))) (upd (upd ykd (8 * (t + 1)) 1) (8 * (t + 1) + 1) 0) := by
          refine ⟨hb1, by omega, by omega, by rw [hszb]; exact hn0, pk_us, pk_us, pk_us, pk_us, pk_us, pk_us, hty0, fun j hj => ?_⟩
          obtain rfl | rfl : j = 0 ∨ j = 1 := by omega
          · show rl_ce 1 (upd xcv (6 * (t + 1)) (xcv (6 * t + (d + 2))) (6 * (t + 1))) (upd (upd xcr (6 * (t + 1)) 0) (6 * (t + 1) + 1) 0 (6 * (t + 1))) (upd ypl (8 * (t + 1)) (ypl (8 * t + (d + 2))) (8 * (t + 1))) (upd (upd ykd (8 * (t + 1)) 1) (8 * (t + 1) + 1) 0 (8 * (t + 1)))
            rw [pk_us, pk_un (by omega), pk_us, pk_us, pk_un (by omega), pk_us, e1]
            exact rl_n1 hsv
          · rw [pk_us, pk_us]
            exact Or.inl ⟨rfl, rfl, rfl⟩
        refine Or.inl ⟨(nI l, xpc, xnd, xwc, xit, nI (t + 2), xwt, xan, xlp, xpo, xpb, xwd, xwk, xnk, xco, xcb, xml, xme, xro, xow, xol, xla, xsh, xoe, xoh, xsr, xss, xse, xms, upd xfm (t + 1) (nI b), upd (upd xfa t (nI (k + 1))) (t + 1) 0, upd (upd xfd t (nI d)) (t + 1) 0, upd xcv (6 * (t + 1)) (xcv (6 * t + (d + 2))), upd (upd xcr (6 * (t + 1)) 0) (6 * (t + 1) + 1) 0), (nI l, ywa, ysk, ylo, nI (t + 2), nI (s + 1), yaw, yan, ywh, you, ymd, ygd, yop, yops, ybs, ysz, yex, yst, yow, yle, yel, yla, ysh, yro, yos, yoe, yoh, yor, upd yrw (t + 1) (nI b), upd ynx (t + 1) 0, upd (upd ydp t (nI d)) (t + 1) 0, upd ypl (8 * (t + 1)) (ypl (8 * t + (d + 2))), upd (upd ykd (8 * (t + 1)) 1) (8 * (t + 1) + 1) 0, ymt, ytd, yht), t + 1, b, 0, 0, ck_f0, fun P hp => ?_, fun Q hq => ?_, ⟨by omega, rfl, rfl, hya, hL, hP, hM, hO, re_T_up hT (by omega), hW, lo', tp'⟩, rfl, rfl, rfl⟩
        · exact re_xn P (oh := xoh) H (fun post h => br_f (by decide) <| br_f (by decide) <| br_f (by decide) <| br_f (by decide) <| br_f (by decide) <| br_f (by decide) <| br_f (by decide) <| br_f (by decide) <| br_f (by decide) <| br_t rfl <|  xo_callF _ ht hfm hm6 hb1 (fun q => absurd q z5') (fun _ y w => absurd z3' (fun q => q.elim (fun a => a y) w)) (fun _ _ => ⟨fun _ => h, fun q => absurd q t3⟩)) (fun post h => br_f (by decide) <| br_f (by decide) <| br_f (by decide) <| br_f (by decide) <| br_f (by decide) <| br_f (by decide) <| br_f (by decide) <| br_f (by decide) <| br_f (by decide) <| br_f (by decide) <| br_t rfl <|  h) (re_76p P ht hfa (by decide) (by decide) (fun post h => xo_call post (by omega) hfd (by omega) h) hp)
        · exact re_ys Q (fun post => post (nI l, ywa, ysk, ylo, nI (t + 2), nI (s + 1), yaw, yan, ywh, you, ymd, ygd, yop, yops, ybs, ysz, yex, yst, yow, yle, yel, yla, ysh, yro, yos, yoe, yoh, yor, upd yrw (t + 1) (nI b), upd ynx (t + 1) 0, upd (upd ydp t (nI d)) (t + 1) 0, upd ypl (8 * (t + 1)) (ypl (8 * t + (d + 2))), upd (upd ykd (8 * (t + 1)) 1) (8 * (t + 1) + 1) 0, ymt, ytd, yht)) S hs (by decide) (fun z => absurd z (by decide)) (fun _ z => absurd z (by decide)) (fun _ post h => yo_18 post (by omega) hrw hm6 hb1 hdp (by omega) z5 (z3.symm) hsv h) hq
    · have z3a : yex b = 0 := Classical.byContradiction fun q => z3 (Or.inl q)
      have z3b : ¬ b / 2 = m / 2 := fun q => z3 (Or.inr q)
      have z3' : xme b = 0 := hme.trans z3a
      exact so_f (r := 3) (oh := xoh) (by decide) h2 (fun P hp => re_xf P H (by decide) (fun post h => br_f (by decide) <| br_f (by decide) <| br_f (by decide) <| br_f (by decide) <| br_f (by decide) <| br_f (by decide) <| br_f (by decide) <| br_f (by decide) <| br_f (by decide) <| br_t rfl <|  xo_callF _ ht hfm hm6 hb1 (fun q => absurd q z5') (fun _ _ _ => h) (fun _ q => absurd q (fun w => w.elim (fun a => a z3') z3b))) hp) (fun v' hE Q hq => re_ys Q (fun post => post v') S hs (by decide) (fun z => absurd z (by decide)) (fun _ z => absurd z (by decide)) (fun _ post h => yo_18e post ht hrw hm6 hb1 (fun q => absurd q z5) (fun _ _ _ => hE) (fun _ q => absurd q z3) h) hq)
theorem st_19 (h : rr B (t + 1) m k d f (nI l, xpc, xnd, xwc, xit, nI (t + 2), xwt, xan, xlp, xpo, xpb, xwd, xwk, xnk, xco, xcb, xml, xme, xro, xow, xol, xla, xsh, xoe, xoh, xsr, xss, xse, xms, xfm, xfa, xfd, xcv, xcr) (nI l, ywa, ysk, ylo, nI (t + 2), nI s, yaw, yan, ywh, you, ymd, ygd, yop, yops, ybs, ysz, yex, yst, yow, yle, yel, yla, ysh, yro, yos, yoe, yoh, yor, yrw, ynx, ydp, ypl, ykd, ymt, ytd, yht)) (hs : ¬ nI s = nI l) (H : re_H xfm xfa xco xcb (t + 1) m k 19 Bv) (S : re_S yrw ynx yops ybs (t + 1) m k 19 Bv) (hos : ck_os [1] d f) : so B l s (nI l, xpc, xnd, xwc, xit, nI (t + 2), xwt, xan, xlp, xpo, xpb, xwd, xwk, xnk, xco, xcb, xml, xme, xro, xow, xol, xla, xsh, xoe, xoh, xsr, xss, xse, xms, xfm, xfa, xfd, xcv, xcr) (nI l, ywa, ysk, ylo, nI (t + 2), nI s, yaw, yan, ywh, you, ymd, ygd, yop, yops, ybs, ysz, yex, yst, yow, yle, yel, yla, ysh, yro, yos, yoe, yoh, yor, yrw, ynx, ydp, ypl, ykd, ymt, ytd, yht) := by
  obtain ⟨ht, _, _, hya, hL, hP, hM, hO, hT, hW, hlo, htp⟩ := h
  obtain ⟨hm6, hk16, hd4, hsz, hfm, hrw, hfa, hnx, hfd, hdp, hty, hcs⟩ := htp
  have h0 : 0 < d := hos.1.1
  obtain ⟨d, rfl⟩ : ∃ q, d = q + 1 := ⟨d - 1, by omega⟩
  have f1 : f (d + 2) = 1 := hos.1.2
  have c1 := hcs (d + 2) (by omega)
  rw [f1] at c1
  have e1 := (rl_ce1 c1).2.2.1
  have hsv := (rl_ce1 c1).2.2.2
  obtain ⟨m2, k2, d2, f2, a1, a2, a3, a4, a5, a6, a7, a8, a9, a10, a11, a12⟩ := hlo t (by omega)
  have hk2 : k2 + 1 < 16 := by
    obtain ⟨n', hn', _, hyz, _⟩ := hM m2 a1
    have := (ck_ty_s a11).1
    rw [hyz, nI_clamp (by omega)] at this
    omega
  have hcs' : rl_cs t (d2 + 1) (ck_un f2 (d2 + 2) 1) (upd xcv (6 * t + (d2 + 2)) (xcv (6 * (t + 1) + (d + 2)))) (upd xcr (6 * t + (d2 + 2)) 0) (upd ypl (8 * t + (d2 + 2)) (ypl (8 * (t + 1) + (d + 2)))) (upd ykd (8 * t + (d2 + 2)) 1) := by
    rw [e1]
    exact rl_cs_up a12 (rl_n1 hsv) (by omega) (by omega) (fun j hj hne => by omega)
  have lo' : rl_lo yops ybs ysz t xfm (upd xfa (t + 1) (nI (k + 1))) (upd (upd xfd (t + 1) (nI d)) t (nI (d2 + 1))) (upd xcv (6 * t + (d2 + 2)) (xcv (6 * (t + 1) + (d + 2)))) (upd xcr (6 * t + (d2 + 2)) 0) yrw (upd ynx t (nI (k2 + 1))) (upd ydp t (nI (d2 + 1))) (upd ypl (8 * t + (d2 + 2)) (ypl (8 * (t + 1) + (d + 2)))) (upd ykd (8 * t + (d2 + 2)) 1) := by
    intro g hg
    obtain ⟨m3, k3, d3, f3, b1, b2, b3, b4, b5, b6, b7, b8, b9, b10, b11, b12⟩ := hlo g (by omega)
    refine ⟨m3, k3, d3, f3, b1, b2, b3, b4, b5, b6, ?_, ?_, ?_, ?_, b11, fun j hj => ?_⟩
    · rw [pk_un (by omega)]; exact b7
    · rw [pk_un (by omega)]; exact b8
    · rw [pk_un (by omega), pk_un (by omega)]; exact b9
    · rw [pk_un (by omega)]; exact b10
    · rw [pk_un (by omega), pk_un (by omega), pk_un (by omega), pk_un (by omega)]
      exact b12 j hj
  have tp' : rl_tp yops ybs ysz t m2 (k2 + 1) (d2 + 1) (ck_un f2 (d2 + 2) 1) xfm (upd xfa (t + 1) (nI (k + 1))) (upd (upd xfd (t + 1) (nI d)) t (nI (d2 + 1))) (upd xcv (6 * t + (d2 + 2)) (xcv (6 * (t + 1) + (d + 2)))) (upd xcr (6 * t + (d2 + 2)) 0) yrw (upd ynx t (nI (k2 + 1))) (upd ydp t (nI (d2 + 1))) (upd ypl (8 * t + (d2 + 2)) (ypl (8 * (t + 1) + (d + 2)))) (upd ykd (8 * t + (d2 + 2)) 1) :=
    ⟨a1, hk2, by omega, a4, a5, a6, by rw [pk_un (by omega)]; exact a7, pk_us, pk_us, pk_us, a11, hcs'⟩
  refine Or.inl ⟨(nI l, xpc, xnd, xwc, xit, nI (t + 1), xwt, xan, xlp, xpo, xpb, xwd, xwk, xnk, xco, xcb, xml, xme, xro, xow, xol, xla, xsh, xoe, xoh, xsr, xss, xse, xms, xfm, upd xfa (t + 1) (nI (k + 1)), upd (upd xfd (t + 1) (nI d)) t (nI (d2 + 1)), upd xcv (6 * t + (d2 + 2)) (xcv (6 * (t + 1) + (d + 2))), upd xcr (6 * t + (d2 + 2)) 0), (nI l, ywa, ysk, ylo, nI (t + 1), nI (s + 1), yaw, yan, ywh, you, ymd, ygd, yop, yops, ybs, ysz, yex, yst, yow, yle, yel, yla, ysh, yro, yos, yoe, yoh, yor, yrw, upd ynx t (nI (k2 + 1)), upd ydp t (nI (d2 + 1)), upd ypl (8 * t + (d2 + 2)) (ypl (8 * (t + 1) + (d + 2))), upd ykd (8 * t + (d2 + 2)) 1, ymt, ytd, yht), t, m2, k2 + 1, d2 + 1, _, fun P hp => ?_, fun Q hq => ?_, ⟨by omega, rfl, rfl, hya, hL, hP, hM, hO, re_T_up hT (by omega), hW, lo', tp'⟩, rfl, rfl, rfl⟩
  · exact re_xn P (oh := xoh) H (fun post h => br_f (by decide) <| br_f (by decide) <| br_f (by decide) <| br_f (by decide) <| br_f (by decide) <| br_f (by decide) <| br_f (by decide) <| br_f (by decide) <| br_f (by decide) <| br_f (by decide) <| br_t rfl <|  h) (fun post h => br_f (by decide) <| br_f (by decide) <| br_f (by decide) <| br_f (by decide) <| br_f (by decide) <| br_f (by decide) <| br_f (by decide) <| br_f (by decide) <| br_f (by decide) <| br_f (by decide) <| br_f (by decide) <| br_t rfl <|  h) (re_76p P ht hfa (by decide) (by decide) (fun post h => xo_leave post (by omega) hfd (by omega) a9 (by omega) h) hp)
  · exact re_ys Q (fun post => post (nI l, ywa, ysk, ylo, nI (t + 1), nI (s + 1), yaw, yan, ywh, you, ymd, ygd, yop, yops, ybs, ysz, yex, yst, yow, yle, yel, yla, ysh, yro, yos, yoe, yoh, yor, yrw, upd ynx t (nI (k2 + 1)), upd ydp t (nI (d2 + 1)), upd ypl (8 * t + (d2 + 2)) (ypl (8 * (t + 1) + (d + 2))), upd ykd (8 * t + (d2 + 2)) 1, ymt, ytd, yht)) S hs (by decide) (fun z => absurd z (by decide)) (fun _ z => absurd z (by decide)) (fun _ post h => yo_19 post (by omega) hdp (by omega) a10 (by omega) a8 h) hq
theorem st_19e (h : rr B 0 m k d f (nI l, xpc, xnd, xwc, xit, nI 1, xwt, xan, xlp, xpo, xpb, xwd, xwk, xnk, xco, xcb, xml, xme, xro, xow, xol, xla, xsh, xoe, xoh, xsr, xss, xse, xms, xfm, xfa, xfd, xcv, xcr) (nI l, ywa, ysk, ylo, nI 1, nI s, yaw, yan, ywh, you, ymd, ygd, yop, yops, ybs, ysz, yex, yst, yow, yle, yel, yla, ysh, yro, yos, yoe, yoh, yor, yrw, ynx, ydp, ypl, ykd, ymt, ytd, yht)) (hs : ¬ nI s = nI l) (H : re_H xfm xfa xco xcb 0 m k 19 Bv) (S : re_S yrw ynx yops ybs 0 m k 19 Bv) (hos : ck_os [1] d f) : so B l s (nI l, xpc, xnd, xwc, xit, nI 1, xwt, xan, xlp, xpo, xpb, xwd, xwk, xnk, xco, xcb, xml, xme, xro, xow, xol, xla, xsh, xoe, xoh, xsr, xss, xse, xms, xfm, xfa, xfd, xcv, xcr) (nI l, ywa, ysk, ylo, nI 1, nI s, yaw, yan, ywh, you, ymd, ygd, yop, yops, ybs, ysz, yex, yst, yow, yle, yel, yla, ysh, yro, yos, yoe, yoh, yor, yrw, ynx, ydp, ypl, ykd, ymt, ytd, yht) := by
  obtain ⟨ht, _, _, hya, hL, hP, hM, hO, hT, hW, hlo, htp⟩ := h
  obtain ⟨hm6, hk16, hd4, hsz, hfm, hrw, hfa, hnx, hfd, hdp, hty, hcs⟩ := htp
  have h0 : 0 < d := hos.1.1
  obtain ⟨d, rfl⟩ : ∃ q, d = q + 1 := ⟨d - 1, by omega⟩
  have f1 : f (d + 2) = 1 := hos.1.2
  have c1 := hcs (d + 2) (by omega)
  rw [f1] at c1
  have e1 : xcv (6 * 0 + (d + 2)) = ypl (8 * 0 + (d + 2)) := (rl_ce1 c1).2.2.1
  have e2 : xcv (d + 2) = ypl (d + 2) := by
    rw [show 6 * 0 + (d + 2) = d + 2 by omega] at e1
    exact e1
  obtain ⟨ro, sh, oe, wt, yro', ysh', yel', yaw', hX, hY, hO', hT', hW'⟩ := re_fin (r := 0) (xlim := nI l) (xpc := xpc) (xnd := xnd) (xwc := xwc) (xfc := 0) (xan := xcv (d + 2)) (xlp := -1) (xpo := xpo) (xpb := xpb) (xwd := xwd) (xwk := xwk) (xnk := xnk) (xco := xco) (xcb := xcb) (xml := xml) (xme := xme) (xoh := xoh) (xfm := xfm) (xfa := upd xfa 0 (nI (k + 1))) (xfd := upd xfd 0 (nI d)) (xcv := xcv) (xcr := xcr) (ylim := nI l) (ywa := ywa) (ysk := ysk) (ylo := ylo) (yrn := nI 1) (ysp := nI (s + 1)) (yan := yan) (ywh := ywh) (you := 0) (ygd := ygd) (yops := yops) (ybs := ybs) (ysz := ysz) (yex := yex) (yrw := yrw) (ynx := ynx) (ydp := ydp) (ypl := ypl) (ykd := ykd) (ymt := ymt) (ytd := ytd) (yht := yht) hO hT hW
  refine Or.inr ⟨0, (nI l, xpc, xnd, xwc, xit, 0, xwt, xcv (d + 2), xlp, xpo, xpb, xwd, xwk, xnk, xco, xcb, xml, xme, xro, xow, xol, xla, xsh, xoe, xoh, xsr, xss, xse, xms, xfm, upd xfa 0 (nI (k + 1)), upd xfd 0 (nI d), xcv, xcr), (nI l, xpc, xnd, xwc, 0, 0, wt, xcv (d + 2), -1, xpo, xpb, xwd, xwk, xnk, xco, xcb, xml, xme, ro, xow, xol, xla, sh, oe, xoh, xsr, xss, xse, xms, xfm, upd xfa 0 (nI (k + 1)), upd xfd 0 (nI d), xcv, xcr), (nI l, ywa, ysk, ylo, 0, nI (s + 1), yaw', ypl (d + 2), -1, 0, ymd, ygd, 0, yops, ybs, ysz, yex, yst, yow, yle, yel', yla, ysh', yro', yos, yoe, yoh, yor, yrw, ynx, ydp, ypl, ykd, ymt, ytd, yht), fun P hp => ?_, Or.inr ⟨rfl, rfl⟩, rfl, fun P hp => ?_, fun Q hq => ?_, ⟨rfl, rfl, rfl, rfl, hL, hP, hM, hO', re_T_up hT' (by omega), hW', e2, rfl⟩⟩
  · exact re_xn P (t := 0) (oh := xoh) H (fun post h => br_f (by decide) <| br_f (by decide) <| br_f (by decide) <| br_f (by decide) <| br_f (by decide) <| br_f (by decide) <| br_f (by decide) <| br_f (by decide) <| br_f (by decide) <| br_f (by decide) <| br_t rfl <|  h) (fun post h => br_f (by decide) <| br_f (by decide) <| br_f (by decide) <| br_f (by decide) <| br_f (by decide) <| br_f (by decide) <| br_f (by decide) <| br_f (by decide) <| br_f (by decide) <| br_f (by decide) <| br_f (by decide) <| br_t rfl <|  h) (re_76p P (t := 0) ht hfa (by decide) (by decide) (fun post h => xo_leave0 post hfd (by omega) h) hp)
  · exact br_t rfl (hX P hp)
  · exact re_ys (t := 0) Q (fun post => post (nI l, ywa, ysk, ylo, 0, nI (s + 1), yaw', ypl (d + 2), -1, 0, ymd, ygd, 0, yops, ybs, ysz, yex, yst, yow, yle, yel', yla, ysh', yro', yos, yoe, yoh, yor, yrw, ynx, ydp, ypl, ykd, ymt, ytd, yht)) S hs (by decide) (fun z => absurd z (by decide)) (fun _ z => absurd z (by decide)) (fun _ post h => yo_19e post hdp (by omega) (fun Q hq => br_t rfl (hY Q _ hq)) h) hq
end SN
