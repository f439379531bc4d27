/-! HELD OBJECTS -/
def he_M (oh : Nat → Int32) (Q : Nat → Prop) : Prop := ∀ o, o ≤ 8 → (oh o = 0 ∨ oh o = 1) ∧ (oh o = 1 ↔ Q o)
theorem he_M_u {oh : Nat → Int32} {Q : Nat → Prop} {x : Nat} (h : he_M oh Q) : he_M (upd oh x 1) (fun o => Q o ∨ o = x) := by
  intro o ho
  by_cases e : o = x
  · rw [e, pk_us]
    exact ⟨Or.inr rfl, fun _ => Or.inr rfl, fun _ => rfl⟩
  · rw [pk_un e]
    exact ⟨(h o ho).1, fun z => Or.inl ((h o ho).2.mp z), fun z => (h o ho).2.mpr (z.resolve_right e)⟩
theorem he_M_c {oh : Nat → Int32} {Q Q' : Nat → Prop} (h : he_M oh Q) (e : ∀ o, o ≤ 8 → (Q o ↔ Q' o)) : he_M oh Q' := fun o ho => ⟨(h o ho).1, (h o ho).2.trans (e o ho)⟩
theorem he_eq {x : Int32} {p o : Nat} (h : x = nI p) (hp : p ≤ 8) (ho : o ≤ 8) : x = nI o ↔ o = p := by
  rw [h, nI_eq (by omega) (by omega)]
  omega
theorem he_b1 : vp_nar .boolean 1 = 1 := by decide
theorem he_b0 : vp_nar .boolean 0 = 0 := by decide
section HX
variable {xlim xpc xnd xwc xit xfc xwt xan xlp : Int32}
variable {xpo xpb xwd xwk xnk xco xcb xml xme xro xow xol xla xsh xoe xoh xsr xss xse xms xfm xfa xfd xcv xcr : Nat → Int32}
/-- held by a cell of frame g -/
def he_xf (fd cr cv : Nat → Int32) (g o : Nat) : Prop := ∃ d j, d ≤ 4 ∧ fd g = nI d ∧ j < d + 2 ∧ ¬ cr (6 * g + j) = 0 ∧ cv (6 * g + j) = nI o
def he_xr (it : Int32) (ro sr : Nat → Int32) (r o : Nat) : Prop := ro r = nI o ∨ (¬ it = 0 ∧ sr r = nI o)
/-- the cells are as they must be -/
def he_ok (fd cr cv : Nat → Int32) (g : Nat) : Prop := ∃ d, d ≤ 4 ∧ fd g = nI d ∧ ∀ j, j < d + 2 → cr (6 * g + j) = 0 ∨ (¬ cr (6 * g + j) = 0 ∧ ∃ o, o ≤ 8 ∧ cv (6 * g + j) = nI o)
theorem he_from {g : Nat} {oh : Nat → Int32} {Q : Nat → Prop} (hg : g < 4) (hk : he_ok xfd xcr xcv g) (hM : he_M oh Q) : ∃ oh', he_M oh' (fun o => Q o ∨ he_xf xfd xcr xcv g o) ∧ ∀ P : SX → Prop, P (xlim, xpc, xnd, xwc, xit, xfc, xwt, xan, xlp, xpo, xpb, xwd, xwk, xnk, xco, xcb, xml, xme, xro, xow, xol, xla, xsh, xoe, oh', xsr, xss, xse, xms, xfm, xfa, xfd, xcv, xcr) → wpX_holdFrom P (xlim, xpc, xnd, xwc, xit, xfc, xwt, xan, xlp, xpo, xpb, xwd, xwk, xnk, xco, xcb, xml, xme, xro, xow, xol, xla, xsh, xoe, oh, xsr, xss, xse, xms, xfm, xfa, xfd, xcv, xcr) (nI g) := by
  obtain ⟨d, hd4, hd, hc⟩ := hk
  have e0 : (nI g).toNatClampNeg = g := nI_clamp (by omega)
  have key : ∀ e c oh (Q : Nat → Prop), c + e = d + 2 → he_M oh Q → ∃ oh', he_M oh' (fun o => Q o ∨ ∃ j, c ≤ j ∧ j < d + 2 ∧ ¬ xcr (6 * g + j) = 0 ∧ xcv (6 * g + j) = nI o) ∧ ∀ (P : SX → Prop) m, e < m → P (xlim, xpc, xnd, xwc, xit, xfc, xwt, xan, xlp, xpo, xpb, xwd, xwk, xnk, xco, xcb, xml, xme, xro, xow, xol, xla, xsh, xoe, oh', xsr, xss, xse, xms, xfm, xfa, xfd, xcv, xcr) → wX_holdFrom_2 P (nI g) xlim xpc xnd xwc xit xfc xwt xan xlp m (nI c) xpo xpb xwd xwk xnk xco xcb xml xme xro xow xol xla xsh xoe oh xsr xss xse xms xfm xfa xfd xcv xcr := by
    intro e
    induction e with
    | zero =>
      intro c oh Q hce hM
      refine ⟨oh, he_M_c hM (fun o _ => ⟨Or.inl, fun z => z.elim id (fun ⟨j, h1, h2, _⟩ => absurd h2 (by omega))⟩), fun P m hm hp => ?_⟩
      obtain ⟨m, rfl⟩ : ∃ q, m = q + 1 := ⟨m - 1, by omega⟩
      refine ⟨pk_in g 4 hg, ?_⟩
      rw [e0, hd, xk_2]
      exact br_t (nI_le (by omega) (by omega)) hp
    | succ e ih =>
      intro c oh Q hce hM
      have e6 := pr_6b g c
      have ec : ((6 : Int32) * nI g + nI c).toNatClampNeg = 6 * g + c := pk_cl _ e6
      rcases hc c (by omega) with z | ⟨z, x, hx, ex⟩
      · obtain ⟨oh', h1, h2⟩ := ih (c + 1) oh Q (by omega) hM
        refine ⟨oh', he_M_c h1 (fun o _ => ⟨fun w => ?_, fun w => ?_⟩), fun P m hm hp => ?_⟩
        · rcases w with w | ⟨j, a, b⟩
          · exact Or.inl w
          · exact Or.inr ⟨j, by omega, b⟩
        · rcases w with w | ⟨j, a, b, cc, dd⟩
          · exact Or.inl w
          · by_cases q : j = c
            · rw [q] at cc
              exact absurd z cc
            · exact Or.inr ⟨j, by omega, b, cc, dd⟩
        · obtain ⟨m, rfl⟩ : ∃ q, m = q + 1 := ⟨m - 1, by omega⟩
          refine ⟨pk_in g 4 hg, ?_⟩
          rw [e0, hd, xk_2]
          refine br_f (nI_ge (by omega) (by omega)) ⟨pk_in (6 * g + c) 24 (by omega) e6, ?_⟩
          rw [ec]
          exact br_t z (nm_r (nI_1 c) (h2 P m (by omega) hp))
      · obtain ⟨oh', h1, h2⟩ := ih (c + 1) (upd oh x 1) _ (by omega) (he_M_u (x := x) hM)
        refine ⟨oh', he_M_c h1 (fun o ho => ⟨fun w => ?_, fun w => ?_⟩), fun P m hm hp => ?_⟩
        · rcases w with (w | w) | ⟨j, a, b⟩
          · exact Or.inl w
          · exact Or.inr ⟨c, by omega, by omega, z, by rw [w]; exact ex⟩
          · exact Or.inr ⟨j, by omega, b⟩
        · rcases w with w | ⟨j, a, b, cc, dd⟩
          · exact Or.inl (Or.inl w)
          · by_cases q : j = c
            · rw [q, he_eq ex hx ho] at dd
              exact Or.inl (Or.inr dd)
            · exact Or.inr ⟨j, by omega, b, cc, dd⟩
        · obtain ⟨m, rfl⟩ : ∃ q, m = q + 1 := ⟨m - 1, by omega⟩
          have exc : (xcv (6 * g + c)).toNatClampNeg = x := by rw [ex]; exact nI_clamp (by omega)
          refine ⟨pk_in g 4 hg, ?_⟩
          rw [e0, hd, xk_2]
          refine br_f (nI_ge (by omega) (by omega)) ⟨pk_in (6 * g + c) 24 (by omega) e6, ?_⟩
          rw [ec]
          exact br_f z ⟨pk_in (6 * g + c) 24 (by omega) e6, pk_in x 9 (by omega) ex, nm_r (by rw [exc, he_b1]) (nm_r (nI_1 c) (h2 P m (by omega) hp))⟩
  obtain ⟨oh', h1, h2⟩ := key (d + 2) 0 oh Q (by omega) hM
  refine ⟨oh', he_M_c h1 (fun o _ => ⟨fun w => ?_, fun w => ?_⟩), fun P hp => ⟨d + 3, h2 P _ (by omega) hp⟩⟩
  · rcases w with w | ⟨j, _, b⟩
    · exact Or.inl w
    · exact Or.inr ⟨d, j, hd4, hd, b⟩
  · rcases w with w | ⟨d', j, a1, a2, b⟩
    · exact Or.inl w
    · rw [hd] at a2
      have : d = d' := (nI_eq (by omega) (by omega)).mp a2
      rw [← this] at b
      exact Or.inr ⟨j, by omega, b⟩
/-- the whole count: what is marked, and how many -/
theorem he_count {T : Nat} (hT : T ≤ 4) (hfc : xfc = nI T) (hro : ∀ r, r < 6 → ∃ o, o ≤ 8 ∧ xro r = nI o) (hsr : ¬ xit = 0 → ∀ r, r < 6 → ∃ o, o ≤ 8 ∧ xsr r = nI o) (hfr : ∀ g, g < T → he_ok xfd xcr xcv g) :
    ∃ oh, he_M oh (fun o => (∃ r, r < 6 ∧ he_xr xit xro xsr r o) ∨ ∃ g, g < T ∧ he_xf xfd xcr xcv g o) ∧ ∀ P : Int32 → SX → Prop, P (nI (ck_sm (fun o => (oh (o + 1)).toNatClampNeg) 8)) (xlim, xpc, xnd, xwc, xit, xfc, xwt, xan, xlp, xpo, xpb, xwd, xwk, xnk, xco, xcb, xml, xme, xro, xow, xol, xla, xsh, xoe, oh, xsr, xss, xse, xms, xfm, xfa, xfd, xcv, xcr) → wpX_countHeld P (xlim, xpc, xnd, xwc, xit, xfc, xwt, xan, xlp, xpo, xpb, xwd, xwk, xnk, xco, xcb, xml, xme, xro, xow, xol, xla, xsh, xoe, xoh, xsr, xss, xse, xms, xfm, xfa, xfd, xcv, xcr) := by
  have k91 : ∀ (P : Int32 → SX → Prop) oh, (∀ o, o ≤ 8 → oh o = 0 ∨ oh o = 1) → P (nI (ck_sm (fun o => (oh (o + 1)).toNatClampNeg) 8)) (xlim, xpc, xnd, xwc, xit, xfc, xwt, xan, xlp, xpo, xpb, xwd, xwk, xnk, xco, xcb, xml, xme, xro, xow, xol, xla, xsh, xoe, oh, xsr, xss, xse, xms, xfm, xfa, xfd, xcv, xcr) → ∀ e c m, c + e = 8 → e < m → wX_countHeld_91 P xlim xpc xnd xwc xit xfc xwt xan xlp xpo xpb xwd xwk xnk xco xcb xml xme xro xow xol xla xsh xoe oh xsr xss xse xms xfm xfa xfd xcv xcr m (nI (ck_sm (fun o => (oh (o + 1)).toNatClampNeg) c)) (nI (c + 1)) := by
    intro P oh h01 hp e
    induction e with
    | zero =>
      intro c m hc hm
      obtain ⟨m, rfl⟩ : ∃ q, m = q + 1 := ⟨m - 1, by omega⟩
      obtain rfl : c = 8 := by omega
      exact br_t (by decide) hp
    | succ e ih =>
      intro c m hc hm
      obtain ⟨m, rfl⟩ : ∃ q, m = q + 1 := ⟨m - 1, by omega⟩
      have i := ih (c + 1) m (by omega) (by omega)
      have es : ck_sm (fun o => (oh (o + 1)).toNatClampNeg) (c + 1) = ck_sm (fun o => (oh (o + 1)).toNatClampNeg) c + (oh (c + 1)).toNatClampNeg := rfl
      rw [es] at i
      refine br_f (nI_nlt (a := 8) (by omega) (by decide)) ⟨pk_in (c + 1) 9 (by omega), ?_⟩
      rw [nI_clamp (by omega)]
      rcases h01 (c + 1) (by omega) with z | z
      · rw [z, show (0 : Int32).toNatClampNeg = 0 by decide] at i
        exact br_t z (nm_r (nI_add _ 0) (nm_r (nI_1 (c + 1)) i))
      · rw [z, show (1 : Int32).toNatClampNeg = 1 by decide] at i
        exact br_f (by rw [z]; decide) (nm_r (nI_add _ 1) (nm_r (nI_1 (c + 1)) i))
  have k68 : ∀ e g oh (Q : Nat → Prop), g + e = T → he_M oh Q → ∃ oh', he_M oh' (fun o => Q o ∨ ∃ g', g ≤ g' ∧ g' < T ∧ he_xf xfd xcr xcv g' o) ∧ ∀ (P : Int32 → SX → Prop) m, e < m → P (nI (ck_sm (fun o => (oh' (o + 1)).toNatClampNeg) 8)) (xlim, xpc, xnd, xwc, xit, xfc, xwt, xan, xlp, xpo, xpb, xwd, xwk, xnk, xco, xcb, xml, xme, xro, xow, xol, xla, xsh, xoe, oh', xsr, xss, xse, xms, xfm, xfa, xfd, xcv, xcr) → wX_countHeld_68 P m (nI g) xlim xpc xnd xwc xit xfc xwt xan xlp xpo xpb xwd xwk xnk xco xcb xml xme xro xow xol xla xsh xoe oh xsr xss xse xms xfm xfa xfd xcv xcr := by
    intro e
    induction e with
    | zero =>
      intro g oh Q hg hM
      refine ⟨oh, he_M_c hM (fun o _ => ⟨Or.inl, fun z => z.elim id (fun ⟨j, h1, h2, _⟩ => absurd h2 (by omega))⟩), fun P m hm hp => ?_⟩
      obtain ⟨m, rfl⟩ : ∃ q, m = q + 1 := ⟨m - 1, by omega⟩
      exact br_t (by rw [hfc]; exact nI_le (by omega) (by omega)) ⟨9, k91 P oh (fun o ho => (hM o ho).1) hp 8 0 9 (by omega) (by omega)⟩
    | succ e ih =>
      intro g oh Q hg hM
      obtain ⟨oh1, a1, a2⟩ := he_from (xlim := xlim) (xpc := xpc) (xnd := xnd) (xwc := xwc) (xit := xit) (xfc := xfc) (xwt := xwt) (xan := xan) (xlp := xlp) (xpo := xpo) (xpb := xpb) (xwd := xwd) (xwk := xwk) (xnk := xnk) (xco := xco) (xcb := xcb) (xml := xml) (xme := xme) (xro := xro) (xow := xow) (xol := xol) (xla := xla) (xsh := xsh) (xoe := xoe) (xsr := xsr) (xss := xss) (xse := xse) (xms := xms) (xfm := xfm) (xfa := xfa) (g := g) (by omega) (hfr g (by omega)) hM
      obtain ⟨oh', h1, h2⟩ := ih (g + 1) oh1 _ (by omega) a1
      refine ⟨oh', he_M_c h1 (fun o _ => ⟨fun w => ?_, fun w => ?_⟩), fun P m hm hp => ?_⟩
      · rcases w with (w | w) | ⟨j, a, b⟩
        · exact Or.inl w
        · exact Or.inr ⟨g, by omega, by omega, w⟩
        · exact Or.inr ⟨j, by omega, b⟩
      · rcases w with w | ⟨j, a, b, cc⟩
        · exact Or.inl (Or.inl w)
        · by_cases q : j = g
          · rw [q] at cc
            exact Or.inl (Or.inr cc)
          · exact Or.inr ⟨j, by omega, b, cc⟩
      · obtain ⟨m, rfl⟩ : ∃ q, m = q + 1 := ⟨m - 1, by omega⟩
        exact br_f (by rw [hfc]; exact nI_ge (by omega) (by omega)) (a2 _ (nm_r (nI_1 g) (h2 P m (by omega) hp)))
  have k23 : ∀ e c oh (Q : Nat → Prop), c + e = 6 → he_M oh Q → ∃ oh', he_M oh' (fun o => Q o ∨ ∃ r, c ≤ r ∧ r < 6 ∧ he_xr xit xro xsr r o) ∧ ∀ (P : Int32 → SX → Prop) m, e < m → (∃ n, wX_countHeld_68 P n 0 xlim xpc xnd xwc xit xfc xwt xan xlp xpo xpb xwd xwk xnk xco xcb xml xme xro xow xol xla xsh xoe oh' xsr xss xse xms xfm xfa xfd xcv xcr) → wX_countHeld_23 P xlim xpc xnd xwc xit xfc xwt xan xlp m (nI c) xpo xpb xwd xwk xnk xco xcb xml xme xro xow xol xla xsh xoe oh xsr xss xse xms xfm xfa xfd xcv xcr := by
    intro e
    induction e with
    | zero =>
      intro c oh Q hc hM
      refine ⟨oh, he_M_c hM (fun o _ => ⟨Or.inl, fun z => z.elim id (fun ⟨j, h1, h2, _⟩ => absurd h2 (by omega))⟩), fun P m hm hp => ?_⟩
      obtain ⟨m, rfl⟩ : ∃ q, m = q + 1 := ⟨m - 1, by omega⟩
      obtain rfl : c = 6 := by omega
      exact br_t (by decide) hp
    | succ e ih =>
      intro c oh Q hc hM
      have e0 : (nI c).toNatClampNeg = c := nI_clamp (by omega)
      obtain ⟨x, hx, ex⟩ := hro c (by omega)
      have exc : (xro c).toNatClampNeg = x := by rw [ex]; exact nI_clamp (by omega)
      by_cases z : xit = 0
      · obtain ⟨oh', h1, h2⟩ := ih (c + 1) (upd oh x 1) _ (by omega) (he_M_u (x := x) hM)
        refine ⟨oh', he_M_c h1 (fun o ho => ⟨fun w => ?_, fun w => ?_⟩), fun P m hm hp => ?_⟩
        · rcases w with (w | w) | ⟨j, a, b⟩
          · exact Or.inl w
          · exact Or.inr ⟨c, by omega, by omega, Or.inl (by rw [w]; exact ex)⟩
          · exact Or.inr ⟨j, by omega, b⟩
        · rcases w with w | ⟨j, a, b, cc | cc⟩
          · exact Or.inl (Or.inl w)
          · by_cases q : j = c
            · rw [q, he_eq ex hx ho] at cc
              exact Or.inl (Or.inr cc)
            · exact Or.inr ⟨j, by omega, b, Or.inl cc⟩
          · exact absurd z cc.1
        · obtain ⟨m, rfl⟩ : ∃ q, m = q + 1 := ⟨m - 1, by omega⟩
          refine br_f (nI_ge (b := 6) (by omega) (by decide)) ⟨pk_in c 6 (by omega), ?_⟩
          rw [e0]
          exact ⟨pk_in x 9 (by omega) ex, nm_r (by rw [exc, he_b1]) (br_t z (nm_r (nI_1 c) (h2 P m (by omega) hp)))⟩
      · obtain ⟨y, hy, ey⟩ := hsr z c (by omega)
        have eyc : (xsr c).toNatClampNeg = y := by rw [ey]; exact nI_clamp (by omega)
        obtain ⟨oh', h1, h2⟩ := ih (c + 1) (upd (upd oh x 1) y 1) _ (by omega) (he_M_u (x := y) (he_M_u (x := x) hM))
        refine ⟨oh', he_M_c h1 (fun o ho => ⟨fun w => ?_, fun w => ?_⟩), fun P m hm hp => ?_⟩
        · rcases w with ((w | w) | w) | ⟨j, a, b⟩
          · exact Or.inl w
          · exact Or.inr ⟨c, by omega, by omega, Or.inl (by rw [w]; exact ex)⟩
          · exact Or.inr ⟨c, by omega, by omega, Or.inr ⟨z, by rw [w]; exact ey⟩⟩
          · exact Or.inr ⟨j, by omega, b⟩
        · rcases w with w | ⟨j, a, b, cc⟩
          · exact Or.inl (Or.inl (Or.inl w))
          · by_cases q : j = c
            · rw [q] at cc
              rcases cc with cc | cc
              · rw [he_eq ex hx ho] at cc
                exact Or.inl (Or.inl (Or.inr cc))
              · have := (he_eq ey hy ho).mp cc.2
                exact Or.inl (Or.inr this)
            · exact Or.inr ⟨j, by omega, b, cc⟩
        · obtain ⟨m, rfl⟩ : ∃ q, m = q + 1 := ⟨m - 1, by omega⟩
          refine br_f (nI_ge (b := 6) (by omega) (by decide)) ⟨pk_in c 6 (by omega), ?_⟩
          rw [e0]
          exact ⟨pk_in x 9 (by omega) ex, nm_r (by rw [exc, he_b1]) (br_f z ⟨pk_in c 6 (by omega), pk_in y 9 (by omega) ey, nm_r (by rw [eyc, he_b1]) (nm_r (nI_1 c) (h2 P m (by omega) hp))⟩)⟩
  have hM0 : he_M (lo_f (fun _ => 0) 0 9 xoh) (fun _ => False) := fun o ho => by
    rw [lo_i (by omega) (by omega)]
    exact ⟨Or.inl rfl, fun z => absurd z (by decide), fun z => z.elim⟩
  obtain ⟨oh1, a1, a2⟩ := k23 6 0 _ _ (by omega) hM0
  obtain ⟨oh2, b1, b2⟩ := k68 T 0 oh1 _ (by omega) a1
  refine ⟨oh2, he_M_c b1 (fun o _ => ⟨fun w => ?_, fun w => ?_⟩), fun P hp => ?_⟩
  · rcases w with (w | ⟨r, _, hr⟩) | ⟨g, _, hg⟩
    · exact w.elim
    · exact Or.inl ⟨r, hr⟩
    · exact Or.inr ⟨g, hg⟩
  · rcases w with ⟨r, hr⟩ | ⟨g, hg⟩
    · exact Or.inl (Or.inr ⟨r, by omega, hr⟩)
    · exact Or.inr ⟨g, by omega, hg⟩
  · have k2 : ∀ e c m oh, c + e = 9 → e < m → (∃ n, wX_countHeld_23 P xlim xpc xnd xwc xit xfc xwt xan xlp n 0 xpo xpb xwd xwk xnk xco xcb xml xme xro xow xol xla xsh xoe (lo_f (fun _ => 0) c 9 oh) xsr xss xse xms xfm xfa xfd xcv xcr) → wX_countHeld_2 P xlim xpc xnd xwc xit xfc xwt xan xlp m (nI c) xpo xpb xwd xwk xnk xco xcb xml xme xro xow xol xla xsh xoe oh xsr xss xse xms xfm xfa xfd xcv xcr := by
      intro e
      induction e with
      | zero =>
        intro c m oh hc hm hq
        obtain ⟨m, rfl⟩ : ∃ q, m = q + 1 := ⟨m - 1, by omega⟩
        obtain rfl : c = 9 := by omega
        rw [lo_e] at hq
        exact br_t (by decide) hq
      | succ e ih =>
        intro c m oh hc hm hq
        obtain ⟨m, rfl⟩ : ∃ q, m = q + 1 := ⟨m - 1, by omega⟩
        rw [← lo_s (by omega)] at hq
        exact br_f (nI_nlt (a := 8) (by omega) (by decide)) ⟨pk_in c 9 (by omega), nm_r (by rw [nI_clamp (by omega), he_b0]) (nm_r (nI_1 c) (ih (c + 1) m _ (by omega) (by omega) hq))⟩
    exact ⟨10, k2 9 0 10 xoh (by omega) (by omega) ⟨7, a2 P 7 (by omega) ⟨T + 1, b2 P (T + 1) (by omega) hp⟩⟩⟩
/-- the first that isn't marked -/
theorem he_first (P : Int32 → Prop) {q : Nat} (hq : q < 8) (hb : ∀ o, o < q → ¬ xoh (o + 1) = 0) (h0 : q = 7 ∨ xoh (q + 1) = 0) (h : P (nI (q + 1))) : wpX_firstFreeObject P (xlim, xpc, xnd, xwc, xit, xfc, xwt, xan, xlp, xpo, xpb, xwd, xwk, xnk, xco, xcb, xml, xme, xro, xow, xol, xla, xsh, xoe, xoh, xsr, xss, xse, xms, xfm, xfa, xfd, xcv, xcr) := by
  have key : ∀ e c m, c + e = q → e < m → wX_firstFreeObject_2 P xlim xpc xnd xwc xit xfc xwt xan xlp xpo xpb xwd xwk xnk xco xcb xml xme xro xow xol xla xsh xoe xoh xsr xss xse xms xfm xfa xfd xcv xcr m (nI (c + 1)) := by
    intro e
    induction e with
    | zero =>
      intro c m hc hm
      obtain ⟨m, rfl⟩ : ∃ q, m = q + 1 := ⟨m - 1, by omega⟩
      obtain rfl : c = q := by omega
      by_cases e7 : c = 7
      · subst e7
        exact br_t (by decide) h
      · refine br_f (nI_ge (b := 8) (by omega) (by decide)) ⟨pk_in (c + 1) 9 (by omega), ?_⟩
        rw [nI_clamp (by omega)]
        exact br_t (h0.resolve_left e7) h
    | succ e ih =>
      intro c m hc hm
      obtain ⟨m, rfl⟩ : ∃ q, m = q + 1 := ⟨m - 1, by omega⟩
      refine br_f (nI_ge (b := 8) (by omega) (by decide)) ⟨pk_in (c + 1) 9 (by omega), ?_⟩
      rw [nI_clamp (by omega)]
      exact br_f (hb c (by omega)) (nm_r (nI_1 (c + 1)) (ih (c + 1) m (by omega) (by omega)))
  exact ⟨q + 1, key q 0 (q + 1) (by omega) (by omega)⟩
end HX
section HY
variable {ylim ywa ysk ylo yrn ysp yaw yan ywh you ygd yop : Int32}
variable {ymd : Int64}
variable {yops ybs ysz yex yow yle yel yla ysh yro yoe yoh yor yrw ynx ydp ypl ykd ymt ytd yht : Nat → Int32}
variable {yst yos : Nat → Int64}
def he_yf (dp kd pl : Nat → Int32) (g o : Nat) : Prop := ∃ d j, d ≤ 4 ∧ dp g = nI d ∧ j < d + 2 ∧ kd (8 * g + j) = 2 ∧ pl (8 * g + j) = nI o
def he_yr (op : Int32) (ro or_ : Nat → Int32) (r o : Nat) : Prop := ro r = nI o ∨ (¬ op = 0 ∧ or_ r = nI o)
def he_Y (op : Int32) (ro or_ dp kd pl : Nat → Int32) (T o : Nat) : Prop := (∃ r, r < 6 ∧ he_yr op ro or_ r o) ∨ ∃ g, g < T ∧ he_yf dp kd pl g o
theorem he_isHeld (P : Int32 → Prop) {T o : Nat} (hT : T ≤ 4) (hrn : yrn = nI T) (hdp : ∀ g, g < T → ∃ d, d ≤ 4 ∧ ydp g = nI d) (h1 : he_Y yop yro yor ydp ykd ypl T o → P 1) (h0 : ¬ he_Y yop yro yor ydp ykd ypl T o → P 0) : wpY_isHeld P (ylim, ywa, ysk, ylo, yrn, ysp, yaw, yan, ywh, you, ymd, ygd, yop, yops, ybs, ysz, yex, yst, yow, yle, yel, yla, ysh, yro, yos, yoe, yoh, yor, yrw, ynx, ydp, ypl, ykd, ymt, ytd, yht) (nI o) := by
  have k45 : (∀ r, r < 6 → ¬ he_yr yop yro yor r o) → ∀ e g m, g + e = T → e < m → (∀ g', g' < g → ¬ he_yf ydp ykd ypl g' o) → wY_isHeld_45 P (nI o) ylim ywa ysk ylo yrn ysp yaw yan ywh you ymd ygd yop yops ybs ysz yex yst yow yle yel yla ysh yro yos yoe yoh yor yrw ynx ydp ypl ykd ymt ytd yht m (nI g) := by
    intro hr e
    induction e with
    | zero =>
      intro g m hg hm hf
      obtain ⟨m, rfl⟩ : ∃ q, m = q + 1 := ⟨m - 1, by omega⟩
      refine br_t (by rw [hrn]; exact nI_le (by omega) (by omega)) (h0 (fun z => ?_))
      rcases z with ⟨r, a, b⟩ | ⟨g', a, b⟩
      · exact hr r a b
      · exact hf g' (by omega) b
    | succ e ih =>
      intro g m hg hm hf
      obtain ⟨m, rfl⟩ : ∃ q, m = q + 1 := ⟨m - 1, by omega⟩
      obtain ⟨d, hd4, hd⟩ := hdp g (by omega)
      have e0 : (nI g).toNatClampNeg = g := nI_clamp (by omega)
      have e8 : (8 : Int32) * nI g + 2 + ydp (nI g).toNatClampNeg = nI (8 * g + (d + 2)) := by rw [e0, hd, pr_8]
      have k58 : ∀ e' c m', c + e' = d + 2 → e' < m' → (∀ j, j < c → ¬ (ykd (8 * g + j) = 2 ∧ ypl (8 * g + j) = nI o)) → wY_isHeld_58 P (wY_isHeld_45 P (nI o) ylim ywa ysk ylo yrn ysp yaw yan ywh you ymd ygd yop yops ybs ysz yex yst yow yle yel yla ysh yro yos yoe yoh yor yrw ynx ydp ypl ykd ymt ytd yht m) (nI o) (nI g) ylim ywa ysk ylo yrn ysp yaw yan ywh you ymd ygd yop yops ybs ysz yex yst yow yle yel yla ysh yro yos yoe yoh yor yrw ynx ydp ypl ykd ymt ytd yht m' (nI (8 * g + c)) := by
        intro e'
        induction e' with
        | zero =>
          intro c m' hc hm' hj
          obtain ⟨m', rfl⟩ : ∃ q, m' = q + 1 := ⟨m' - 1, by omega⟩
          refine ⟨pk_in g 4 (by omega), ?_⟩
          rw [e8]
          refine br_t (nI_le (by omega) (by omega)) (nm_r (nI_1 g) (ih (g + 1) m (by omega) (by omega) (fun g' hg' => ?_)))
          by_cases q : g' = g
          · rw [q]
            intro ⟨d', j, a1, a2, a3, a4⟩
            rw [hd] at a2
            have : d = d' := (nI_eq (by omega) (by omega)).mp a2
            exact hj j (by omega) a4
          · exact hf g' (by omega)
        | succ e' ih' =>
          intro c m' hc hm' hj
          obtain ⟨m', rfl⟩ : ∃ q, m' = q + 1 := ⟨m' - 1, by omega⟩
          have ec : (nI (8 * g + c)).toNatClampNeg = 8 * g + c := nI_clamp (by omega)
          refine ⟨pk_in g 4 (by omega), ?_⟩
          rw [e8]
          refine br_f (nI_ge (by omega) (by omega)) ⟨vp_in_nI (by omega) (by omega), ?_⟩
          rw [ec]
          have next : ¬ (ykd (8 * g + c) = 2 ∧ ypl (8 * g + c) = nI o) → wY_isHeld_58 P (wY_isHeld_45 P (nI o) ylim ywa ysk ylo yrn ysp yaw yan ywh you ymd ygd yop yops ybs ysz yex yst yow yle yel yla ysh yro yos yoe yoh yor yrw ynx ydp ypl ykd ymt ytd yht m) (nI o) (nI g) ylim ywa ysk ylo yrn ysp yaw yan ywh you ymd ygd yop yops ybs ysz yex yst yow yle yel yla ysh yro yos yoe yoh yor yrw ynx ydp ypl ykd ymt ytd yht m' (nI (8 * g + c + 1)) := fun w => ih' (c + 1) m' (by omega) (by omega) (fun j hj' => by
            by_cases q : j = c
            · rw [q]; exact w
            · exact hj j (by omega))
          exact br_c (fun z => ⟨vp_in_nI (by omega) (by omega), br_c (fun y => h1 (Or.inr ⟨g, by omega, d, c, hd4, hd, by omega, z, y⟩)) (fun y => nm_r (nI_1 _) (next (fun w => y w.2)))⟩) (fun z => nm_r (nI_1 _) (next (fun w => z w.1)))
      exact br_f (by rw [hrn]; exact nI_ge (by omega) (by omega)) (nm_r (show (8 : Int32) * nI g = nI (8 * g + 0) from pk_mul 8 g) ⟨d + 3, k58 (d + 2) 0 (d + 3) (by omega) (by omega) (fun j hj => absurd hj (by omega))⟩)
  have k2 : ∀ e c m, c + e = 6 → e < m → (∀ r, r < c → ¬ he_yr yop yro yor r o) → wY_isHeld_2 P (nI o) ylim ywa ysk ylo yrn ysp yaw yan ywh you ymd ygd yop yops ybs ysz yex yst yow yle yel yla ysh yro yos yoe yoh yor yrw ynx ydp ypl ykd ymt ytd yht m (nI c) := by
    intro e
    induction e with
    | zero =>
      intro c m hc hm hr
      obtain ⟨m, rfl⟩ : ∃ q, m = q + 1 := ⟨m - 1, by omega⟩
      obtain rfl : c = 6 := by omega
      exact br_t (by decide) ⟨T + 1, k45 hr T 0 (T + 1) (by omega) (by omega) (fun g' hg' => absurd hg' (by omega))⟩
    | succ e ih =>
      intro c m hc hm hr
      obtain ⟨m, rfl⟩ : ∃ q, m = q + 1 := ⟨m - 1, by omega⟩
      have e0 : (nI c).toNatClampNeg = c := nI_clamp (by omega)
      have next : ¬ he_yr yop yro yor c o → wY_isHeld_2 P (nI o) ylim ywa ysk ylo yrn ysp yaw yan ywh you ymd ygd yop yops ybs ysz yex yst yow yle yel yla ysh yro yos yoe yoh yor yrw ynx ydp ypl ykd ymt ytd yht m (nI (c + 1)) := fun w => ih (c + 1) m (by omega) (by omega) (fun r hr' => by
        by_cases q : r = c
        · rw [q]; exact w
        · exact hr r (by omega))
      refine br_f (nI_ge (b := 6) (by omega) (by decide)) ⟨pk_in c 6 (by omega), ?_⟩
      rw [e0]
      exact br_c (fun z => h1 (Or.inl ⟨c, by omega, Or.inl z⟩)) (fun z => br_c (fun y => nm_r (nI_1 c) (next (fun w => w.elim z (fun x => x.1 y)))) (fun y => ⟨pk_in c 6 (by omega), br_c (fun x => h1 (Or.inl ⟨c, by omega, Or.inr ⟨y, x⟩⟩)) (fun x => nm_r (nI_1 c) (next (fun w => w.elim z (fun v => x v.2))))⟩))
  exact ⟨7, k2 6 0 7 (by omega) (by omega) (fun r hr => absurd hr (by omega))⟩
theorem he_free (P : Int32 → Prop) {T : Nat} (hT : T ≤ 4) (hrn : yrn = nI T) (hdp : ∀ g, g < T → ∃ d, d ≤ 4 ∧ ydp g = nI d) (h1 : ∀ q, q < 8 → (∀ o, o < q → he_Y yop yro yor ydp ykd ypl T o) → ¬ he_Y yop yro yor ydp ykd ypl T q → P (nI q)) (h0 : (∀ o, o < 8 → he_Y yop yro yor ydp ykd ypl T o) → P (-1)) : wpY_free P (ylim, ywa, ysk, ylo, yrn, ysp, yaw, yan, ywh, you, ymd, ygd, yop, yops, ybs, ysz, yex, yst, yow, yle, yel, yla, ysh, yro, yos, yoe, yoh, yor, yrw, ynx, ydp, ypl, ykd, ymt, ytd, yht) := by
  have key : ∀ e c m, c + e = 8 → e < m → (∀ o, o < c → he_Y yop yro yor ydp ykd ypl T o) → wY_free_2 P ylim ywa ysk ylo yrn ysp yaw yan ywh you ymd ygd yop yops ybs ysz yex yst yow yle yel yla ysh yro yos yoe yoh yor yrw ynx ydp ypl ykd ymt ytd yht m (nI c) := by
    intro e
    induction e with
    | zero =>
      intro c m hc hm hb
      obtain ⟨m, rfl⟩ : ∃ q, m = q + 1 := ⟨m - 1, by omega⟩
      obtain rfl : c = 8 := by omega
      exact br_t (by decide) (h0 hb)
    | succ e ih =>
      intro c m hc hm hb
      obtain ⟨m, rfl⟩ : ∃ q, m = q + 1 := ⟨m - 1, by omega⟩
      refine br_f (nI_ge (b := 8) (by omega) (by decide)) (he_isHeld _ hT hrn hdp (fun z => br_f (by decide) (nm_r (nI_1 c) (ih (c + 1) m (by omega) (by omega) (fun o ho => ?_)))) (fun z => br_t rfl (h1 c (by omega) hb z)))
      by_cases q : o = c
      · rw [q]; exact z
      · exact hb o (by omega)
  exact ⟨9, key 8 0 9 (by omega) (by omega) (fun o ho => absurd ho (by omega))⟩
theorem he_or : ∀ x : Int32, (x = 0 ∨ x = 1) → x ||| 1 = 1 ∧ x ||| 0 = x := by
  intro x h
  rcases h with rfl | rfl
  · decide
  · decide
theorem he_held (P : Int32 → Prop) {G : Nat → Nat} (hG : ∀ o, o < 8 → (G o = 0 ∨ G o = 1) ∧ (G o = 1 ↔ ∃ r, r < 6 ∧ yro r = nI o)) (h : P (nI (ck_sm G 8))) : wpY_held P (ylim, ywa, ysk, ylo, yrn, ysp, yaw, yan, ywh, you, ymd, ygd, yop, yops, ybs, ysz, yex, yst, yow, yle, yel, yla, ysh, yro, yos, yoe, yoh, yor, yrw, ynx, ydp, ypl, ykd, ymt, ytd, yht) := by
  have key : ∀ e c m, c + e = 8 → e < m → wY_held_4 P ylim ywa ysk ylo yrn ysp yaw yan ywh you ymd ygd yop yops ybs ysz yex yst yow yle yel yla ysh yro yos yoe yoh yor yrw ynx ydp ypl ykd ymt ytd yht m (nI (ck_sm G c)) (nI c) := by
    intro e
    induction e with
    | zero =>
      intro c m hc hm
      obtain ⟨m, rfl⟩ : ∃ q, m = q + 1 := ⟨m - 1, by omega⟩
      obtain rfl : c = 8 := by omega
      exact br_t (by decide) h
    | succ e ih =>
      intro c m hc hm
      obtain ⟨m, rfl⟩ : ∃ q, m = q + 1 := ⟨m - 1, by omega⟩
      have i := ih (c + 1) m (by omega) (by omega)
      have es : ck_sm G (c + 1) = ck_sm G c + G c := rfl
      rw [es] at i
      obtain ⟨g1, g2⟩ := hG c (by omega)
      have k15 : ∀ e' r m' x, r + e' = 6 → e' < m' → (x = 0 ∨ x = 1) → (x = 1 ↔ ∃ r', r' < r ∧ yro r' = nI c) → wY_held_15 P (wY_held_4 P ylim ywa ysk ylo yrn ysp yaw yan ywh you ymd ygd yop yops ybs ysz yex yst yow yle yel yla ysh yro yos yoe yoh yor yrw ynx ydp ypl ykd ymt ytd yht m) (nI (ck_sm G c)) (nI c) ylim ywa ysk ylo yrn ysp yaw yan ywh you ymd ygd yop yops ybs ysz yex yst yow yle yel yla ysh yro yos yoe yoh yor yrw ynx ydp ypl ykd ymt ytd yht m' x (nI r) := by
        intro e'
        induction e' with
        | zero =>
          intro r m' x hr hm' hx hxr
          obtain ⟨m', rfl⟩ : ∃ q, m' = q + 1 := ⟨m' - 1, by omega⟩
          obtain rfl : r = 6 := by omega
          refine br_t (by decide) (br_c (fun z => nm_r (nI_1 c) ?_) (fun z => nm_r (nI_1 _) (nm_r (nI_1 c) ?_)))
          · have : G c = 0 := by
              rcases g1 with q | q
              · exact q
              · have := hxr.mpr (g2.mp q)
                rw [z] at this
                exact absurd this (by decide)
            rw [this] at i
            exact i
          · have : G c = 1 := g2.mpr (hxr.mp (hx.resolve_left z))
            rw [this] at i
            exact i
        | succ e' ih' =>
          intro r m' x hr hm' hx hxr
          obtain ⟨m', rfl⟩ : ∃ q, m' = q + 1 := ⟨m' - 1, by omega⟩
          have e0 : (nI r).toNatClampNeg = r := nI_clamp (by omega)
          refine br_f (nI_ge (b := 6) (by omega) (by decide)) ⟨pk_in r 6 (by omega), ?_⟩
          rw [e0]
          refine br_c (fun z => nm_r (he_or x hx).1 (nm_r (nI_1 r) (ih' (r + 1) m' 1 (by omega) (by omega) (Or.inr rfl) ⟨fun _ => ⟨r, by omega, z⟩, fun _ => rfl⟩))) (fun z => nm_r (he_or x hx).2 (nm_r (nI_1 r) (ih' (r + 1) m' x (by omega) (by omega) hx ⟨fun w => ?_, fun w => ?_⟩)))
          · obtain ⟨r', a, b⟩ := hxr.mp w
            exact ⟨r', by omega, b⟩
          · obtain ⟨r', a, b⟩ := w
            by_cases q : r' = r
            · rw [q] at b
              exact absurd b z
            · exact hxr.mpr ⟨r', by omega, b⟩
      exact br_f (nI_ge (b := 8) (by omega) (by decide)) ⟨7, k15 6 0 7 0 (by omega) (by omega) (Or.inl rfl) ⟨fun z => absurd z (by decide), fun ⟨r', a, _⟩ => absurd a (by omega)⟩⟩
  exact ⟨9, key 8 0 9 (by omega) (by omega)⟩
end HY
