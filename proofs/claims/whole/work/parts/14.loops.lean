/-! LOOPS THAT FILL ARRAYS: clearing, undoing, beginning, losing power -/
def lo_f (val : Nat → Int32) (l h : Nat) (a : Nat → Int32) : Nat → Int32 := fun i => if l ≤ i ∧ i < h then val i else a i
def lo_L (val : Nat → Int64) (l h : Nat) (a : Nat → Int64) : Nat → Int64 := fun i => if l ≤ i ∧ i < h then val i else a i
theorem lo_i {val a : Nat → Int32} {l h i : Nat} (h1 : l ≤ i) (h2 : i < h) : lo_f val l h a i = val i := if_pos ⟨h1, h2⟩
theorem lo_o {val a : Nat → Int32} {l h i : Nat} (hn : ¬ (l ≤ i ∧ i < h)) : lo_f val l h a i = a i := if_neg hn
theorem lo_Li {val a : Nat → Int64} {l h i : Nat} (h1 : l ≤ i) (h2 : i < h) : lo_L val l h a i = val i := if_pos ⟨h1, h2⟩
theorem lo_e {val a : Nat → Int32} {h : Nat} : lo_f val h h a = a := by
  funext i
  exact lo_o (by omega)
theorem lo_Le {val a : Nat → Int64} {h : Nat} : lo_L val h h a = a := by
  funext i
  exact if_neg (by omega)
theorem lo_s {val a : Nat → Int32} {l h : Nat} (hl : l < h) : lo_f val (l + 1) h (upd a l (val l)) = lo_f val l h a := by
  funext i
  by_cases e : i = l
  · rw [e, lo_o (by omega), pk_us, lo_i (by omega) hl]
  · by_cases h1 : l + 1 ≤ i ∧ i < h
    · rw [lo_i h1.1 h1.2, lo_i (by omega) h1.2]
    · rw [lo_o h1, pk_un e, lo_o (by omega)]
theorem lo_Ls {val a : Nat → Int64} {l h : Nat} (hl : l < h) : lo_L val (l + 1) h (vp_updL a l (val l)) = lo_L val l h a := by
  funext i
  unfold lo_L
  by_cases e : i = l
  · subst e
    rw [if_neg (by omega), pk_uLs, if_pos (by omega)]
  · by_cases h1 : l + 1 ≤ i ∧ i < h
    · rw [if_pos h1, if_pos (by omega)]
    · rw [if_neg h1, pk_uLn e, if_neg (by omega)]
/-- elements cleared of every object from o on that isn't lasting -/
def lo_p (la : Nat → Int32) (o : Nat) (a : Nat → Int32) : Nat → Int32 := fun i => if 4 * o ≤ i ∧ i < 36 ∧ la (i / 4) = 0 then 0 else a i
theorem lo_p_s {la a : Nat → Int32} {o : Nat} (ho : o ≤ 8) (h : la o = 0) : lo_p la (o + 1) (lo_f (fun _ => 0) (4 * o) (4 * o + 4) a) = lo_p la o a := by
  funext i
  unfold lo_p
  by_cases h1 : 4 * (o + 1) ≤ i ∧ i < 36 ∧ la (i / 4) = 0
  · rw [if_pos h1, if_pos ⟨by omega, h1.2⟩]
  · rw [if_neg h1]
    by_cases h2 : 4 * o ≤ i ∧ i < 4 * o + 4
    · have : i / 4 = o := by omega
      rw [lo_i h2.1 h2.2, this, if_pos ⟨h2.1, by omega, h⟩]
    · rw [lo_o h2, if_neg (fun z => h1 ⟨by omega, z.2⟩)]
theorem lo_p_n {la a : Nat → Int32} {o : Nat} (h : ¬ la o = 0) : lo_p la (o + 1) a = lo_p la o a := by
  funext i
  unfold lo_p
  by_cases h1 : 4 * (o + 1) ≤ i ∧ i < 36 ∧ la (i / 4) = 0
  · rw [if_pos h1, if_pos ⟨by omega, h1.2⟩]
  · rw [if_neg h1, if_neg (fun z => ?_)]
    by_cases h2 : i < 4 * (o + 1)
    · have : i / 4 = o := by omega
      rw [this] at z
      exact h z.2.2
    · exact h1 ⟨by omega, z.2⟩
theorem lo_p_e {la a : Nat → Int32} : lo_p la 9 a = a := by
  funext i
  exact if_neg (by omega)
/-- the component's undo -/
def lo_xs (ms ss : Nat → Int32) (o : Nat) (a : Nat → Int32) : Nat → Int32 := fun i => if o ≤ i ∧ i < 9 ∧ ms i = 0 then vp_nar .boolean (ss i) else a i
def lo_xe (ms la se : Nat → Int32) (o : Nat) (a : Nat → Int32) : Nat → Int32 := fun i => if 4 * o ≤ i ∧ i < 36 ∧ ms (i / 4) = 0 ∧ ¬ la (i / 4) = 0 then se i else a i
theorem lo_xs_s {ms ss a : Nat → Int32} {o : Nat} (ho : o ≤ 8) (h : ms o = 0) : lo_xs ms ss (o + 1) (upd a o (vp_nar .boolean (ss o))) = lo_xs ms ss o a := by
  funext i
  unfold lo_xs
  by_cases e : i = o
  · subst e
    rw [if_neg (by omega), pk_us, if_pos ⟨by omega, by omega, h⟩]
  · rw [pk_un e]
    by_cases h1 : o + 1 ≤ i ∧ i < 9 ∧ ms i = 0
    · rw [if_pos h1, if_pos ⟨by omega, h1.2⟩]
    · rw [if_neg h1, if_neg (fun z => h1 ⟨by omega, z.2⟩)]
theorem lo_xs_n {ms ss a : Nat → Int32} {o : Nat} (h : ¬ ms o = 0) : lo_xs ms ss (o + 1) a = lo_xs ms ss o a := by
  funext i
  unfold lo_xs
  by_cases e : i = o
  · subst e
    rw [if_neg (by omega), if_neg (fun z => h z.2.2)]
  · by_cases h1 : o + 1 ≤ i ∧ i < 9 ∧ ms i = 0
    · rw [if_pos h1, if_pos ⟨by omega, h1.2⟩]
    · rw [if_neg h1, if_neg (fun z => h1 ⟨by omega, z.2⟩)]
theorem lo_xs_e {ms ss a : Nat → Int32} : lo_xs ms ss 9 a = a := by
  funext i
  exact if_neg (by omega)
theorem lo_xe_s {ms la se a : Nat → Int32} {o : Nat} (ho : o ≤ 8) (h : ms o = 0) (hl : ¬ la o = 0) : lo_xe ms la se (o + 1) (lo_f se (4 * o) (4 * o + 4) a) = lo_xe ms la se o a := by
  funext i
  unfold lo_xe
  by_cases h1 : 4 * (o + 1) ≤ i ∧ i < 36 ∧ ms (i / 4) = 0 ∧ ¬ la (i / 4) = 0
  · rw [if_pos h1, if_pos ⟨by omega, h1.2⟩]
  · rw [if_neg h1]
    by_cases h2 : 4 * o ≤ i ∧ i < 4 * o + 4
    · have : i / 4 = o := by omega
      rw [lo_i h2.1 h2.2, this, if_pos ⟨h2.1, by omega, h, hl⟩]
    · rw [lo_o h2, if_neg (fun z => h1 ⟨by omega, z.2⟩)]
theorem lo_xe_n {ms la se a : Nat → Int32} {o : Nat} (h : ¬ (ms o = 0 ∧ ¬ la o = 0)) : lo_xe ms la se (o + 1) a = lo_xe ms la se o a := by
  funext i
  unfold lo_xe
  by_cases h1 : 4 * (o + 1) ≤ i ∧ i < 36 ∧ ms (i / 4) = 0 ∧ ¬ la (i / 4) = 0
  · rw [if_pos h1, if_pos ⟨by omega, h1.2⟩]
  · rw [if_neg h1, if_neg (fun z => ?_)]
    by_cases h2 : i < 4 * (o + 1)
    · have : i / 4 = o := by omega
      rw [this] at z
      exact h z.2.2
    · exact h1 ⟨by omega, z.2⟩
theorem lo_xe_e {ms la se a : Nat → Int32} : lo_xe ms la se 9 a = a := by
  funext i
  exact if_neg (by omega)
theorem lo_4 (o : Nat) : (4 : Int32) * nI o = nI (4 * o) := pk_mul 4 o
theorem lo_41 (o : Nat) : (4 : Int32) * (nI o + 1) = nI (4 * o + 4) := by
  rw [nI_1, lo_4]
  exact congrArg nI (by omega)
section LX
variable {xlim xpc xnd xwc xit xfc xwt xan xlp : Int32}
variable {xpo xpb xwd xwk xnk xco xcb xml xme xro xow xol xla xsh xoe xoh xsr xss xse xms xfm xfa xfd xcv xcr : Nat → Int32}
theorem lo_clear (P : SX → Prop) {o : Nat} (ho : o ≤ 8) (h : P (xlim, xpc, xnd, xwc, xit, xfc, xwt, xan, xlp, xpo, xpb, xwd, xwk, xnk, xco, xcb, xml, xme, xro, xow, xol, xla, xsh, lo_f (fun _ => 0) (4 * o) (4 * o + 4) xoe, xoh, xsr, xss, xse, xms, xfm, xfa, xfd, xcv, xcr)) : wpX_clearElements P (xlim, xpc, xnd, xwc, xit, xfc, xwt, xan, xlp, xpo, xpb, xwd, xwk, xnk, xco, xcb, xml, xme, xro, xow, xol, xla, xsh, xoe, xoh, xsr, xss, xse, xms, xfm, xfa, xfd, xcv, xcr) (nI o) := by
  have key : ∀ e c m oe, c + e = 4 * o + 4 → e < m → P (xlim, xpc, xnd, xwc, xit, xfc, xwt, xan, xlp, xpo, xpb, xwd, xwk, xnk, xco, xcb, xml, xme, xro, xow, xol, xla, xsh, lo_f (fun _ => 0) c (4 * o + 4) oe, xoh, xsr, xss, xse, xms, xfm, xfa, xfd, xcv, xcr) → wX_clearElements_4 P (nI o) xlim xpc xnd xwc xit xfc xwt xan xlp m (nI c) xpo xpb xwd xwk xnk xco xcb xml xme xro xow xol xla xsh oe xoh xsr xss xse xms xfm xfa xfd xcv xcr := by
    intro e
    induction e with
    | zero =>
      intro c m oe hc hm hp
      obtain ⟨m, rfl⟩ : ∃ q, m = q + 1 := ⟨m - 1, by omega⟩
      obtain rfl : c = 4 * o + 4 := by omega
      rw [lo_e] at hp
      exact br_t (by rw [lo_41]; exact nI_le (Nat.le_refl _) (by omega)) hp
    | succ e ih =>
      intro c m oe hc hm hp
      obtain ⟨m, rfl⟩ : ∃ q, m = q + 1 := ⟨m - 1, by omega⟩
      rw [← lo_s (by omega)] at hp
      refine br_f (by rw [lo_41]; exact nI_ge (by omega) (by omega)) ⟨pk_in c 36 (by omega), nm_r (by rw [nI_clamp (by omega)]) (nm_r (nI_1 c) (ih (c + 1) m _ (by omega) (by omega) hp))⟩
  exact nm_r (lo_4 o) ⟨5, key 4 (4 * o) 5 xoe (by omega) (by omega) h⟩
theorem lo_restore (P : SX → Prop) {o : Nat} (ho : o ≤ 8) (h : P (xlim, xpc, xnd, xwc, xit, xfc, xwt, xan, xlp, xpo, xpb, xwd, xwk, xnk, xco, xcb, xml, xme, xro, xow, xol, xla, xsh, lo_f xse (4 * o) (4 * o + 4) xoe, xoh, xsr, xss, xse, xms, xfm, xfa, xfd, xcv, xcr)) : wpX_restoreElements P (xlim, xpc, xnd, xwc, xit, xfc, xwt, xan, xlp, xpo, xpb, xwd, xwk, xnk, xco, xcb, xml, xme, xro, xow, xol, xla, xsh, xoe, xoh, xsr, xss, xse, xms, xfm, xfa, xfd, xcv, xcr) (nI o) := by
  have key : ∀ e c m oe, c + e = 4 * o + 4 → e < m → P (xlim, xpc, xnd, xwc, xit, xfc, xwt, xan, xlp, xpo, xpb, xwd, xwk, xnk, xco, xcb, xml, xme, xro, xow, xol, xla, xsh, lo_f xse c (4 * o + 4) oe, xoh, xsr, xss, xse, xms, xfm, xfa, xfd, xcv, xcr) → wX_restoreElements_4 P (nI o) xlim xpc xnd xwc xit xfc xwt xan xlp m (nI c) xpo xpb xwd xwk xnk xco xcb xml xme xro xow xol xla xsh oe xoh xsr xss xse xms xfm xfa xfd xcv xcr := by
    intro e
    induction e with
    | zero =>
      intro c m oe hc hm hp
      obtain ⟨m, rfl⟩ : ∃ q, m = q + 1 := ⟨m - 1, by omega⟩
      obtain rfl : c = 4 * o + 4 := by omega
      rw [lo_e] at hp
      exact br_t (by rw [lo_41]; exact nI_le (Nat.le_refl _) (by omega)) hp
    | succ e ih =>
      intro c m oe hc hm hp
      obtain ⟨m, rfl⟩ : ∃ q, m = q + 1 := ⟨m - 1, by omega⟩
      rw [← lo_s (by omega)] at hp
      refine br_f (by rw [lo_41]; exact nI_ge (by omega) (by omega)) ⟨pk_in c 36 (by omega), pk_in c 36 (by omega), nm_r (by rw [nI_clamp (by omega)]) (nm_r (nI_1 c) (ih (c + 1) m _ (by omega) (by omega) hp))⟩
  exact nm_r (lo_4 o) ⟨5, key 4 (4 * o) 5 xoe (by omega) (by omega) h⟩
theorem lo_lose (P : SX → Prop) (h : P (xlim, xpc, xnd, xwc, xit, xfc, -1, xan, xlp, xpo, xpb, xwd, xwk, xnk, xco, xcb, xml, xme, xro, xow, xol, xla, xsh, lo_p xla 1 xoe, xoh, xsr, xss, xse, xms, xfm, xfa, xfd, xcv, xcr)) : wpX_losePower P (xlim, xpc, xnd, xwc, xit, xfc, xwt, xan, xlp, xpo, xpb, xwd, xwk, xnk, xco, xcb, xml, xme, xro, xow, xol, xla, xsh, xoe, xoh, xsr, xss, xse, xms, xfm, xfa, xfd, xcv, xcr) := by
  have key : ∀ e o m oe, o + e = 9 → e < m → P (xlim, xpc, xnd, xwc, xit, xfc, -1, xan, xlp, xpo, xpb, xwd, xwk, xnk, xco, xcb, xml, xme, xro, xow, xol, xla, xsh, lo_p xla o oe, xoh, xsr, xss, xse, xms, xfm, xfa, xfd, xcv, xcr) → wX_losePower_7 P m (nI o) xlim xpc xnd xwc xit xfc (-1) xan xlp xpo xpb xwd xwk xnk xco xcb xml xme xro xow xol xla xsh oe xoh xsr xss xse xms xfm xfa xfd xcv xcr := by
    intro e
    induction e with
    | zero =>
      intro o m oe hc hm hp
      obtain ⟨m, rfl⟩ : ∃ q, m = q + 1 := ⟨m - 1, by omega⟩
      obtain rfl : o = 9 := by omega
      rw [lo_p_e] at hp
      exact br_t (by decide) hp
    | succ e ih =>
      intro o m oe hc hm hp
      obtain ⟨m, rfl⟩ : ∃ q, m = q + 1 := ⟨m - 1, by omega⟩
      refine br_f (nI_nlt (a := 8) (by omega) (by decide)) ⟨pk_in o 9 (by omega), ?_⟩
      rw [nI_clamp (by omega)]
      refine br_c (fun z => lo_clear _ (by omega) (nm_r (nI_1 o) (ih (o + 1) m _ (by omega) (by omega) ?_))) (fun z => nm_r (nI_1 o) (ih (o + 1) m _ (by omega) (by omega) ?_))
      · rw [lo_p_s (by omega) z]
        exact hp
      · rw [lo_p_n z]
        exact hp
  exact ⟨9, key 8 1 9 xoe (by omega) (by omega) h⟩
theorem lo_xundo (P : SX → Prop) (h : P (xlim, xpc, xnd, xwc, 0, xfc, xwt, xan, xlp, xpo, xpb, xwd, xwk, xnk, xco, xcb, xml, xme, lo_f xsr 0 6 xro, xow, xol, xla, lo_xs xms xss 1 xsh, lo_xe xms xla xse 1 xoe, xoh, xsr, xss, xse, xms, xfm, xfa, xfd, xcv, xcr)) : wpX_undo P (xlim, xpc, xnd, xwc, xit, xfc, xwt, xan, xlp, xpo, xpb, xwd, xwk, xnk, xco, xcb, xml, xme, xro, xow, xol, xla, xsh, xoe, xoh, xsr, xss, xse, xms, xfm, xfa, xfd, xcv, xcr) := by
  have k2 : ∀ e o m ro sh oe, o + e = 9 → e < m → P (xlim, xpc, xnd, xwc, 0, xfc, xwt, xan, xlp, xpo, xpb, xwd, xwk, xnk, xco, xcb, xml, xme, ro, xow, xol, xla, lo_xs xms xss o sh, lo_xe xms xla xse o oe, xoh, xsr, xss, xse, xms, xfm, xfa, xfd, xcv, xcr) → wX_undo_33 P m (nI o) xlim xpc xnd xwc 0 xfc xwt xan xlp xpo xpb xwd xwk xnk xco xcb xml xme ro xow xol xla sh oe xoh xsr xss xse xms xfm xfa xfd xcv xcr := by
    intro e
    induction e with
    | zero =>
      intro o m ro sh oe hc hm hp
      obtain ⟨m, rfl⟩ : ∃ q, m = q + 1 := ⟨m - 1, by omega⟩
      obtain rfl : o = 9 := by omega
      rw [lo_xs_e, lo_xe_e] at hp
      exact br_t (by decide) hp
    | succ e ih =>
      intro o m ro sh oe hc hm hp
      obtain ⟨m, rfl⟩ : ∃ q, m = q + 1 := ⟨m - 1, by omega⟩
      have e0 : (nI o).toNatClampNeg = o := nI_clamp (by omega)
      have j60 : ∀ sh', lo_xs xms xss (o + 1) sh' = lo_xs xms xss o sh → wX_undo_60 P (wX_undo_33 P m) (nI o) xlim xpc xnd xwc 0 xfc xwt xan xlp xpo xpb xwd xwk xnk xco xcb xml xme ro xow xol xla sh' oe xoh xsr xss xse xms xfm xfa xfd xcv xcr := fun sh' hs => by
        rw [← hs] at hp
        refine ⟨pk_in o 9 (by omega), ?_⟩
        rw [e0]
        refine br_c (fun z => ⟨pk_in o 9 (by omega), ?_⟩) (fun z => nm_r (nI_1 o) (ih (o + 1) m ro sh' oe (by omega) (by omega) ?_))
        · refine br_c (fun y => nm_r (nI_1 o) (ih (o + 1) m ro sh' oe (by omega) (by omega) ?_)) (fun y => lo_restore _ (by omega) (nm_r (nI_1 o) (ih (o + 1) m ro sh' _ (by omega) (by omega) ?_)))
          · rw [lo_xe_n (fun q => q.2 y)]
            exact hp
          · rw [lo_xe_s (by omega) z y]
            exact hp
        · rw [lo_xe_n (fun q => z q.1)]
          exact hp
      refine br_f (nI_nlt (a := 8) (by omega) (by decide)) ⟨pk_in o 9 (by omega), ?_⟩
      rw [e0]
      exact br_c (fun z => ⟨pk_in o 9 (by omega), pk_in o 9 (by omega), nm_e (j60 _ (lo_xs_s (by omega) z))⟩) (fun z => j60 _ (lo_xs_n z))
  have k1 : ∀ e c m ro, c + e = 6 → e < m → P (xlim, xpc, xnd, xwc, 0, xfc, xwt, xan, xlp, xpo, xpb, xwd, xwk, xnk, xco, xcb, xml, xme, lo_f xsr c 6 ro, xow, xol, xla, lo_xs xms xss 1 xsh, lo_xe xms xla xse 1 xoe, xoh, xsr, xss, xse, xms, xfm, xfa, xfd, xcv, xcr) → wX_undo_7 P xlim xpc xnd xwc 0 xfc xwt xan xlp m (nI c) xpo xpb xwd xwk xnk xco xcb xml xme ro xow xol xla xsh xoe xoh xsr xss xse xms xfm xfa xfd xcv xcr := by
    intro e
    induction e with
    | zero =>
      intro c m ro hc hm hp
      obtain ⟨m, rfl⟩ : ∃ q, m = q + 1 := ⟨m - 1, by omega⟩
      obtain rfl : c = 6 := by omega
      rw [lo_e] at hp
      exact br_t (by decide) ⟨9, k2 8 1 9 ro xsh xoe (by omega) (by omega) hp⟩
    | succ e ih =>
      intro c m ro hc hm hp
      obtain ⟨m, rfl⟩ : ∃ q, m = q + 1 := ⟨m - 1, by omega⟩
      rw [← lo_s (by omega)] at hp
      refine br_f (nI_ge (b := 6) (by omega) (by decide)) ⟨pk_in c 6 (by omega), pk_in c 6 (by omega), nm_r (by rw [nI_clamp (by omega)]) (nm_r (nI_1 c) (ih (c + 1) m _ (by omega) (by omega) hp))⟩
  exact ⟨7, k1 6 0 7 xro (by omega) (by omega) h⟩
theorem lo_xbegin (P : SX → Prop) (h : P (xlim, xpc, xnd, xwc, 1, xfc, xwt, xan, xlp, xpo, xpb, xwd, xwk, xnk, xco, xcb, xml, xme, xro, xow, xol, xla, xsh, xoe, xoh, lo_f xro 0 6 xsr, lo_f (fun i => vp_nar .boolean (xsh i)) 1 9 xss, lo_f xoe 0 36 xse, lo_f (fun _ => vp_nar .boolean 0) 1 9 xms, xfm, xfa, xfd, xcv, xcr)) : wpX_begin P (xlim, xpc, xnd, xwc, xit, xfc, xwt, xan, xlp, xpo, xpb, xwd, xwk, xnk, xco, xcb, xml, xme, xro, xow, xol, xla, xsh, xoe, xoh, xsr, xss, xse, xms, xfm, xfa, xfd, xcv, xcr) := by
  have k3 : ∀ e c m sr ss ms se, c + e = 36 → e < m → P (xlim, xpc, xnd, xwc, 1, xfc, xwt, xan, xlp, xpo, xpb, xwd, xwk, xnk, xco, xcb, xml, xme, xro, xow, xol, xla, xsh, xoe, xoh, sr, ss, lo_f xoe c 36 se, ms, xfm, xfa, xfd, xcv, xcr) → wX_begin_66 P xlim xpc xnd xwc 1 xfc xwt xan xlp m (nI c) xpo xpb xwd xwk xnk xco xcb xml xme xro xow xol xla xsh xoe xoh sr ss se ms xfm xfa xfd xcv xcr := by
    intro e
    induction e with
    | zero =>
      intro c m sr ss ms se hc hm hp
      obtain ⟨m, rfl⟩ : ∃ q, m = q + 1 := ⟨m - 1, by omega⟩
      obtain rfl : c = 36 := by omega
      rw [lo_e] at hp
      exact br_t (by decide) hp
    | succ e ih =>
      intro c m sr ss ms se hc hm hp
      obtain ⟨m, rfl⟩ : ∃ q, m = q + 1 := ⟨m - 1, by omega⟩
      rw [← lo_s (by omega)] at hp
      refine br_f (nI_ge (b := 36) (by omega) (by decide)) ⟨pk_in c 36 (by omega), pk_in c 36 (by omega), nm_r (by rw [nI_clamp (by omega)]) (nm_r (nI_1 c) (ih (c + 1) m _ _ _ _ (by omega) (by omega) hp))⟩
  have k2 : ∀ e c m sr ss ms, c + e = 9 → e < m → P (xlim, xpc, xnd, xwc, 1, xfc, xwt, xan, xlp, xpo, xpb, xwd, xwk, xnk, xco, xcb, xml, xme, xro, xow, xol, xla, xsh, xoe, xoh, sr, lo_f (fun i => vp_nar .boolean (xsh i)) c 9 ss, lo_f xoe 0 36 xse, lo_f (fun _ => vp_nar .boolean 0) c 9 ms, xfm, xfa, xfd, xcv, xcr) → wX_begin_33 P xlim xpc xnd xwc 1 xfc xwt xan xlp m (nI c) xpo xpb xwd xwk xnk xco xcb xml xme xro xow xol xla xsh xoe xoh sr ss xse ms xfm xfa xfd xcv xcr := by
    intro e
    induction e with
    | zero =>
      intro c m sr ss ms hc hm hp
      obtain ⟨m, rfl⟩ : ∃ q, m = q + 1 := ⟨m - 1, by omega⟩
      obtain rfl : c = 9 := by omega
      rw [lo_e, lo_e] at hp
      exact br_t (by decide) ⟨37, k3 36 0 37 sr ss ms xse (by omega) (by omega) hp⟩
    | succ e ih =>
      intro c m sr ss ms hc hm hp
      obtain ⟨m, rfl⟩ : ∃ q, m = q + 1 := ⟨m - 1, by omega⟩
      rw [← lo_s (val := fun i => vp_nar .boolean (xsh i)) (by omega), ← lo_s (val := fun _ => vp_nar .boolean 0) (by omega)] at hp
      refine br_f (nI_nlt (a := 8) (by omega) (by decide)) ⟨pk_in c 9 (by omega), pk_in c 9 (by omega), nm_r (by rw [nI_clamp (by omega)]) ⟨pk_in c 9 (by omega), nm_r (by rw [nI_clamp (by omega)]) (nm_r (nI_1 c) (ih (c + 1) m _ _ _ (by omega) (by omega) hp))⟩⟩
  have k1 : ∀ e c m sr, c + e = 6 → e < m → P (xlim, xpc, xnd, xwc, 1, xfc, xwt, xan, xlp, xpo, xpb, xwd, xwk, xnk, xco, xcb, xml, xme, xro, xow, xol, xla, xsh, xoe, xoh, lo_f xro c 6 sr, lo_f (fun i => vp_nar .boolean (xsh i)) 1 9 xss, lo_f xoe 0 36 xse, lo_f (fun _ => vp_nar .boolean 0) 1 9 xms, xfm, xfa, xfd, xcv, xcr) → wX_begin_7 P xlim xpc xnd xwc 1 xfc xwt xan xlp m (nI c) xpo xpb xwd xwk xnk xco xcb xml xme xro xow xol xla xsh xoe xoh sr xss xse xms xfm xfa xfd xcv xcr := by
    intro e
    induction e with
    | zero =>
      intro c m sr hc hm hp
      obtain ⟨m, rfl⟩ : ∃ q, m = q + 1 := ⟨m - 1, by omega⟩
      obtain rfl : c = 6 := by omega
      rw [lo_e] at hp
      exact br_t (by decide) ⟨9, k2 8 1 9 sr xss xms (by omega) (by omega) hp⟩
    | succ e ih =>
      intro c m sr hc hm hp
      obtain ⟨m, rfl⟩ : ∃ q, m = q + 1 := ⟨m - 1, by omega⟩
      rw [← lo_s (by omega)] at hp
      refine br_f (nI_ge (b := 6) (by omega) (by decide)) ⟨pk_in c 6 (by omega), pk_in c 6 (by omega), nm_r (by rw [nI_clamp (by omega)]) (nm_r (nI_1 c) (ih (c + 1) m _ (by omega) (by omega) hp))⟩
  exact ⟨7, k1 6 0 7 xsr (by omega) (by omega) h⟩
end LX
/-- the reference's reset, undo, begin -/
def lo_yr (la : Nat → Int32) (c : Nat) (a : Nat → Int32) : Nat → Int32 := fun i => if c ≤ i ∧ i < 32 ∧ la (i / 4) = 0 then vp_nar .short 0 else a i
theorem lo_yr_s {la a : Nat → Int32} {c : Nat} (hc : c < 32) (h : la (c / 4) = 0) : lo_yr la (c + 1) (upd a c (vp_nar .short 0)) = lo_yr la c a := by
  funext i
  unfold lo_yr
  by_cases e : i = c
  · subst e
    rw [if_neg (by omega), pk_us, if_pos ⟨by omega, hc, h⟩]
  · rw [pk_un e]
    by_cases h1 : c + 1 ≤ i ∧ i < 32 ∧ la (i / 4) = 0
    · rw [if_pos h1, if_pos ⟨by omega, h1.2⟩]
    · rw [if_neg h1, if_neg (fun z => h1 ⟨by omega, z.2⟩)]
theorem lo_yr_n {la a : Nat → Int32} {c : Nat} (h : ¬ la (c / 4) = 0) : lo_yr la (c + 1) a = lo_yr la c a := by
  funext i
  unfold lo_yr
  by_cases e : i = c
  · subst e
    rw [if_neg (by omega), if_neg (fun z => h z.2.2)]
  · by_cases h1 : c + 1 ≤ i ∧ i < 32 ∧ la (i / 4) = 0
    · rw [if_pos h1, if_pos ⟨by omega, h1.2⟩]
    · rw [if_neg h1, if_neg (fun z => h1 ⟨by omega, z.2⟩)]
theorem lo_yr_e {la a : Nat → Int32} : lo_yr la 32 a = a := by
  funext i
  exact if_neg (by omega)
def lo_ys (st os : Nat → Int64) (oh : Nat → Int32) (o : Nat) (a : Nat → Int32) : Nat → Int32 := fun i => if o ≤ i ∧ i < 8 ∧ st i = os i then vp_nar .boolean (oh i) else a i
theorem lo_ys_s {st os : Nat → Int64} {oh a : Nat → Int32} {o : Nat} (ho : o < 8) (h : st o = os o) : lo_ys st os oh (o + 1) (upd a o (vp_nar .boolean (oh o))) = lo_ys st os oh o a := by
  funext i
  unfold lo_ys
  by_cases e : i = o
  · subst e
    rw [if_neg (by omega), pk_us, if_pos ⟨by omega, ho, h⟩]
  · rw [pk_un e]
    by_cases h1 : o + 1 ≤ i ∧ i < 8 ∧ st i = os i
    · rw [if_pos h1, if_pos ⟨by omega, h1.2⟩]
    · rw [if_neg h1, if_neg (fun z => h1 ⟨by omega, z.2⟩)]
theorem lo_ys_n {st os : Nat → Int64} {oh a : Nat → Int32} {o : Nat} (h : ¬ st o = os o) : lo_ys st os oh (o + 1) a = lo_ys st os oh o a := by
  funext i
  unfold lo_ys
  by_cases e : i = o
  · subst e
    rw [if_neg (by omega), if_neg (fun z => h z.2.2)]
  · by_cases h1 : o + 1 ≤ i ∧ i < 8 ∧ st i = os i
    · rw [if_pos h1, if_pos ⟨by omega, h1.2⟩]
    · rw [if_neg h1, if_neg (fun z => h1 ⟨by omega, z.2⟩)]
theorem lo_ys_e {st os : Nat → Int64} {oh a : Nat → Int32} : lo_ys st os oh 8 a = a := by
  funext i
  exact if_neg (by omega)
def lo_ye (st os : Nat → Int64) (la oe : Nat → Int32) (o : Nat) (a : Nat → Int32) : Nat → Int32 := fun i => if 4 * o ≤ i ∧ i < 32 ∧ st (i / 4) = os (i / 4) ∧ ¬ la (i / 4) = 0 then vp_nar .short (oe i) else a i
theorem lo_ye_s {st os : Nat → Int64} {la oe a : Nat → Int32} {o : Nat} (ho : o < 8) (h : st o = os o) (hl : ¬ la o = 0) : lo_ye st os la oe (o + 1) (lo_f (fun i => vp_nar .short (oe i)) (4 * o) (4 * o + 4) a) = lo_ye st os la oe o a := by
  funext i
  unfold lo_ye
  by_cases h1 : 4 * (o + 1) ≤ i ∧ i < 32 ∧ st (i / 4) = os (i / 4) ∧ ¬ la (i / 4) = 0
  · rw [if_pos h1, if_pos ⟨by omega, h1.2⟩]
  · rw [if_neg h1]
    by_cases h2 : 4 * o ≤ i ∧ i < 4 * o + 4
    · have : i / 4 = o := by omega
      rw [lo_i h2.1 h2.2, this, if_pos ⟨h2.1, by omega, h, hl⟩]
    · rw [lo_o h2, if_neg (fun z => h1 ⟨by omega, z.2⟩)]
theorem lo_ye_n {st os : Nat → Int64} {la oe a : Nat → Int32} {o : Nat} (h : ¬ (st o = os o ∧ ¬ la o = 0)) : lo_ye st os la oe (o + 1) a = lo_ye st os la oe o a := by
  funext i
  unfold lo_ye
  by_cases h1 : 4 * (o + 1) ≤ i ∧ i < 32 ∧ st (i / 4) = os (i / 4) ∧ ¬ la (i / 4) = 0
  · rw [if_pos h1, if_pos ⟨by omega, h1.2⟩]
  · rw [if_neg h1, if_neg (fun z => ?_)]
    by_cases h2 : i < 4 * (o + 1)
    · have : i / 4 = o := by omega
      rw [this] at z
      exact h z.2.2
    · exact h1 ⟨by omega, z.2⟩
theorem lo_ye_e {st os : Nat → Int64} {la oe a : Nat → Int32} : lo_ye st os la oe 8 a = a := by
  funext i
  exact if_neg (by omega)
theorem lo_44 (o : Nat) : (4 : Int32) * nI o + 4 = nI (4 * o + 4) := by
  rw [lo_4]
  exact nI_add (4 * o) 4
section LY
variable {ylim ywa ysk ylo yrn ysp yaw yan ywh you ygd yop : Int32}
variable {ymd : Int64}
variable {yops ybs ysz yex yow yle yel yla ysh yro yoe yoh yor yrw ynx ydp ypl ykd ymt ytd yht : Nat → Int32}
variable {yst yos : Nat → Int64}
theorem lo_reset (P : SY → Prop) (h : P (ylim, ywa, ysk, ylo, yrn, ysp, -1, yan, ywh, you, ymd, ygd, yop, yops, ybs, ysz, yex, yst, yow, yle, lo_yr yla 0 yel, yla, ysh, yro, yos, yoe, yoh, yor, yrw, ynx, ydp, ypl, ykd, ymt, ytd, yht)) : wpY_reset P (ylim, ywa, ysk, ylo, yrn, ysp, yaw, yan, ywh, you, ymd, ygd, yop, yops, ybs, ysz, yex, yst, yow, yle, yel, yla, ysh, yro, yos, yoe, yoh, yor, yrw, ynx, ydp, ypl, ykd, ymt, ytd, yht) := by
  have key : ∀ e c m el, c + e = 32 → e < m → P (ylim, ywa, ysk, ylo, yrn, ysp, -1, yan, ywh, you, ymd, ygd, yop, yops, ybs, ysz, yex, yst, yow, yle, lo_yr yla c el, yla, ysh, yro, yos, yoe, yoh, yor, yrw, ynx, ydp, ypl, ykd, ymt, ytd, yht) → wY_reset_7 P ylim ywa ysk ylo yrn ysp (-1) yan ywh you ymd ygd yop m (nI c) yops ybs ysz yex yst yow yle el yla ysh yro yos yoe yoh yor yrw ynx ydp ypl ykd ymt ytd yht := by
    intro e
    induction e with
    | zero =>
      intro c m el hc hm hp
      obtain ⟨m, rfl⟩ : ∃ q, m = q + 1 := ⟨m - 1, by omega⟩
      obtain rfl : c = 32 := by omega
      rw [lo_yr_e] at hp
      exact br_t (by decide) hp
    | succ e ih =>
      intro c m el hc hm hp
      obtain ⟨m, rfl⟩ : ∃ q, m = q + 1 := ⟨m - 1, by omega⟩
      have e4 : nI c / 4 = nI (c / 4) := pk_div (d := 4) (by omega) (by decide) (by decide)
      have e5 : (nI c / 4).toNatClampNeg = c / 4 := by rw [e4]; exact nI_clamp (by omega)
      refine br_f (nI_ge (b := 32) (by omega) (by decide)) ⟨by decide, pk_in (c / 4) 8 (by omega) e4, ?_⟩
      rw [e5]
      refine br_c (fun z => ⟨pk_in c 32 (by omega), nm_r (by rw [nI_clamp (by omega)]) (nm_r (nI_1 c) (ih (c + 1) m _ (by omega) (by omega) ?_))⟩) (fun z => nm_r (nI_1 c) (ih (c + 1) m _ (by omega) (by omega) ?_))
      · rw [lo_yr_s (by omega) z]
        exact hp
      · rw [lo_yr_n z]
        exact hp
  exact ⟨33, key 32 0 33 yel (by omega) (by omega) h⟩
theorem lo_yundo (P : SY → Prop) (ho : ¬ yop = 0) (h : P (ylim, ywa, ysk, ylo, yrn, ysp, yaw, yan, ywh, you, ymd, ygd, 0, yops, ybs, ysz, yex, yst, yow, yle, lo_ye yst yos yla yoe 0 yel, yla, lo_ys yst yos yoh 0 ysh, lo_f yor 0 6 yro, yos, yoe, yoh, yor, yrw, ynx, ydp, ypl, ykd, ymt, ytd, yht)) : wpY_undo P (ylim, ywa, ysk, ylo, yrn, ysp, yaw, yan, ywh, you, ymd, ygd, yop, yops, ybs, ysz, yex, yst, yow, yle, yel, yla, ysh, yro, yos, yoe, yoh, yor, yrw, ynx, ydp, ypl, ykd, ymt, ytd, yht) := by
  have k2 : ∀ e o m ro sh el, o + e = 8 → e < m → P (ylim, ywa, ysk, ylo, yrn, ysp, yaw, yan, ywh, you, ymd, ygd, 0, yops, ybs, ysz, yex, yst, yow, yle, lo_ye yst yos yla yoe o el, yla, lo_ys yst yos yoh o sh, ro, yos, yoe, yoh, yor, yrw, ynx, ydp, ypl, ykd, ymt, ytd, yht) → wY_undo_41 P ylim ywa ysk ylo yrn ysp yaw yan ywh you ymd ygd 0 m (nI o) yops ybs ysz yex yst yow yle el yla sh ro yos yoe yoh yor yrw ynx ydp ypl ykd ymt ytd yht := by
    intro e
    induction e with
    | zero =>
      intro o m ro sh el hc hm hp
      obtain ⟨m, rfl⟩ : ∃ q, m = q + 1 := ⟨m - 1, by omega⟩
      obtain rfl : o = 8 := by omega
      rw [lo_ys_e, lo_ye_e] at hp
      exact br_t (by decide) hp
    | succ e ih =>
      intro o m ro sh el hc hm hp
      obtain ⟨m, rfl⟩ : ∃ q, m = q + 1 := ⟨m - 1, by omega⟩
      have e0 : (nI o).toNatClampNeg = o := nI_clamp (by omega)
      refine br_f (nI_ge (b := 8) (by omega) (by decide)) ⟨pk_in o 8 (by omega), pk_in o 8 (by omega), ?_⟩
      rw [e0]
      refine br_c (fun z => ⟨pk_in o 8 (by omega), pk_in o 8 (by omega), nm_e (nm_r (lo_4 o) ⟨5, ?_⟩)⟩) (fun z => nm_r (nI_1 o) (ih (o + 1) m ro sh el (by omega) (by omega) ?_))
      · have key : ∀ e' c m' el', c + e' = 4 * o + 4 → e' < m' → (¬ yla o = 0 → P (ylim, ywa, ysk, ylo, yrn, ysp, yaw, yan, ywh, you, ymd, ygd, 0, yops, ybs, ysz, yex, yst, yow, yle, lo_ye yst yos yla yoe (o + 1) (lo_f (fun i => vp_nar .short (yoe i)) c (4 * o + 4) el'), yla, lo_ys yst yos yoh o sh, ro, yos, yoe, yoh, yor, yrw, ynx, ydp, ypl, ykd, ymt, ytd, yht)) → (yla o = 0 → P (ylim, ywa, ysk, ylo, yrn, ysp, yaw, yan, ywh, you, ymd, ygd, 0, yops, ybs, ysz, yex, yst, yow, yle, lo_ye yst yos yla yoe (o + 1) el', yla, lo_ys yst yos yoh o sh, ro, yos, yoe, yoh, yor, yrw, ynx, ydp, ypl, ykd, ymt, ytd, yht)) → wY_undo_79 P (wY_undo_41 P ylim ywa ysk ylo yrn ysp yaw yan ywh you ymd ygd 0 m) (nI o) ylim ywa ysk ylo yrn ysp yaw yan ywh you ymd ygd 0 m' (nI c) yops ybs ysz yex yst yow yle el' yla (upd sh o (vp_nar .boolean (yoh o))) ro yos yoe yoh yor yrw ynx ydp ypl ykd ymt ytd yht := by
          intro e'
          induction e' with
          | zero =>
            intro c m' el' hc' hm' hp1 hp2
            obtain ⟨m', rfl⟩ : ∃ q, m' = q + 1 := ⟨m' - 1, by omega⟩
            obtain rfl : c = 4 * o + 4 := by omega
            rw [lo_e] at hp1
            refine br_t (by rw [lo_44]; exact nI_le (Nat.le_refl _) (by omega)) (nm_r (nI_1 o) (ih (o + 1) m ro _ el' (by omega) (by omega) ?_))
            rw [lo_ys_s (by omega) z]
            by_cases y : yla o = 0
            · exact hp2 y
            · exact hp1 y
          | succ e' ih' =>
            intro c m' el' hc' hm' hp1 hp2
            obtain ⟨m', rfl⟩ : ∃ q, m' = q + 1 := ⟨m' - 1, by omega⟩
            rw [← lo_s (val := fun i => vp_nar .short (yoe i)) (by omega)] at hp1
            refine br_f (by rw [lo_44]; exact nI_ge (by omega) (by omega)) ⟨pk_in o 8 (by omega), ?_⟩
            rw [e0]
            refine br_c (fun y => nm_r (nI_1 c) (ih' (c + 1) m' el' (by omega) (by omega) (fun w => absurd y w) hp2)) (fun y => ⟨pk_in c 32 (by omega), pk_in c 32 (by omega), nm_r (by rw [nI_clamp (by omega)]) (nm_r (nI_1 c) (ih' (c + 1) m' _ (by omega) (by omega) hp1 (fun w => absurd w y)))⟩)
        refine key 4 (4 * o) 5 el (by omega) (by omega) (fun y => ?_) (fun y => ?_)
        · rw [lo_ye_s (by omega) z y]
          exact hp
        · rw [lo_ye_n (fun q => q.2 y)]
          exact hp
      · rw [lo_ys_n z, lo_ye_n (fun q => z q.1)]
        exact hp
  have k1 : ∀ e c m ro, c + e = 6 → e < m → P (ylim, ywa, ysk, ylo, yrn, ysp, yaw, yan, ywh, you, ymd, ygd, 0, yops, ybs, ysz, yex, yst, yow, yle, lo_ye yst yos yla yoe 0 yel, yla, lo_ys yst yos yoh 0 ysh, lo_f yor c 6 ro, yos, yoe, yoh, yor, yrw, ynx, ydp, ypl, ykd, ymt, ytd, yht) → wY_undo_15 P ylim ywa ysk ylo yrn ysp yaw yan ywh you ymd ygd 0 m (nI c) yops ybs ysz yex yst yow yle yel yla ysh ro yos yoe yoh yor yrw ynx ydp ypl ykd ymt ytd yht := by
    intro e
    induction e with
    | zero =>
      intro c m ro hc hm hp
      obtain ⟨m, rfl⟩ : ∃ q, m = q + 1 := ⟨m - 1, by omega⟩
      obtain rfl : c = 6 := by omega
      rw [lo_e] at hp
      exact br_t (by decide) ⟨9, k2 8 0 9 ro ysh yel (by omega) (by omega) hp⟩
    | succ e ih =>
      intro c m ro hc hm hp
      obtain ⟨m, rfl⟩ : ∃ q, m = q + 1 := ⟨m - 1, by omega⟩
      rw [← lo_s (by omega)] at hp
      refine br_f (nI_ge (b := 6) (by omega) (by decide)) ⟨pk_in c 6 (by omega), pk_in c 6 (by omega), nm_r (by rw [nI_clamp (by omega)]) (nm_r (nI_1 c) (ih (c + 1) m _ (by omega) (by omega) hp))⟩
  exact br_f ho ⟨7, k1 6 0 7 yro (by omega) (by omega) h⟩
theorem lo_ybegin (P : SY → Prop) (h : P (ylim, ywa, ysk, ylo, yrn, ysp, yaw, yan, ywh, you, ymd, ygd, 1, yops, ybs, ysz, yex, yst, yow, yle, yel, yla, ysh, yro, lo_L yst 0 8 yos, lo_f (fun i => vp_nar .short (yel i)) 0 32 yoe, lo_f (fun i => vp_nar .boolean (ysh i)) 0 8 yoh, lo_f yro 0 6 yor, yrw, ynx, ydp, ypl, ykd, ymt, ytd, yht)) : wpY_begin P (ylim, ywa, ysk, ylo, yrn, ysp, yaw, yan, ywh, you, ymd, ygd, yop, yops, ybs, ysz, yex, yst, yow, yle, yel, yla, ysh, yro, yos, yoe, yoh, yor, yrw, ynx, ydp, ypl, ykd, ymt, ytd, yht) := by
  have k3 : ∀ e c m os oh oe or_, c + e = 6 → e < m → P (ylim, ywa, ysk, ylo, yrn, ysp, yaw, yan, ywh, you, ymd, ygd, 1, yops, ybs, ysz, yex, yst, yow, yle, yel, yla, ysh, yro, os, oe, oh, lo_f yro c 6 or_, yrw, ynx, ydp, ypl, ykd, ymt, ytd, yht) → wY_begin_71 P ylim ywa ysk ylo yrn ysp yaw yan ywh you ymd ygd 1 m (nI c) yops ybs ysz yex yst yow yle yel yla ysh yro os oe oh or_ yrw ynx ydp ypl ykd ymt ytd yht := by
    intro e
    induction e with
    | zero =>
      intro c m os oh oe or_ hc hm hp
      obtain ⟨m, rfl⟩ : ∃ q, m = q + 1 := ⟨m - 1, by omega⟩
      obtain rfl : c = 6 := by omega
      rw [lo_e] at hp
      exact br_t (by decide) hp
    | succ e ih =>
      intro c m os oh oe or_ hc hm hp
      obtain ⟨m, rfl⟩ : ∃ q, m = q + 1 := ⟨m - 1, by omega⟩
      rw [← lo_s (by omega)] at hp
      refine br_f (nI_ge (b := 6) (by omega) (by decide)) ⟨pk_in c 6 (by omega), pk_in c 6 (by omega), nm_r (by rw [nI_clamp (by omega)]) (nm_r (nI_1 c) (ih (c + 1) m _ _ _ _ (by omega) (by omega) hp))⟩
  have k2 : ∀ e c m os oh oe, c + e = 32 → e < m → P (ylim, ywa, ysk, ylo, yrn, ysp, yaw, yan, ywh, you, ymd, ygd, 1, yops, ybs, ysz, yex, yst, yow, yle, yel, yla, ysh, yro, os, lo_f (fun i => vp_nar .short (yel i)) c 32 oe, oh, lo_f yro 0 6 yor, yrw, ynx, ydp, ypl, ykd, ymt, ytd, yht) → wY_begin_45 P ylim ywa ysk ylo yrn ysp yaw yan ywh you ymd ygd 1 m (nI c) yops ybs ysz yex yst yow yle yel yla ysh yro os oe oh yor yrw ynx ydp ypl ykd ymt ytd yht := by
    intro e
    induction e with
    | zero =>
      intro c m os oh oe hc hm hp
      obtain ⟨m, rfl⟩ : ∃ q, m = q + 1 := ⟨m - 1, by omega⟩
      obtain rfl : c = 32 := by omega
      rw [lo_e] at hp
      exact br_t (by decide) ⟨7, k3 6 0 7 os oh oe yor (by omega) (by omega) hp⟩
    | succ e ih =>
      intro c m os oh oe hc hm hp
      obtain ⟨m, rfl⟩ : ∃ q, m = q + 1 := ⟨m - 1, by omega⟩
      rw [← lo_s (val := fun i => vp_nar .short (yel i)) (by omega)] at hp
      refine br_f (nI_ge (b := 32) (by omega) (by decide)) ⟨pk_in c 32 (by omega), pk_in c 32 (by omega), nm_r (by rw [nI_clamp (by omega)]) (nm_r (nI_1 c) (ih (c + 1) m _ _ _ (by omega) (by omega) hp))⟩
  have k1 : ∀ e c m os oh, c + e = 8 → e < m → P (ylim, ywa, ysk, ylo, yrn, ysp, yaw, yan, ywh, you, ymd, ygd, 1, yops, ybs, ysz, yex, yst, yow, yle, yel, yla, ysh, yro, lo_L yst c 8 os, lo_f (fun i => vp_nar .short (yel i)) 0 32 yoe, lo_f (fun i => vp_nar .boolean (ysh i)) c 8 oh, lo_f yro 0 6 yor, yrw, ynx, ydp, ypl, ykd, ymt, ytd, yht) → wY_begin_7 P ylim ywa ysk ylo yrn ysp yaw yan ywh you ymd ygd 1 m (nI c) yops ybs ysz yex yst yow yle yel yla ysh yro os yoe oh yor yrw ynx ydp ypl ykd ymt ytd yht := by
    intro e
    induction e with
    | zero =>
      intro c m os oh hc hm hp
      obtain ⟨m, rfl⟩ : ∃ q, m = q + 1 := ⟨m - 1, by omega⟩
      obtain rfl : c = 8 := by omega
      rw [lo_Le, lo_e] at hp
      exact br_t (by decide) ⟨33, k2 32 0 33 os oh yoe (by omega) (by omega) hp⟩
    | succ e ih =>
      intro c m os oh hc hm hp
      obtain ⟨m, rfl⟩ : ∃ q, m = q + 1 := ⟨m - 1, by omega⟩
      rw [← lo_Ls (by omega), ← lo_s (val := fun i => vp_nar .boolean (ysh i)) (by omega)] at hp
      refine br_f (nI_ge (b := 8) (by omega) (by decide)) ⟨pk_in c 8 (by omega), pk_in c 8 (by omega), nm_r (by rw [nI_clamp (by omega)]) ⟨pk_in c 8 (by omega), pk_in c 8 (by omega), nm_r (by rw [nI_clamp (by omega)]) (nm_r (nI_1 c) (ih (c + 1) m _ _ (by omega) (by omega) hp))⟩⟩
  exact ⟨9, k1 8 0 9 yos yoh (by omega) (by omega) h⟩
end LY
