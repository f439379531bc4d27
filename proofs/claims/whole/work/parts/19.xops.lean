/-! THE COMPONENT'S INSTRUCTIONS -/
section XO
variable {xlim xpc xnd xwc xit xfc xwt xan xlp : Int32}
variable {xpo xpb xwd xwk xnk xco xcb xml xme xro xow xol xla xsh xoe xoh xsr xss xse xms xfm xfa xfd xcv xcr : Nat → Int32}
variable {t d l : Nat}
theorem xo_0 (P : SX → Prop) {v : Int32} (ht : t < 4) (hd : xfd t = nI d) (h4 : d < 4) (h : P (nI l, xpc, xnd, xwc, xit, nI (t + 1), xwt, xan, xlp, xpo, xpb, xwd, xwk, xnk, xco, xcb, xml, xme, xro, xow, xol, xla, xsh, xoe, xoh, xsr, xss, xse, xms, xfm, xfa, upd xfd t (nI (d + 1)), upd xcv (6 * t + (d + 2)) v, upd xcr (6 * t + (d + 2)) 0)) : wpX_perform P (nI l, xpc, xnd, xwc, xit, nI (t + 1), xwt, xan, xlp, xpo, xpb, xwd, xwk, xnk, xco, xcb, xml, xme, xro, xow, xol, xla, xsh, xoe, xoh, xsr, xss, xse, xms, xfm, xfa, xfd, xcv, xcr) 0 v :=
  br_f (by decide) <| br_f (by decide) <| br_t rfl <|  pr_xpush _ ht hd h4 (Or.inl rfl) h
theorem xo_17 (P : SX → Prop) {v : Int32} (ht : t < 4) (hd : xfd t = nI d) (h4 : d < 4) (h : P (nI l, xpc, xnd, xwc, xit, nI (t + 1), xwt, xan, xlp, xpo, xpb, xwd, xwk, xnk, xco, xcb, xml, xme, xro, xow, xol, xla, xsh, xoe, xoh, xsr, xss, xse, xms, xfm, xfa, upd xfd t (nI (d + 1)), upd xcv (6 * t + (d + 2)) 0, upd xcr (6 * t + (d + 2)) 1)) : wpX_perform P (nI l, xpc, xnd, xwc, xit, nI (t + 1), xwt, xan, xlp, xpo, xpb, xwd, xwk, xnk, xco, xcb, xml, xme, xro, xow, xol, xla, xsh, xoe, xoh, xsr, xss, xse, xms, xfm, xfa, xfd, xcv, xcr) 17 v :=
  br_f (by decide) <| br_f (by decide) <| br_f (by decide) <| br_f (by decide) <| br_f (by decide) <| br_f (by decide) <| br_f (by decide) <| br_f (by decide) <| br_f (by decide) <| br_f (by decide) <| br_f (by decide) <| br_f (by decide) <| br_f (by decide) <| br_f (by decide) <| br_f (by decide) <| br_f (by decide) <| br_f (by decide) <| br_f (by decide) <| br_f (by decide) <| br_t rfl <|  pr_xpush _ ht hd h4 (Or.inr rfl) h
theorem xo_1 (P : SX → Prop) {b : Nat} (ht : t < 4) (hd : xfd t = nI d) (h4 : d < 4) (hb : b ≤ 1) (hr : rl_b (xcr (6 * t + b))) (h : P (nI l, xpc, xnd, xwc, xit, nI (t + 1), xwt, xan, xlp, xpo, xpb, xwd, xwk, xnk, xco, xcb, xml, xme, xro, xow, xol, xla, xsh, xoe, xoh, xsr, xss, xse, xms, xfm, xfa, upd xfd t (nI (d + 1)), upd xcv (6 * t + (d + 2)) (xcv (6 * t + b)), upd xcr (6 * t + (d + 2)) (xcr (6 * t + b)))) : wpX_perform P (nI l, xpc, xnd, xwc, xit, nI (t + 1), xwt, xan, xlp, xpo, xpb, xwd, xwk, xnk, xco, xcb, xml, xme, xro, xow, xol, xla, xsh, xoe, xoh, xsr, xss, xse, xms, xfm, xfa, xfd, xcv, xcr) 1 (nI b) := by
  have e1 : (6 : Int32) * (nI (t + 1) - 1) + nI b = nI (6 * t + b) := by rw [nI_pred, pr_6b]
  have v1 : vp_in (nI (6 * t + b)) 24 := vp_in_nI (by omega) (by omega)
  refine br_f (by decide) <| br_f (by decide) <| br_f (by decide) <| br_t rfl <|  nm_r e1 ⟨v1, v1, ?_⟩
  rw [nI_clamp (by omega)]
  exact pr_xpush _ ht hd h4 hr h
theorem xo_2 (P : SX → Prop) {b : Nat} (ht : t < 4) (hd : xfd t = nI (d + 1)) (h4 : d < 4) (hb : b ≤ 1) (hr : rl_b (xcr (6 * t + (d + 2)))) (h : P (nI l, xpc, xnd, xwc, xit, nI (t + 1), xwt, xan, xlp, xpo, xpb, xwd, xwk, xnk, xco, xcb, xml, xme, xro, xow, xol, xla, xsh, xoe, xoh, xsr, xss, xse, xms, xfm, xfa, upd xfd t (nI d), upd xcv (6 * t + b) (xcv (6 * t + (d + 2))), upd xcr (6 * t + b) (xcr (6 * t + (d + 2))))) : wpX_perform P (nI l, xpc, xnd, xwc, xit, nI (t + 1), xwt, xan, xlp, xpo, xpb, xwd, xwk, xnk, xco, xcb, xml, xme, xro, xow, xol, xla, xsh, xoe, xoh, xsr, xss, xse, xms, xfm, xfa, xfd, xcv, xcr) 2 (nI b) := by
  have e0 : (nI t).toNatClampNeg = t := nI_clamp (by omega)
  have e1 : (6 : Int32) * nI t + nI b = nI (6 * t + b) := pr_6b t b
  have e2 : (nI (6 * t + b)).toNatClampNeg = 6 * t + b := nI_clamp (by omega)
  have e3 : (nI (6 * t + (d + 2))).toNatClampNeg = 6 * t + (d + 2) := nI_clamp (by omega)
  have v1 : vp_in ((6 : Int32) * nI t + nI b) 24 := by rw [e1]; exact vp_in_nI (by omega) (by omega)
  have v2 : vp_in (nI (6 * t + (d + 2))) 24 := vp_in_nI (by omega) (by omega)
  exact br_f (by decide) <| br_f (by decide) <| br_f (by decide) <| br_f (by decide) <| br_t rfl <|  nm_r (nI_pred t) ⟨pk_in t 4 ht, pk_in t 4 ht, nm_r (e' := upd xfd t (nI d)) (by rw [e0, hd, nI_pred]) ⟨pk_in t 4 ht, nm_r (e' := nI (6 * t + (d + 2))) (by rw [e0, pk_us, pr_6]) ⟨v2, v1, nm_r (by rw [e1, e2, e3]) ⟨v2, v1, nm_r (by rw [e1, e2, e3, rl_b_n hr]) h⟩⟩⟩⟩
theorem xo_3 (P : SX → Prop) {v : Int32} (ht : t < 4) (hd : xfd t = nI (d + 2)) (h4 : d < 3) (h : P (nI l, xpc, xnd, xwc, xit, nI (t + 1), xwt, xan, xlp, xpo, xpb, xwd, xwk, xnk, xco, xcb, xml, xme, xro, xow, xol, xla, xsh, xoe, xoh, xsr, xss, xse, xms, xfm, xfa, upd xfd t (nI (d + 1)), upd xcv (6 * t + (d + 2)) ((xcv (6 * t + (d + 2)) + xcv (6 * t + (d + 3))).toInt16.toInt32), upd xcr (6 * t + (d + 2)) 0)) : wpX_perform P (nI l, xpc, xnd, xwc, xit, nI (t + 1), xwt, xan, xlp, xpo, xpb, xwd, xwk, xnk, xco, xcb, xml, xme, xro, xow, xol, xla, xsh, xoe, xoh, xsr, xss, xse, xms, xfm, xfa, xfd, xcv, xcr) 3 v := by
  refine br_f (by decide) <| br_f (by decide) <| br_f (by decide) <| br_f (by decide) <| br_f (by decide) <| br_t rfl <|  ?_
  unfold wX_perform_175 wpX_calculate
  refine pr_xpop _ ht hd (by omega) (pr_xpop _ (d := d) ht pk_us (by omega) ?_)
  refine br_f (by decide) <| br_f (by decide) <| br_t rfl <|  nm_e (pr_xpush _ (d := d) ht pk_us (by omega) (Or.inl rfl) ?_)
  rw [rl_uu, rl_uu]
  exact h
theorem xo_4 (P : SX → Prop) {v : Int32} (ht : t < 4) (hd : xfd t = nI (d + 2)) (h4 : d < 3) (h : P (nI l, xpc, xnd, xwc, xit, nI (t + 1), xwt, xan, xlp, xpo, xpb, xwd, xwk, xnk, xco, xcb, xml, xme, xro, xow, xol, xla, xsh, xoe, xoh, xsr, xss, xse, xms, xfm, xfa, upd xfd t (nI (d + 1)), upd xcv (6 * t + (d + 2)) ((xcv (6 * t + (d + 2)) - xcv (6 * t + (d + 3))).toInt16.toInt32), upd xcr (6 * t + (d + 2)) 0)) : wpX_perform P (nI l, xpc, xnd, xwc, xit, nI (t + 1), xwt, xan, xlp, xpo, xpb, xwd, xwk, xnk, xco, xcb, xml, xme, xro, xow, xol, xla, xsh, xoe, xoh, xsr, xss, xse, xms, xfm, xfa, xfd, xcv, xcr) 4 v := by
  refine br_f (by decide) <| br_f (by decide) <| br_f (by decide) <| br_f (by decide) <| br_f (by decide) <| br_f (by decide) <| br_t rfl <|  ?_
  unfold wX_perform_175 wpX_calculate
  refine pr_xpop _ ht hd (by omega) (pr_xpop _ (d := d) ht pk_us (by omega) ?_)
  refine br_f (by decide) <| br_f (by decide) <| br_f (by decide) <| br_t rfl <|  nm_e (pr_xpush _ (d := d) ht pk_us (by omega) (Or.inl rfl) ?_)
  rw [rl_uu, rl_uu]
  exact h
theorem xo_5 (P : SX → Prop) {v : Int32} (ht : t < 4) (hd : xfd t = nI (d + 2)) (h4 : d < 3) (h : P (nI l, xpc, xnd, xwc, xit, nI (t + 1), xwt, xan, xlp, xpo, xpb, xwd, xwk, xnk, xco, xcb, xml, xme, xro, xow, xol, xla, xsh, xoe, xoh, xsr, xss, xse, xms, xfm, xfa, upd xfd t (nI (d + 1)), upd xcv (6 * t + (d + 2)) ((xcv (6 * t + (d + 2)) * xcv (6 * t + (d + 3))).toInt16.toInt32), upd xcr (6 * t + (d + 2)) 0)) : wpX_perform P (nI l, xpc, xnd, xwc, xit, nI (t + 1), xwt, xan, xlp, xpo, xpb, xwd, xwk, xnk, xco, xcb, xml, xme, xro, xow, xol, xla, xsh, xoe, xoh, xsr, xss, xse, xms, xfm, xfa, xfd, xcv, xcr) 5 v := by
  refine br_f (by decide) <| br_f (by decide) <| br_f (by decide) <| br_f (by decide) <| br_f (by decide) <| br_f (by decide) <| br_f (by decide) <| br_t rfl <|  ?_
  unfold wX_perform_175 wpX_calculate
  refine pr_xpop _ ht hd (by omega) (pr_xpop _ (d := d) ht pk_us (by omega) ?_)
  refine br_f (by decide) <| br_f (by decide) <| br_f (by decide) <| br_f (by decide) <| br_t rfl <|  nm_e (pr_xpush _ (d := d) ht pk_us (by omega) (Or.inl rfl) ?_)
  rw [rl_uu, rl_uu]
  exact h
theorem xo_6 (P : SX → Prop) {v : Int32} (ht : t < 4) (hd : xfd t = nI (d + 2)) (h4 : d < 3) (h : P (nI l, xpc, xnd, xwc, xit, nI (t + 1), xwt, xan, xlp, xpo, xpb, xwd, xwk, xnk, xco, xcb, xml, xme, xro, xow, xol, xla, xsh, xoe, xoh, xsr, xss, xse, xms, xfm, xfa, upd xfd t (nI (d + 1)), upd xcv (6 * t + (d + 2)) (if xcv (6 * t + (d + 3)) ≤ xcv (6 * t + (d + 2)) then 0 else 1), upd xcr (6 * t + (d + 2)) 0)) : wpX_perform P (nI l, xpc, xnd, xwc, xit, nI (t + 1), xwt, xan, xlp, xpo, xpb, xwd, xwk, xnk, xco, xcb, xml, xme, xro, xow, xol, xla, xsh, xoe, xoh, xsr, xss, xse, xms, xfm, xfa, xfd, xcv, xcr) 6 v := by
  refine br_f (by decide) <| br_f (by decide) <| br_f (by decide) <| br_f (by decide) <| br_f (by decide) <| br_f (by decide) <| br_f (by decide) <| br_f (by decide) <| br_t rfl <|  ?_
  unfold wX_perform_175 wpX_calculate
  refine pr_xpop _ ht hd (by omega) (pr_xpop _ (d := d) ht pk_us (by omega) ?_)
  refine br_f (by decide) <| br_t (by decide) <| br_c (fun z => pr_xpush _ (d := d) ht pk_us (by omega) (Or.inl rfl) ?_) (fun z => pr_xpush _ (d := d) ht pk_us (by omega) (Or.inl rfl) ?_)
  · rw [rl_uu, rl_uu]
    rw [if_pos z] at h
    exact h
  · rw [rl_uu, rl_uu]
    rw [if_neg z] at h
    exact h
theorem xo_7 (P : SX → Prop) {v : Int32} (ht : t < 4) (h : P (nI l, xpc, xnd, xwc, xit, nI (t + 1), xwt, xan, xlp, xpo, xpb, xwd, xwk, xnk, xco, xcb, xml, xme, xro, xow, xol, xla, xsh, xoe, xoh, xsr, xss, xse, xms, xfm, upd xfa t v, xfd, xcv, xcr)) : wpX_perform P (nI l, xpc, xnd, xwc, xit, nI (t + 1), xwt, xan, xlp, xpo, xpb, xwd, xwk, xnk, xco, xcb, xml, xme, xro, xow, xol, xla, xsh, xoe, xoh, xsr, xss, xse, xms, xfm, xfa, xfd, xcv, xcr) 7 v := by
  have e1 : (nI (t + 1) - 1).toNatClampNeg = t := by rw [nI_pred]; exact nI_clamp (by omega)
  have i1 : vp_in (nI (t + 1) - 1) 4 := by rw [nI_pred]; exact pk_in t 4 ht
  exact br_f (by decide) <| br_f (by decide) <| br_f (by decide) <| br_f (by decide) <| br_f (by decide) <| br_f (by decide) <| br_f (by decide) <| br_f (by decide) <| br_f (by decide) <| br_t rfl <|  br_t rfl ⟨i1, nm_r (by rw [e1]) h⟩
theorem xo_8 (P : SX → Prop) {v : Int32} (ht : t < 4) (hd : xfd t = nI (d + 1)) (h4 : d < 4) (h0 : xcv (6 * t + (d + 2)) = 0 → P (nI l, xpc, xnd, xwc, xit, nI (t + 1), xwt, xan, xlp, xpo, xpb, xwd, xwk, xnk, xco, xcb, xml, xme, xro, xow, xol, xla, xsh, xoe, xoh, xsr, xss, xse, xms, xfm, upd xfa t v, upd xfd t (nI d), xcv, xcr)) (h1 : ¬ xcv (6 * t + (d + 2)) = 0 → P (nI l, xpc, xnd, xwc, xit, nI (t + 1), xwt, xan, xlp, xpo, xpb, xwd, xwk, xnk, xco, xcb, xml, xme, xro, xow, xol, xla, xsh, xoe, xoh, xsr, xss, xse, xms, xfm, xfa, upd xfd t (nI d), xcv, xcr)) : wpX_perform P (nI l, xpc, xnd, xwc, xit, nI (t + 1), xwt, xan, xlp, xpo, xpb, xwd, xwk, xnk, xco, xcb, xml, xme, xro, xow, xol, xla, xsh, xoe, xoh, xsr, xss, xse, xms, xfm, xfa, xfd, xcv, xcr) 8 v := by
  have e1 : (nI (t + 1) - 1).toNatClampNeg = t := by rw [nI_pred]; exact nI_clamp (by omega)
  have i1 : vp_in (nI (t + 1) - 1) 4 := by rw [nI_pred]; exact pk_in t 4 ht
  exact br_f (by decide) <| br_f (by decide) <| br_f (by decide) <| br_f (by decide) <| br_f (by decide) <| br_f (by decide) <| br_f (by decide) <| br_f (by decide) <| br_f (by decide) <| br_f (by decide) <| br_t rfl <|  br_f (by decide) (pr_xpop _ ht hd h4 (br_c (fun z => ⟨i1, nm_r (by rw [e1]) (h0 z)⟩) h1))
theorem xo_20 (P : SX → Prop) {v : Int32} (ht : t < 4) (hd : xfd t = nI (d + 1)) (h4 : d < 3) (hr : rl_b (xcr (6 * t + (d + 2)))) (h : P (nI l, xpc, xnd, xwc, xit, nI (t + 1), xwt, xan, xlp, xpo, xpb, xwd, xwk, xnk, xco, xcb, xml, xme, xro, xow, xol, xla, xsh, xoe, xoh, xsr, xss, xse, xms, xfm, xfa, upd xfd t (nI (d + 2)), upd xcv (6 * t + (d + 3)) (xcv (6 * t + (d + 2))), upd xcr (6 * t + (d + 3)) (xcr (6 * t + (d + 2))))) : wpX_perform P (nI l, xpc, xnd, xwc, xit, nI (t + 1), xwt, xan, xlp, xpo, xpb, xwd, xwk, xnk, xco, xcb, xml, xme, xro, xow, xol, xla, xsh, xoe, xoh, xsr, xss, xse, xms, xfm, xfa, xfd, xcv, xcr) 20 v := by
  have e0 : (nI t).toNatClampNeg = t := nI_clamp (by omega)
  have e1 : (6 : Int32) * nI t + 2 + xfd (nI t).toNatClampNeg - 1 = nI (6 * t + (d + 2)) := by
    rw [e0, hd, pr_6]
    exact nI_pred _
  have v2 : vp_in (nI (6 * t + (d + 2))) 24 := vp_in_nI (by omega) (by omega)
  refine br_f (by decide) <| br_f (by decide) <| br_f (by decide) <| br_f (by decide) <| br_f (by decide) <| br_f (by decide) <| br_f (by decide) <| br_f (by decide) <| br_f (by decide) <| br_f (by decide) <| br_f (by decide) <| br_f (by decide) <| br_f (by decide) <| br_f (by decide) <| br_f (by decide) <| br_f (by decide) <| br_f (by decide) <| br_f (by decide) <| br_f (by decide) <| br_f (by decide) <| br_f (by decide) <| br_f (by decide) <| br_t rfl <|  nm_r (nI_pred t) ⟨pk_in t 4 ht, nm_r e1 ⟨v2, v2, ?_⟩⟩
  rw [nI_clamp (by omega)]
  exact pr_xpush _ ht hd (by omega) hr h
theorem xo_21 (P : SX → Prop) {v : Int32} (ht : t < 4) (hd : xfd t = nI (d + 1)) (h : P (nI l, xpc, xnd, xwc, xit, nI (t + 1), xwt, xan, xlp, xpo, xpb, xwd, xwk, xnk, xco, xcb, xml, xme, xro, xow, xol, xla, xsh, xoe, xoh, xsr, xss, xse, xms, xfm, xfa, upd xfd t (nI d), xcv, xcr)) : wpX_perform P (nI l, xpc, xnd, xwc, xit, nI (t + 1), xwt, xan, xlp, xpo, xpb, xwd, xwk, xnk, xco, xcb, xml, xme, xro, xow, xol, xla, xsh, xoe, xoh, xsr, xss, xse, xms, xfm, xfa, xfd, xcv, xcr) 21 v := by
  have e1 : (nI (t + 1) - 1).toNatClampNeg = t := by rw [nI_pred]; exact nI_clamp (by omega)
  have i1 : vp_in (nI (t + 1) - 1) 4 := by rw [nI_pred]; exact pk_in t 4 ht
  exact br_f (by decide) <| br_f (by decide) <| br_f (by decide) <| br_f (by decide) <| br_f (by decide) <| br_f (by decide) <| br_f (by decide) <| br_f (by decide) <| br_f (by decide) <| br_f (by decide) <| br_f (by decide) <| br_f (by decide) <| br_f (by decide) <| br_f (by decide) <| br_f (by decide) <| br_f (by decide) <| br_f (by decide) <| br_f (by decide) <| br_f (by decide) <| br_f (by decide) <| br_f (by decide) <| br_f (by decide) <| br_f (by decide) <| br_t rfl <|  ⟨i1, i1, nm_r (by rw [e1, hd, nI_pred]) h⟩
theorem xo_call (P : SX → Prop) {m : Nat} (ht : t < 3) (hd : xfd t = nI (d + 1)) (h4 : d < 4) (h : P (nI l, xpc, xnd, xwc, xit, nI (t + 2), xwt, xan, xlp, xpo, xpb, xwd, xwk, xnk, xco, xcb, xml, xme, xro, xow, xol, xla, xsh, xoe, xoh, xsr, xss, xse, xms, upd xfm (t + 1) (nI m), upd xfa (t + 1) 0, upd (upd xfd t (nI d)) (t + 1) 0, upd xcv (6 * (t + 1)) (xcv (6 * t + (d + 2))), upd (upd xcr (6 * (t + 1)) 0) (6 * (t + 1) + 1) 0)) : wpX_perform P (nI l, xpc, xnd, xwc, xit, nI (t + 1), xwt, xan, xlp, xpo, xpb, xwd, xwk, xnk, xco, xcb, xml, xme, xro, xow, xol, xla, xsh, xoe, xoh, xsr, xss, xse, xms, xfm, xfa, xfd, xcv, xcr) 18 (nI m) := by
  refine br_f (by decide) <| br_f (by decide) <| br_f (by decide) <| br_f (by decide) <| br_f (by decide) <| br_f (by decide) <| br_f (by decide) <| br_f (by decide) <| br_f (by decide) <| br_f (by decide) <| br_f (by decide) <| br_f (by decide) <| br_f (by decide) <| br_f (by decide) <| br_f (by decide) <| br_f (by decide) <| br_f (by decide) <| br_f (by decide) <| br_f (by decide) <| br_f (by decide) <| br_t rfl <|  ?_
  unfold wpX_call
  exact pr_xpop _ (by omega) hd h4 (pr_enter _ (by omega) h)
theorem xo_leave0 (P : SX → Prop) {v : Int32} (hd : xfd 0 = nI (d + 1)) (h4 : d < 4) (h : P (nI l, xpc, xnd, xwc, xit, 0, xwt, xcv (d + 2), xlp, xpo, xpb, xwd, xwk, xnk, xco, xcb, xml, xme, xro, xow, xol, xla, xsh, xoe, xoh, xsr, xss, xse, xms, xfm, xfa, upd xfd 0 (nI d), xcv, xcr)) : wpX_perform P (nI l, xpc, xnd, xwc, xit, nI 1, xwt, xan, xlp, xpo, xpb, xwd, xwk, xnk, xco, xcb, xml, xme, xro, xow, xol, xla, xsh, xoe, xoh, xsr, xss, xse, xms, xfm, xfa, xfd, xcv, xcr) 19 v := by
  refine br_f (by decide) <| br_f (by decide) <| br_f (by decide) <| br_f (by decide) <| br_f (by decide) <| br_f (by decide) <| br_f (by decide) <| br_f (by decide) <| br_f (by decide) <| br_f (by decide) <| br_f (by decide) <| br_f (by decide) <| br_f (by decide) <| br_f (by decide) <| br_f (by decide) <| br_f (by decide) <| br_f (by decide) <| br_f (by decide) <| br_f (by decide) <| br_f (by decide) <| br_f (by decide) <| br_t rfl <|  ?_
  unfold wpX_leave
  have e : 6 * 0 + (d + 2) = d + 2 := by omega
  refine pr_xpop _ (t := 0) (by omega) hd h4 (nm_r (nI_pred 0) (br_t (by decide) ?_))
  rw [e]
  exact h
theorem xo_leave (P : SX → Prop) {v : Int32} {d' : Nat} (ht : t < 3) (hd : xfd (t + 1) = nI (d + 1)) (h4 : d < 4) (hd' : xfd t = nI d') (h4' : d' < 4) (h : P (nI l, xpc, xnd, xwc, xit, nI (t + 1), xwt, xan, xlp, xpo, xpb, xwd, xwk, xnk, xco, xcb, xml, xme, xro, xow, xol, xla, xsh, xoe, xoh, xsr, xss, xse, xms, xfm, xfa, upd (upd xfd (t + 1) (nI d)) t (nI (d' + 1)), upd xcv (6 * t + (d' + 2)) (xcv (6 * (t + 1) + (d + 2))), upd xcr (6 * t + (d' + 2)) 0)) : wpX_perform P (nI l, xpc, xnd, xwc, xit, nI (t + 2), xwt, xan, xlp, xpo, xpb, xwd, xwk, xnk, xco, xcb, xml, xme, xro, xow, xol, xla, xsh, xoe, xoh, xsr, xss, xse, xms, xfm, xfa, xfd, xcv, xcr) 19 v := by
  refine br_f (by decide) <| br_f (by decide) <| br_f (by decide) <| br_f (by decide) <| br_f (by decide) <| br_f (by decide) <| br_f (by decide) <| br_f (by decide) <| br_f (by decide) <| br_f (by decide) <| br_f (by decide) <| br_f (by decide) <| br_f (by decide) <| br_f (by decide) <| br_f (by decide) <| br_f (by decide) <| br_f (by decide) <| br_f (by decide) <| br_f (by decide) <| br_f (by decide) <| br_f (by decide) <| br_t rfl <|  ?_
  unfold wpX_leave
  refine pr_xpop _ (t := t + 1) (by omega) hd h4 (nm_r (nI_pred (t + 1)) (br_f (nI_nle (by omega) (by omega)) ?_))
  exact pr_xpush _ (by omega) (by rw [pk_un (by omega)]; exact hd') h4' (Or.inl rfl) h
/-! on objects -/
theorem xo_9 (P : SX → Prop) {m b : Nat} (ht : t < 4) (hm : xfm t = nI m) (hm6 : m < 6) (hd : xfd t = nI d) (h4 : d < 4) (hb : b ≤ 1) (h : P (nI l, xpc, xnd, xwc, xit, nI (t + 1), xwt, xan, xlp, xpo, xpb, xwd, xwk, xnk, xco, xcb, xml, xme, xro, xow, xol, xla, xsh, xoe, xoh, xsr, xss, xse, xms, xfm, xfa, upd xfd t (nI (d + 1)), upd xcv (6 * t + (d + 2)) (xro (2 * (m / 2) + b)), upd xcr (6 * t + (d + 2)) 1)) : wpX_performOnObjects P (nI l, xpc, xnd, xwc, xit, nI (t + 1), xwt, xan, xlp, xpo, xpb, xwd, xwk, xnk, xco, xcb, xml, xme, xro, xow, xol, xla, xsh, xoe, xoh, xsr, xss, xse, xms, xfm, xfa, xfd, xcv, xcr) 9 (nI b) := by
  refine br_f (by decide) <| br_f (by decide) <| br_t rfl <|  ?_
  unfold wpX_pushOwnRoot
  refine pr_own _ ht hm hm6 (nm_r (pr_2b _ _) ⟨vp_in_nI (by omega) (by omega), ?_⟩)
  rw [nI_clamp (by omega)]
  exact pr_xpush _ ht hd h4 (Or.inr rfl) h
theorem xo_10 (P : SX → Prop) {m b : Nat} (ht : t < 4) (hm : xfm t = nI m) (hm6 : m < 6) (hd : xfd t = nI (d + 1)) (h4 : d < 4) (hb : b ≤ 1) (h : P (nI l, xpc, xnd, xwc, xit, nI (t + 1), xwt, xan, xlp, xpo, xpb, xwd, xwk, xnk, xco, xcb, xml, xme, upd xro (2 * (m / 2) + b) (xcv (6 * t + (d + 2))), xow, xol, xla, xsh, xoe, xoh, xsr, xss, xse, xms, xfm, xfa, upd xfd t (nI d), xcv, xcr)) : wpX_performOnObjects P (nI l, xpc, xnd, xwc, xit, nI (t + 1), xwt, xan, xlp, xpo, xpb, xwd, xwk, xnk, xco, xcb, xml, xme, xro, xow, xol, xla, xsh, xoe, xoh, xsr, xss, xse, xms, xfm, xfa, xfd, xcv, xcr) 10 (nI b) := by
  have e : (2 : Int32) * nI (m / 2) + nI b = nI (2 * (m / 2) + b) := pr_2b _ _
  refine br_f (by decide) <| br_f (by decide) <| br_f (by decide) <| br_t rfl <|  pr_own _ ht hm hm6 (pr_xpop _ ht hd h4 ⟨by rw [e]; exact vp_in_nI (by omega) (by omega), nm_r (by rw [e, nI_clamp (by omega)]) h⟩)
theorem xo_11 (P : SX → Prop) {m q : Nat} {B z : Int32} (ht : t < 4) (hm : xfm t = nI m) (hm6 : m < 6) (hd : xfd t = nI (d + 1)) (h4 : d < 4) (hq : q < 8) (hb : ∀ o, o < q → ¬ xoh (o + 1) = 0) (h0 : q = 7 ∨ xoh (q + 1) = 0) (hz : (B = 0 ∧ z = 1) ∨ (¬ B = 0 ∧ z = 0))
    (h : P (nI l, xpc, xnd, xwc, xit, nI (t + 1), xwt, xan, xlp, xpo, xpb, xwd, xwk, xnk, xco, xcb, xml, xme, xro, upd xow (q + 1) (nI (m / 2)), upd xol (q + 1) (xcv (6 * t + (d + 2))), upd xla (q + 1) z, upd xsh (q + 1) 0, lo_f (fun _ => 0) (4 * (q + 1)) (4 * (q + 1) + 4) xoe, xoh, xsr, xss, xse, upd xms (q + 1) 1, xfm, xfa, upd xfd t (nI (d + 1)), upd xcv (6 * t + (d + 2)) (nI (q + 1)), upd xcr (6 * t + (d + 2)) 1)) : wpX_performOnObjects P (nI l, xpc, xnd, xwc, xit, nI (t + 1), xwt, xan, xlp, xpo, xpb, xwd, xwk, xnk, xco, xcb, xml, xme, xro, xow, xol, xla, xsh, xoe, xoh, xsr, xss, xse, xms, xfm, xfa, xfd, xcv, xcr) 11 B := by
  have hzb : rl_b z := by
    rcases hz with ⟨_, rfl⟩ | ⟨_, rfl⟩
    · exact Or.inr rfl
    · exact Or.inl rfl
  have e2 : (nI (q + 1)).toNatClampNeg = q + 1 := nI_clamp (by omega)
  have v2 : vp_in (nI (q + 1)) 9 := vp_in_nI (by omega) (by omega)
  have mk : wX_performOnObjects_100 P z (nI l) xpc xnd xwc xit (nI (t + 1)) xwt xan xlp xpo xpb xwd xwk xnk xco xcb xml xme xro xow xol xla xsh xoe xoh xsr xss xse xms xfm xfa xfd xcv xcr := by
    unfold wX_performOnObjects_100 wpX_makeObject
    refine pr_xpop _ ht hd h4 (he_first _ hq hb h0 (pr_own _ ht hm hm6 ⟨v2, nm_r (by rw [e2]) ⟨v2, nm_r (by rw [e2]) ⟨v2, nm_r (by rw [e2, rl_b_n hzb]) ⟨v2, nm_r (by rw [e2, he_b0]) ⟨v2, nm_r (by rw [e2, he_b1]) (lo_clear _ (by omega) (pr_xpush _ (d := d) ht pk_us h4 (Or.inr rfl) ?_))⟩⟩⟩⟩⟩))
    rw [rl_uu]
    exact h
  rcases hz with ⟨z1, rfl⟩ | ⟨z1, rfl⟩
  · exact br_f (by decide) <| br_f (by decide) <| br_f (by decide) <| br_f (by decide) <| br_t rfl <|  br_t z1 mk
  · exact br_f (by decide) <| br_f (by decide) <| br_f (by decide) <| br_f (by decide) <| br_t rfl <|  br_f z1 mk
theorem xo_12 (P : SX → Prop) {B : Int32} {o i : Nat} (ht : t < 4) (hd : xfd t = nI (d + 2)) (h4 : d < 3) (ho : xcv (6 * t + (d + 2)) = nI o) (hi : xcv (6 * t + (d + 3)) = nI i) (ho8 : o ≤ 8) (hi4 : i < 4) (h : P (nI l, xpc, xnd, xwc, xit, nI (t + 1), xwt, xan, xlp, xpo, xpb, xwd, xwk, xnk, xco, xcb, xml, xme, xro, xow, xol, xla, xsh, xoe, xoh, xsr, xss, xse, xms, xfm, xfa, upd xfd t (nI (d + 1)), upd xcv (6 * t + (d + 2)) (xoe (4 * o + i)), upd xcr (6 * t + (d + 2)) 0)) : wpX_performOnObjects P (nI l, xpc, xnd, xwc, xit, nI (t + 1), xwt, xan, xlp, xpo, xpb, xwd, xwk, xnk, xco, xcb, xml, xme, xro, xow, xol, xla, xsh, xoe, xoh, xsr, xss, xse, xms, xfm, xfa, xfd, xcv, xcr) 12 B := by
  refine br_f (by decide) <| br_f (by decide) <| br_f (by decide) <| br_f (by decide) <| br_f (by decide) <| br_t rfl <|  ?_
  unfold wpX_getElement
  refine pr_xpop _ ht hd (by omega) (pr_xpop _ (d := d) ht pk_us (by omega) ?_)
  have e : (4 : Int32) * xcv (6 * t + (d + 2)) + xcv (6 * t + (d + 3)) = nI (4 * o + i) := by rw [ho, hi, pr_4b]
  refine ⟨by show vp_in ((4 : Int32) * xcv (6 * t + (d + 2)) + xcv (6 * t + (d + 3))) 36; rw [e]; exact vp_in_nI (by omega) (by omega), ?_⟩
  show wpX_push _ _ (xoe ((4 : Int32) * xcv (6 * t + (d + 2)) + xcv (6 * t + (d + 3))).toNatClampNeg) _
  rw [e, nI_clamp (by omega)]
  refine pr_xpush _ (d := d) ht pk_us (by omega) (Or.inl rfl) ?_
  rw [rl_uu, rl_uu]
  exact h
theorem xo_13 (P : SX → Prop) {B : Int32} {o i : Nat} (ht : t < 4) (hd : xfd t = nI (d + 3)) (h4 : d < 2) (ho : xcv (6 * t + (d + 2)) = nI o) (hi : xcv (6 * t + (d + 3)) = nI i) (ho8 : o ≤ 8) (hi4 : i < 4) (h : P (nI l, xpc, xnd, xwc, xit, nI (t + 1), xwt, xan, xlp, xpo, xpb, xwd, xwk, xnk, xco, xcb, xml, xme, xro, xow, xol, xla, xsh, upd xoe (4 * o + i) (xcv (6 * t + (d + 4))), xoh, xsr, xss, xse, xms, xfm, xfa, upd xfd t (nI d), xcv, xcr)) : wpX_performOnObjects P (nI l, xpc, xnd, xwc, xit, nI (t + 1), xwt, xan, xlp, xpo, xpb, xwd, xwk, xnk, xco, xcb, xml, xme, xro, xow, xol, xla, xsh, xoe, xoh, xsr, xss, xse, xms, xfm, xfa, xfd, xcv, xcr) 13 B := by
  refine br_f (by decide) <| br_f (by decide) <| br_f (by decide) <| br_f (by decide) <| br_f (by decide) <| br_f (by decide) <| br_t rfl <|  ?_
  unfold wpX_putElement
  refine pr_xpop _ ht hd (by omega) (pr_xpop _ (d := d + 1) ht pk_us (by omega) (pr_xpop _ (d := d) ht pk_us (by omega) ?_))
  have e : (4 : Int32) * xcv (6 * t + (d + 2)) + xcv (6 * t + (d + 3)) = nI (4 * o + i) := by rw [ho, hi, pr_4b]
  refine ⟨by show vp_in ((4 : Int32) * xcv (6 * t + (d + 2)) + xcv (6 * t + (d + 3))) 36; rw [e]; exact vp_in_nI (by omega) (by omega), nm_r (e' := upd xoe (4 * o + i) (xcv (6 * t + (d + 4)))) (by show upd xoe ((4 : Int32) * xcv (6 * t + (d + 2)) + xcv (6 * t + (d + 3))).toNatClampNeg _ = _; rw [e, nI_clamp (by omega)]) ?_⟩
  rw [rl_uu, rl_uu]
  exact h
theorem xo_14 (P : SX → Prop) {B : Int32} {o : Nat} (ht : t < 4) (hd : xfd t = nI (d + 1)) (h4 : d < 4) (ho : xcv (6 * t + (d + 2)) = nI o) (ho8 : o ≤ 8) (h : P (nI l, xpc, xnd, xwc, xit, nI (t + 1), xwt, xan, xlp, xpo, xpb, xwd, xwk, xnk, xco, xcb, xml, xme, xro, xow, xol, xla, upd xsh o 1, xoe, xoh, xsr, xss, xse, xms, xfm, xfa, upd xfd t (nI d), xcv, xcr)) : wpX_performOnObjects P (nI l, xpc, xnd, xwc, xit, nI (t + 1), xwt, xan, xlp, xpo, xpb, xwd, xwk, xnk, xco, xcb, xml, xme, xro, xow, xol, xla, xsh, xoe, xoh, xsr, xss, xse, xms, xfm, xfa, xfd, xcv, xcr) 14 B := by
  refine br_f (by decide) <| br_f (by decide) <| br_f (by decide) <| br_f (by decide) <| br_f (by decide) <| br_f (by decide) <| br_f (by decide) <| br_t rfl <|  pr_xpop _ ht hd h4 ?_
  rw [ho]
  exact ⟨vp_in_nI (by omega) (by omega), nm_r (by rw [nI_clamp (by omega), he_b1]) h⟩
theorem xo_15 (P : SX → Prop) {B : Int32} {o : Nat} (ht : t < 4) (hd : xfd t = nI (d + 1)) (h4 : d < 4) (ho : xcv (6 * t + (d + 2)) = nI o) (ho8 : o ≤ 8) (h : P (nI l, xpc, xnd, xwc, xit, nI (t + 1), xwt, xan, xlp, xpo, xpb, xwd, xwk, xnk, xco, xcb, xml, xme, xro, xow, xol, xla, xsh, xoe, xoh, xsr, xss, xse, xms, xfm, xfa, upd xfd t (nI (d + 1)), upd xcv (6 * t + (d + 2)) (xol o), upd xcr (6 * t + (d + 2)) 0)) : wpX_performOnObjects P (nI l, xpc, xnd, xwc, xit, nI (t + 1), xwt, xan, xlp, xpo, xpb, xwd, xwk, xnk, xco, xcb, xml, xme, xro, xow, xol, xla, xsh, xoe, xoh, xsr, xss, xse, xms, xfm, xfa, xfd, xcv, xcr) 15 B := by
  refine br_f (by decide) <| br_f (by decide) <| br_f (by decide) <| br_f (by decide) <| br_f (by decide) <| br_f (by decide) <| br_f (by decide) <| br_f (by decide) <| br_t rfl <|  ?_
  unfold wpX_pushLength
  refine pr_xpop _ ht hd h4 ?_
  rw [ho]
  refine ⟨vp_in_nI (by omega) (by omega), ?_⟩
  rw [nI_clamp (by omega)]
  refine pr_xpush _ (d := d) ht pk_us (by omega) (Or.inl rfl) ?_
  rw [rl_uu]
  exact h
theorem xo_16 (P : SX → Prop) {b : Nat} (ht : t < 4) (hd : xfd t = nI d) (h4 : d < 4) (hb : b < 6) (h : P (nI l, xpc, xnd, xwc, xit, nI (t + 1), xwt, xan, xlp, xpo, xpb, xwd, xwk, xnk, xco, xcb, xml, xme, xro, xow, xol, xla, xsh, xoe, xoh, xsr, xss, xse, xms, xfm, xfa, upd xfd t (nI (d + 1)), upd xcv (6 * t + (d + 2)) (xro b), upd xcr (6 * t + (d + 2)) 1)) : wpX_performOnObjects P (nI l, xpc, xnd, xwc, xit, nI (t + 1), xwt, xan, xlp, xpo, xpb, xwd, xwk, xnk, xco, xcb, xml, xme, xro, xow, xol, xla, xsh, xoe, xoh, xsr, xss, xse, xms, xfm, xfa, xfd, xcv, xcr) 16 (nI b) := by
  refine br_f (by decide) <| br_f (by decide) <| br_f (by decide) <| br_f (by decide) <| br_f (by decide) <| br_f (by decide) <| br_f (by decide) <| br_f (by decide) <| br_f (by decide) <| br_t rfl <|  ⟨vp_in_nI (by omega) (by omega), ?_⟩
  rw [nI_clamp (by omega)]
  exact pr_xpush _ ht hd h4 (Or.inr rfl) h
/-! failures -/
theorem xo_wn (P : Int32 → Prop) {j : Nat} (ht : t < 4) (hd : xfd t = nI d) (h4 : d ≤ 4) (hj : 1 ≤ j) (hjd : j ≤ d) (ho : xcv (6 * t + (d + 2 - j)) = 0) (h : P 2) : wpX_wallFailure P (nI l, xpc, xnd, xwc, xit, nI (t + 1), xwt, xan, xlp, xpo, xpb, xwd, xwk, xnk, xco, xcb, xml, xme, xro, xow, xol, xla, xsh, xoe, xoh, xsr, xss, xse, xms, xfm, xfa, xfd, xcv, xcr) (nI j) := by
  unfold wpX_wallFailure
  exact pr_xentry _ ht hd h4 hj hjd (br_t ho h)
theorem xo_w (P : Int32 → Prop) {j m o : Nat} (ht : t < 4) (hm : xfm t = nI m) (hm6 : m < 6) (hd : xfd t = nI d) (h4 : d ≤ 4) (hj : 1 ≤ j) (hjd : j ≤ d) (ho : xcv (6 * t + (d + 2 - j)) = nI (o + 1)) (ho8 : o < 8) (h0 : (¬ xsh (o + 1) = 0 ∨ xow (o + 1) = nI (m / 2)) → P 0) (h3 : ¬ (¬ xsh (o + 1) = 0 ∨ xow (o + 1) = nI (m / 2)) → P 3) : wpX_wallFailure P (nI l, xpc, xnd, xwc, xit, nI (t + 1), xwt, xan, xlp, xpo, xpb, xwd, xwk, xnk, xco, xcb, xml, xme, xro, xow, xol, xla, xsh, xoe, xoh, xsr, xss, xse, xms, xfm, xfa, xfd, xcv, xcr) (nI j) := by
  unfold wpX_wallFailure
  refine pr_xentry _ ht hd h4 hj hjd ?_
  rw [ho]
  refine br_f (nI_ne0 (by omega) (by omega)) ⟨vp_in_nI (by omega) (by omega), ?_⟩
  rw [nI_clamp (by omega)]
  exact br_c (fun z => ⟨vp_in_nI (by omega) (by omega), pr_own _ ht hm hm6 (br_c (fun y => h0 (Or.inr y)) (fun y => h3 (fun w => w.elim (fun q => q z) y)))⟩) (fun z => h0 (Or.inl z))
theorem xo_en (P : Int32 → Prop) {j : Nat} (ht : t < 4) (hd : xfd t = nI d) (h4 : d ≤ 4) (hj : 1 ≤ j) (hjd : j ≤ d) (ho : xcv (6 * t + (d + 2 - j)) = 0) (h : P 2) : wpX_elementFailure P (nI l, xpc, xnd, xwc, xit, nI (t + 1), xwt, xan, xlp, xpo, xpb, xwd, xwk, xnk, xco, xcb, xml, xme, xro, xow, xol, xla, xsh, xoe, xoh, xsr, xss, xse, xms, xfm, xfa, xfd, xcv, xcr) (nI j) := by
  unfold wpX_elementFailure
  exact xo_wn _ ht hd h4 hj hjd ho (br_f (by decide) h)
theorem xo_e (P : Int32 → Prop) {j m o : Nat} (ht : t < 4) (hm : xfm t = nI m) (hm6 : m < 6) (hd : xfd t = nI d) (h4 : d ≤ 4) (hj : 2 ≤ j) (hjd : j ≤ d) (ho : xcv (6 * t + (d + 2 - j)) = nI (o + 1)) (ho8 : o < 8) (h0 : (¬ xsh (o + 1) = 0 ∨ xow (o + 1) = nI (m / 2)) → (¬ xcv (6 * t + (d + 3 - j)) < 0 ∧ xcv (6 * t + (d + 3 - j)) < xol (o + 1)) → P 0) (hb : (¬ xsh (o + 1) = 0 ∨ xow (o + 1) = nI (m / 2)) → ¬ (¬ xcv (6 * t + (d + 3 - j)) < 0 ∧ xcv (6 * t + (d + 3 - j)) < xol (o + 1)) → P 4) (h3 : ¬ (¬ xsh (o + 1) = 0 ∨ xow (o + 1) = nI (m / 2)) → P 3) : wpX_elementFailure P (nI l, xpc, xnd, xwc, xit, nI (t + 1), xwt, xan, xlp, xpo, xpb, xwd, xwk, xnk, xco, xcb, xml, xme, xro, xow, xol, xla, xsh, xoe, xoh, xsr, xss, xse, xms, xfm, xfa, xfd, xcv, xcr) (nI j) := by
  unfold wpX_elementFailure
  have ej : nI j - 1 = nI (j - 1) := by
    obtain ⟨q, rfl⟩ : ∃ q, j = q + 1 := ⟨j - 1, by omega⟩
    exact nI_pred q
  have e3 : d + 2 - (j - 1) = d + 3 - j := by omega
  refine xo_w _ ht hm hm6 hd h4 (by omega) hjd ho ho8 (fun w => br_t rfl (pr_xentry _ ht hd h4 (by omega) hjd ?_)) (fun w => br_f (by decide) (h3 w))
  rw [ho, ej]
  refine pr_xentry _ ht hd h4 (by omega) (by omega) ?_
  rw [e3]
  refine br_c (fun z => hb w (fun q => q.1 z)) (fun z => ⟨vp_in_nI (by omega) (by omega), ?_⟩)
  rw [nI_clamp (by omega)]
  exact br_c (fun y => h0 w ⟨z, y⟩) (fun y => hb w (fun q => y q.2))
theorem xo_sn (P : Int32 → Prop) (ht : t < 4) (hd : xfd t = nI (d + 1)) (h4 : d < 4) (ho : xcv (6 * t + (d + 2)) = 0) (h : P 2) : wpX_shareFailure P (nI l, xpc, xnd, xwc, xit, nI (t + 1), xwt, xan, xlp, xpo, xpb, xwd, xwk, xnk, xco, xcb, xml, xme, xro, xow, xol, xla, xsh, xoe, xoh, xsr, xss, xse, xms, xfm, xfa, xfd, xcv, xcr) := by
  unfold wpX_shareFailure
  exact pr_xentry _ (j := 1) ht hd (by omega) (by omega) (by omega) (br_t ho h)
theorem xo_s (P : Int32 → Prop) {m o : Nat} (ht : t < 4) (hm : xfm t = nI m) (hm6 : m < 6) (hd : xfd t = nI (d + 1)) (h4 : d < 4) (ho : xcv (6 * t + (d + 2)) = nI (o + 1)) (ho8 : o < 8) (h0 : xow (o + 1) = nI (m / 2) → P 0) (h3 : ¬ xow (o + 1) = nI (m / 2) → P 3) : wpX_shareFailure P (nI l, xpc, xnd, xwc, xit, nI (t + 1), xwt, xan, xlp, xpo, xpb, xwd, xwk, xnk, xco, xcb, xml, xme, xro, xow, xol, xla, xsh, xoe, xoh, xsr, xss, xse, xms, xfm, xfa, xfd, xcv, xcr) := by
  unfold wpX_shareFailure
  refine pr_xentry _ (j := 1) ht hd (by omega) (by omega) (by omega) ?_
  have ho' : xcv (6 * t + (d + 1 + 2 - 1)) = nI (o + 1) := ho
  rw [ho']
  refine br_f (nI_ne0 (by omega) (by omega)) ⟨vp_in_nI (by omega) (by omega), ?_⟩
  rw [nI_clamp (by omega)]
  exact pr_own _ ht hm hm6 (br_c h0 h3)
theorem xo_callF (P : Int32 → Prop) {m b : Nat} (ht : t < 4) (hm : xfm t = nI m) (hm6 : m < 6) (hb : b < 6) (h5 : xml b = 0 → P 5) (h3 : ¬ xml b = 0 → xme b = 0 → ¬ b / 2 = m / 2 → P 3) (hok : ¬ xml b = 0 → (¬ xme b = 0 ∨ b / 2 = m / 2) → (t < 3 → P 0) ∧ (t = 3 → P 6)) : wpX_callFailure P (nI l, xpc, xnd, xwc, xit, nI (t + 1), xwt, xan, xlp, xpo, xpb, xwd, xwk, xnk, xco, xcb, xml, xme, xro, xow, xol, xla, xsh, xoe, xoh, xsr, xss, xse, xms, xfm, xfa, xfd, xcv, xcr) (nI b) := by
  have e0 : (nI b).toNatClampNeg = b := nI_clamp (by omega)
  have k : (¬ xml b = 0 → (¬ xme b = 0 ∨ b / 2 = m / 2) → wX_callFailure_32 P (nI l) xpc xnd xwc xit (nI (t + 1)) xwt xan xlp xpo xpb xwd xwk xnk xco xcb xml xme xro xow xol xla xsh xoe xoh xsr xss xse xms xfm xfa xfd xcv xcr) := fun z y => pk_lt (t + 1) 4 (fun w => (hok z y).1 (by omega)) (fun w => (hok z y).2 (by omega))
  refine ⟨vp_in_nI hb (by omega), ?_⟩
  rw [e0]
  refine br_c h5 (fun z => ⟨vp_in_nI hb (by omega), br_c (fun y => ⟨by decide, pr_own _ ht hm hm6 ?_⟩) (fun y => k z (Or.inl y))⟩)
  rw [pr_h b hb]
  exact pk_eq (b / 2) (m / 2) (fun w => k z (Or.inr w)) (fun w => h3 z y w)
end XO
