/-! THE COMPONENT'S CHECK: the passes -/
/-- the code's numbers, as the component holds them while it checks -/
def xw_code (po pb : Nat → Int32) (op b : Nat → Nat) (n : Nat) : Prop := n ≤ 16 ∧ ∀ k, k < n → op k < 25 ∧ po k = nI (op k) ∧ rl_fb (op k) (pb k) n ∧ b k = (pb k).toNatClampNeg
theorem xw_code_b {po pb : Nat → Int32} {op b : Nat → Nat} {n k : Nat} (h : xw_code po pb op b n) (hk : k < n) : (op k = 1 ∨ op k = 2 → b k ≤ 1 ∧ pb k = nI (b k)) ∧ (op k = 7 ∨ op k = 8 → b k < n ∧ pb k = nI (b k)) := by
  obtain ⟨hn, h⟩ := h
  obtain ⟨_, _, hf, hb⟩ := h k hk
  refine ⟨fun z => ?_, fun z => ?_⟩
  · rcases hf.2.1 (by omega) with e | e
    · rw [hb, e]
      exact ⟨by decide, by decide⟩
    · rw [hb, e]
      exact ⟨by decide, by decide⟩
  · obtain ⟨e1, e2⟩ := hf.2.2.1 z
    obtain ⟨j, hj, e⟩ := nI_of (x := pb k) (Int32.not_lt.mpr e1)
    rw [e] at e2
    have := (nI_ltI hj (by omega)).mp e2
    rw [hb, e, nI_clamp hj]
    exact ⟨this, rfl⟩
theorem xw_code_p {po pb : Nat → Int32} {op b : Nat → Nat} {n : Nat} (h : xw_code po pb op b n) : ∀ k, k < n → ck_pr (ck_pg (op k) (b k)) := fun k hk => ck_pr_pg (h.2 k hk).1 (fun z => ((xw_code_b h hk).1 z).1)
theorem xw_rd4 : ∀ (L : List Nat) (d : Nat) (f : Nat → Nat), ck_pr L → d ≤ 4 → ck_bs L d f → ck_rd L d ≤ 4
  | [], _, _, _, hd, _ => hd
  | p :: L, d, f, hp, hd, hb => by
    refine xw_rd4 L _ _ (fun q hq => hp q (List.mem_cons_of_mem _ hq)) ?_ hb.2
    have h1 := hb.1.1
    unfold ck_ok at h1
    unfold ck_nd
    by_cases c3 : p ≤ 3
    · simp only [c3, ↓reduceIte] at h1 ⊢
      omega
    · by_cases c7 : p ≤ 7
      · simp only [c3, c7, ↓reduceIte] at h1 ⊢
        omega
      · by_cases c9 : p ≤ 9
        · simp only [c3, c7, c9, ↓reduceIte] at h1 ⊢
          omega
        · simp only [c3, c7, c9, ↓reduceIte] at h1 ⊢
          omega
/-- no cell of the stack or of the locals becomes empty -/
theorem xw_k0 {p d : Nat} {K : Nat → Nat} (hp : 1 ≤ p ∧ p ≤ 10) (ho : ck_ok p d) (h : ∀ j, j < d + 2 → K j ≠ 0) : ∀ j, j < ck_nd p d + 2 → ck_k p d K j ≠ 0 := by
  intro j hj
  obtain ⟨p1, p10⟩ := hp
  unfold ck_ok at ho
  unfold ck_nd at hj
  unfold ck_k
  by_cases c3 : p ≤ 3
  · simp only [c3, ↓reduceIte] at ho hj ⊢
    exact h j (by omega)
  · by_cases c5 : p ≤ 5
    · have c7 : p ≤ 7 := by omega
      simp only [c3, c5, c7, ↓reduceIte] at ho hj ⊢
      by_cases e : j = d + 2
      · rw [e, ck_us]; omega
      · rw [ck_uo e]; exact h j (by omega)
    · by_cases c7 : p ≤ 7
      · simp only [c3, c5, c7, ↓reduceIte] at ho hj ⊢
        by_cases e : j = d + 2
        · rw [e, ck_us]; exact h _ (by omega)
        · rw [ck_uo e]; exact h j (by omega)
      · by_cases c9 : p ≤ 9
        · simp only [c3, c5, c7, c9, ↓reduceIte] at ho hj ⊢
          by_cases e : j = p - 8
          · rw [e, ck_us]; exact h _ (by omega)
          · rw [ck_uo e]; exact h j (by omega)
        · simp only [c3, c5, c7, c9, ↓reduceIte] at ho hj ⊢
          by_cases e : j = d + 2
          · rw [e, ck_us]; exact h _ (by omega)
          · rw [ck_uo e]; exact h j (by omega)
theorem xw_rk0 : ∀ (L : List Nat) (d : Nat) (K : Nat → Nat), ck_pr L → ck_bs L d K → (∀ j, j < d + 2 → K j ≠ 0) → ∀ j, j < ck_rd L d + 2 → ck_rk L d K j ≠ 0
  | [], _, _, _, _, h => h
  | p :: L, d, K, hp, hb, h => xw_rk0 L _ _ (fun q hq => hp q (List.mem_cons_of_mem _ hq)) hb.2 (xw_k0 (hp p (List.mem_cons_self ..)) hb.1.1 h)
/-- what an instruction owes to the table, once it has been looked at -/
def xw_Q (op b : Nat → Nat) (n : Nat) (D W D' W' : Nat → Nat) (k d : Nat) : Prop :=
  ck_bs (ck_pg (op k) (b k)) d (fun j => W (6 * k + j)) ∧ ((op k = 7 ∨ op k = 8) → ck_sub n D' W' (b k) (ck_rd (ck_pg (op k) (b k)) d) (ck_rk (ck_pg (op k) (b k)) d (fun j => W (6 * k + j)))) ∧ ((op k ≠ 7 ∧ op k ≠ 19) → ck_sub n D' W' (k + 1) (ck_rd (ck_pg (op k) (b k)) d) (ck_rk (ck_pg (op k) (b k)) d (fun j => W (6 * k + j))))
def xw_Ce (op b : Nat → Nat) (n : Nat) (M : Nat → Nat → (Nat → Nat) → Prop) : Prop := ck_cl op b n M ∧ ∀ k d f d' f', M k d f → M k d' f' → d = d'
/-- where the table comes by ways of M, the step is good, and what it brings comes by ways of M too -/
theorem xw_good {op b : Nat → Nat} {n : Nat} {M : Nat → Nat → (Nat → Nat) → Prop} {D W : Nat → Nat} {k d : Nat} (hp : ck_pr (ck_pg (op k) (b k))) (hM : xw_Ce op b n M) (hC : xw_C M D W) (hk : k < 16) (hD : D k = d + 1) :
    ck_bs (ck_pg (op k) (b k)) d (fun j => W (6 * k + j)) ∧ (∀ s, (∀ f, M k d f → M s (ck_rd (ck_pg (op k) (b k)) d) (ck_rk (ck_pg (op k) (b k)) d f)) → s < n ∧ (s < 16 → D s = 0 ∨ D s = ck_rd (ck_pg (op k) (b k)) d + 1) ∧ (∃ f, M s (ck_rd (ck_pg (op k) (b k)) d) f) ∧ ck_wi (ck_rd (ck_pg (op k) (b k)) d) (ck_rk (ck_pg (op k) (b k)) d (fun j => W (6 * k + j))) (M s (ck_rd (ck_pg (op k) (b k)) d))) := by
  obtain ⟨⟨f0, hf0⟩, hw⟩ := hC k d hk hD
  obtain ⟨h1, h2⟩ := ck_wL _ d _ _ hp ⟨f0, hf0⟩ hw (fun f hf => (hM.1 k d f hf).2.1)
  refine ⟨h1, fun s hs => ⟨(hM.1 s _ _ (hs f0 hf0)).1, fun hs6 => ?_, ⟨_, hs f0 hf0⟩, fun j hj c hc => ?_⟩⟩
  · by_cases e : D s = 0
    · exact Or.inl e
    · obtain ⟨q, hq⟩ : ∃ q, D s = q + 1 := ⟨D s - 1, by omega⟩
      obtain ⟨⟨g, hg⟩, _⟩ := hC s q hs6 hq
      have := hM.2 s q g _ _ hg (hs f0 hf0)
      exact Or.inr (by omega)
  · obtain ⟨g, ⟨f, hf, rfl⟩, e⟩ := h2 j hj c hc
    exact ⟨_, hs f hf, e⟩
section XP
variable {xlim xpc xnd xwc xit xfc xwt xan xlp : Int32}
variable {xpo xpb xwd xwk xnk xco xcb xml xme xro xow xol xla xsh xoe xoh xsr xss xse xms xfm xfa xfd xcv xcr : Nat → Int32}
variable {op b : Nat → Nat} {n : Nat} {M : Nat → Nat → (Nat → Nat) → Prop}
/-- one arrival, with all that is kept -/
theorem xw_arrM (post : Int32 → SX → Prop) {s k d : Nat} {D0 W0 D W : Nat → Nat} {a : Int32} (hn : n ≤ 16) (hs : s ≤ 16) (hk : k < 16) (hp : ck_pr (ck_pg (op k) (b k))) (hd : ck_rd (ck_pg (op k) (b k)) d ≤ 4) (hK : xk_K xnk (ck_rk (ck_pg (op k) (b k)) d (fun j => W0 (6 * k + j)))) (hK0 : ∀ j, j < ck_rd (ck_pg (op k) (b k)) d + 2 → ck_rk (ck_pg (op k) (b k)) d (fun j => W0 (6 * k + j)) j ≠ 0)
    (hT : xw_T xwd xwk D W) (ha : rl_b xwc) (hA : xw_A D0 W0 D W a xwc) (hD : D0 k = d + 1) (hC0 : xw_Ce op b n M → xw_C M D0 W0) (hC : xw_Ce op b n M → xw_C M D W) (hMs : xw_Ce op b n M → ∀ f, M k d f → M s (ck_rd (ck_pg (op k) (b k)) d) (ck_rk (ck_pg (op k) (b k)) d f))
    (h1 : ∀ wd wk wc D' W', xw_T wd wk D' W' → rl_b wc → xw_A D W D' W' xwc wc → ck_sub n D' W' s (ck_rd (ck_pg (op k) (b k)) d) (ck_rk (ck_pg (op k) (b k)) d (fun j => W0 (6 * k + j))) → (xw_Ce op b n M → xw_C M D' W') → post 1 (xlim, xpc, nI (ck_rd (ck_pg (op k) (b k)) d), wc, xit, xfc, xwt, xan, xlp, xpo, xpb, wd, wk, xnk, xco, xcb, xml, xme, xro, xow, xol, xla, xsh, xoe, xoh, xsr, xss, xse, xms, xfm, xfa, xfd, xcv, xcr))
    (h0 : ¬ xw_Ce op b n M → post 0 (xlim, xpc, nI (ck_rd (ck_pg (op k) (b k)) d), xwc, xit, xfc, xwt, xan, xlp, xpo, xpb, xwd, xwk, xnk, xco, xcb, xml, xme, xro, xow, xol, xla, xsh, xoe, xoh, xsr, xss, xse, xms, xfm, xfa, xfd, xcv, xcr)) : wpX_arrives post (xlim, xpc, nI (ck_rd (ck_pg (op k) (b k)) d), xwc, xit, xfc, xwt, xan, xlp, xpo, xpb, xwd, xwk, xnk, xco, xcb, xml, xme, xro, xow, xol, xla, xsh, xoe, xoh, xsr, xss, xse, xms, xfm, xfa, xfd, xcv, xcr) (nI s) (nI n) := by
  have hK' : ∀ j, j < 6 → ck_rk (ck_pg (op k) (b k)) d (fun j => W0 (6 * k + j)) j < 8 ∧ (2 ≤ j → ck_rk (ck_pg (op k) (b k)) d (fun j => W0 (6 * k + j)) j < 4) := fun j hj => (hK j hj).2
  refine xw_arr post hs hn hd hK hK0 hT ha (fun z y wd wk wc q1 q2 q3 => h1 wd wk wc _ _ q1 q2 q3 (xw_sub_new z hT.2.2.1 hK' hd) (fun hM => ?_)) (fun z => h0 (fun hM => z ?_))
  · obtain ⟨_, g2⟩ := xw_good hp hM (hC0 hM) hk hD
    obtain ⟨_, _, g3, g4⟩ := g2 s (hMs hM)
    exact xw_C_new (hC hM) (fun k hk => (hT.1 k hk).2) hT.2.2.1 hK' hd y (hT.2.2.2.2 s (by omega)) g3 g4
  · obtain ⟨_, g2⟩ := xw_good hp hM (hC0 hM) hk hD
    obtain ⟨g5, _, g3, g4⟩ := g2 s (hMs hM)
    refine ⟨g5, ?_⟩
    by_cases e : D s = 0
    · exact Or.inl e
    · obtain ⟨q, hq⟩ : ∃ q, D s = q + 1 := ⟨D s - 1, by omega⟩
      obtain ⟨⟨g, hg⟩, _⟩ := hC hM s q (by omega) hq
      obtain ⟨g', hg'⟩ := g3
      have := hM.2 s q g _ _ hg hg'
      exact Or.inr (by omega)
theorem xw_123 (post : Int32 → SX → Prop) {k d : Nat} {D0 W0 D W : Nat → Nat} {a : Int32} (hn : n ≤ 16) (hk : k < 16) (hp : ck_pr (ck_pg (op k) (b k))) (hd : ck_rd (ck_pg (op k) (b k)) d ≤ 4) (hK : xk_K xnk (ck_rk (ck_pg (op k) (b k)) d (fun j => W0 (6 * k + j)))) (hK0 : ∀ j, j < ck_rd (ck_pg (op k) (b k)) d + 2 → ck_rk (ck_pg (op k) (b k)) d (fun j => W0 (6 * k + j)) j ≠ 0)
    (hT : xw_T xwd xwk D W) (ha : rl_b xwc) (hA : xw_A D0 W0 D W a xwc) (hD : D0 k = d + 1) (hC0 : xw_Ce op b n M → xw_C M D0 W0) (hC : xw_Ce op b n M → xw_C M D W) (hgo : op k ≠ 7 ∧ op k ≠ 19)
    (hbs : ck_bs (ck_pg (op k) (b k)) d (fun j => W0 (6 * k + j))) (hj : (op k = 7 ∨ op k = 8) → ck_sub n D W (b k) (ck_rd (ck_pg (op k) (b k)) d) (ck_rk (ck_pg (op k) (b k)) d (fun j => W0 (6 * k + j))))
    (h1 : ∀ wd wk wc nk nd D' W', xw_T wd wk D' W' → rl_b wc → xw_A D0 W0 D' W' a wc → xw_Q op b n D0 W0 D' W' k d → (xw_Ce op b n M → xw_C M D' W') → post 1 (xlim, xpc, nd, wc, xit, xfc, xwt, xan, xlp, xpo, xpb, wd, wk, nk, xco, xcb, xml, xme, xro, xow, xol, xla, xsh, xoe, xoh, xsr, xss, xse, xms, xfm, xfa, xfd, xcv, xcr))
    (h0 : ¬ xw_Ce op b n M → ∀ wd wk wc nk nd, post 0 (xlim, xpc, nd, wc, xit, xfc, xwt, xan, xlp, xpo, xpb, wd, wk, nk, xco, xcb, xml, xme, xro, xow, xol, xla, xsh, xoe, xoh, xsr, xss, xse, xms, xfm, xfa, xfd, xcv, xcr)) : wX_goesWellFrom_123 post (nI k) (nI n) 1 xlim xpc (nI (ck_rd (ck_pg (op k) (b k)) d)) xwc xit xfc xwt xan xlp xpo xpb xwd xwk xnk xco xcb xml xme xro xow xol xla xsh xoe xoh xsr xss xse xms xfm xfa xfd xcv xcr := by
  refine br_f (by decide) ?_
  rw [nI_1]
  refine xw_arrM (M := M) _ hn (by omega) hk hp hd hK hK0 hT ha hA hD hC0 hC (fun hM f hf => (hM.1 k d f hf).2.2.2 hgo) (fun wd wk wc D' W' q1 q2 q3 q4 q5 => ?_) (fun z => br_t rfl (h0 z _ _ _ _ _))
  exact br_f (by decide) (h1 _ _ _ _ _ D' W' q1 q2 (xw_A_tr hA q3) ⟨hbs, fun z => xw_sub_up hn hd q3 (hj z), fun _ => q4⟩ q5)
theorem xw_rest (post : Int32 → SX → Prop) {k d m : Nat} {D W : Nat → Nat} (hc : xw_code xpo xpb op b n) (hk : k < n) (hT : xw_T xwd xwk D W) (ha : rl_b xwc) (hD : D k = d + 1) (hC : xw_Ce op b n M → xw_C M D W) (hK : xk_K xnk (fun j => W (6 * k + j)))
    (h1 : ∀ wd wk wc nk nd D' W', xw_T wd wk D' W' → rl_b wc → xw_A D W D' W' xwc wc → xw_Q op b n D W D' W' k d → (xw_Ce op b n M → xw_C M D' W') → post 1 (xlim, xpc, nd, wc, xit, xfc, xwt, xan, xlp, xpo, xpb, wd, wk, nk, xco, xcb, xml, xme, xro, xow, xol, xla, xsh, xoe, xoh, xsr, xss, xse, xms, xfm, xfa, xfd, xcv, xcr))
    (h0 : ¬ xw_Ce op b n M → ∀ wd wk wc nk nd, post 0 (xlim, xpc, nd, wc, xit, xfc, xwt, xan, xlp, xpo, xpb, wd, wk, nk, xco, xcb, xml, xme, xro, xow, xol, xla, xsh, xoe, xoh, xsr, xss, xse, xms, xfm, xfa, xfd, xcv, xcr)) : wX_goesWellFrom_12 post (nI k) (nI n) xlim xpc (nI d) xwc xit xfc xwt xan xlp (m + 1) (nI 6) xpo xpb xwd xwk xnk xco xcb xml xme xro xow xol xla xsh xoe xoh xsr xss xse xms xfm xfa xfd xcv xcr := by
  have hn := hc.1
  have e0 : (nI k).toNatClampNeg = k := nI_clamp (by omega)
  have hk16 : k < 16 := by omega
  obtain ⟨ho, hpo, hfb, hb⟩ := hc.2 k hk
  obtain ⟨hb12, hb78⟩ := xw_code_b hc hk
  have hp := xw_code_p hc k hk
  have h5 := (hT.1 k hk16).2
  refine br_t (by decide) ⟨pk_in k 16 (by omega), nm_r (e' := nI (op k)) (by rw [e0]; exact hpo) ⟨pk_in k 16 (by omega), nm_r (e' := xpb k) (by rw [e0]) ?_⟩⟩
  refine xk_op _ ho hb12 (by omega) hK (fun hbs nk hk2 => ?_) (fun hnb nd nk => br_t rfl (h0 (fun hM => hnb (xw_good hp hM (hC hM) hk16 hD).1) _ _ _ _ _))
  have hrd := xw_rd4 _ _ _ hp (by omega) hbs
  have hrk := xw_rk0 _ _ _ hp hbs (hT.2.2.2.1 k hk16 d hD)
  refine br_f (by decide) (pk_eq (op k) 7 (fun z => ?_) (fun z => pk_eq (op k) 8 (fun y => ?_) (fun y => ?_)))
  · obtain ⟨hb1, hb2⟩ := hb78 (Or.inl z)
    rw [hb2]
    refine br_t (by rw [z]; rfl) (br_f (by decide) ?_)
    refine xw_arrM (M := M) (op := op) (b := b) (k := k) (D0 := D) (W0 := W) _ hn (by omega) hk16 hp hrd hk2 hrk hT ha xw_A_rf hD hC hC (fun hM f hf => (hM.1 k d f hf).2.2.1 (Or.inl z)) (fun wd wk wc D' W' q1 q2 q3 q4 q5 => ?_) (fun z => br_t rfl (h0 z _ _ _ _ _))
    exact br_f (by decide) (br_t rfl (h1 _ _ _ _ _ D' W' q1 q2 q3 ⟨hbs, fun _ => q4, fun w => absurd z w.1⟩ q5))
  · obtain ⟨hb1, hb2⟩ := hb78 (Or.inr y)
    rw [hb2]
    refine br_f (by rw [y]; decide) (br_f (by rw [y]; decide) (br_f (by decide) ?_))
    refine xw_arrM (M := M) (op := op) (b := b) (k := k) (D0 := D) (W0 := W) _ hn (by omega) hk16 hp hrd hk2 hrk hT ha xw_A_rf hD hC hC (fun hM f hf => (hM.1 k d f hf).2.2.1 (Or.inr y)) (fun wd wk wc D' W' q1 q2 q3 q4 q5 => ?_) (fun z => br_t rfl (h0 z _ _ _ _ _))
    exact br_f (by decide) (xw_123 (M := M) (op := op) (b := b) (D0 := D) (W0 := W) post hn hk16 hp hrd hk2 hrk q1 q2 q3 hD hC q5 ⟨z, by omega⟩ hbs (fun _ => q4) h1 h0)
  · refine br_f (fun w => z ((nI_eq (b := 7) (by omega) (by decide)).mp w)) (pk_eq (op k) 19 (fun x => ?_) (fun x => ?_))
    · exact br_t rfl (br_t rfl (h1 _ _ _ _ _ D W hT ha xw_A_rf ⟨hbs, fun w => absurd w (by omega), fun w => absurd x w.2⟩ hC))
    · exact br_t rfl (xw_123 (M := M) (op := op) (b := b) (D0 := D) (W0 := W) post hn hk16 hp hrd hk2 hrk hT ha xw_A_rf hD hC hC ⟨z, x⟩ hbs (fun w => absurd w (by omega)) h1 h0)
theorem xw_l12 (post : Int32 → SX → Prop) {k d : Nat} {W : Nat → Nat} (hk : k < 16) (hwk : ∀ i, i < 96 → xwk i = nI (W i)) (hW : ck_wb W)
    (hp : ∀ m nk, xk_K nk (fun j => W (6 * k + j)) → wX_goesWellFrom_12 post (nI k) (nI n) xlim xpc (nI d) xwc xit xfc xwt xan xlp (m + 1) (nI 6) xpo xpb xwd xwk nk xco xcb xml xme xro xow xol xla xsh xoe xoh xsr xss xse xms xfm xfa xfd xcv xcr) :
    ∀ e c m nk, c + e = 6 → e < m → (∀ j, j < c → nk j = nI (W (6 * k + j))) → wX_goesWellFrom_12 post (nI k) (nI n) xlim xpc (nI d) xwc xit xfc xwt xan xlp m (nI c) xpo xpb xwd xwk nk xco xcb xml xme xro xow xol xla xsh xoe xoh xsr xss xse xms xfm xfa xfd xcv xcr := by
  intro e
  induction e with
  | zero =>
    intro c m nk hc hm hj
    obtain ⟨m, rfl⟩ : ∃ q, m = q + 1 := ⟨m - 1, by omega⟩
    obtain rfl : c = 6 := by omega
    exact hp m nk (fun j h6 => ⟨hj j h6, (hW _).1, fun h2 => (hW _).2 (by omega)⟩)
  | succ e ih =>
    intro c m nk hc hm hj
    obtain ⟨m, rfl⟩ : ∃ q, m = q + 1 := ⟨m - 1, by omega⟩
    have i0 := xw_6 k c
    have e0 : ((6 : Int32) * nI k + nI c).toNatClampNeg = 6 * k + c := pk_cl _ i0
    have e1 : (nI c).toNatClampNeg = c := nI_clamp (by omega)
    refine br_f (nI_ge (b := 6) (by omega) (by decide)) ⟨pk_in (6 * k + c) 96 (by omega) i0, pk_in c 6 (by omega), nm_e (nm_r (nI_1 c) (ih (c + 1) m _ (by omega) (by omega) (fun j hj' => ?_)))⟩
    rw [e0, e1]
    by_cases q : j = c
    · rw [q, pk_us]
      exact hwk _ (by omega)
    · rw [pk_un q]
      exact hj j (by omega)
theorem xw_from (post : Int32 → SX → Prop) {k d : Nat} {D W : Nat → Nat} (hc : xw_code xpo xpb op b n) (hk : k < n) (hT : xw_T xwd xwk D W) (ha : rl_b xwc) (hD : D k = d + 1) (hC : xw_Ce op b n M → xw_C M D W)
    (h1 : ∀ wd wk wc nk nd D' W', xw_T wd wk D' W' → rl_b wc → xw_A D W D' W' xwc wc → xw_Q op b n D W D' W' k d → (xw_Ce op b n M → xw_C M D' W') → post 1 (xlim, xpc, nd, wc, xit, xfc, xwt, xan, xlp, xpo, xpb, wd, wk, nk, xco, xcb, xml, xme, xro, xow, xol, xla, xsh, xoe, xoh, xsr, xss, xse, xms, xfm, xfa, xfd, xcv, xcr))
    (h0 : ¬ xw_Ce op b n M → ∀ wd wk wc nk nd, post 0 (xlim, xpc, nd, wc, xit, xfc, xwt, xan, xlp, xpo, xpb, wd, wk, nk, xco, xcb, xml, xme, xro, xow, xol, xla, xsh, xoe, xoh, xsr, xss, xse, xms, xfm, xfa, xfd, xcv, xcr)) : wpX_goesWellFrom post (xlim, xpc, xnd, xwc, xit, xfc, xwt, xan, xlp, xpo, xpb, xwd, xwk, xnk, xco, xcb, xml, xme, xro, xow, xol, xla, xsh, xoe, xoh, xsr, xss, xse, xms, xfm, xfa, xfd, xcv, xcr) (nI k) (nI n) := by
  have hn := hc.1
  have e0 : (nI k).toNatClampNeg = k := nI_clamp (by omega)
  refine ⟨pk_in k 16 (by omega), nm_r (e' := nI d) (by rw [e0, (hT.1 k (by omega)).1, hD, rl_s1]) ⟨7, ?_⟩⟩
  exact xw_l12 post (W := W) (by omega) hT.2.1 hT.2.2.1 (fun m nk hK => xw_rest (M := M) post hc hk hT ha hD hC hK h1 h0) 6 0 7 xnk (by omega) (by omega) (fun j hj => absurd hj (by omega))
end XP
