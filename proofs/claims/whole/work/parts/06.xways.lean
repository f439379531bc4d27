/-! THE COMPONENT'S CHECK: the table of kinds -/
theorem xw_has : ∀ a, a < 8 → ∀ b, b < 8 → ∀ c, c < 3 → ((a ||| b) &&& ck_bit c ≠ 0 ↔ (a &&& ck_bit c ≠ 0 ∨ b &&& ck_bit c ≠ 0)) := by decide +kernel
theorem xw_orI : ∀ a, a < 8 → ∀ b, b < 8 → nI a ||| nI b = nI (a ||| b) := by decide +kernel
def xw_T (wd wk : Nat → Int32) (D W : Nat → Nat) : Prop := (∀ k, k < 16 → wd k = nI (D k) - 1 ∧ D k ≤ 5) ∧ (∀ i, i < 96 → wk i = nI (W i)) ∧ ck_wb W ∧ (∀ k, k < 16 → ∀ d, D k = d + 1 → ∀ j, j < d + 2 → W (6 * k + j) ≠ 0) ∧ (∀ k, k < 16 → D k = 0 → ∀ j, j < 6 → W (6 * k + j) = 0)
def xw_or (W K : Nat → Nat) (s m : Nat) : Nat → Nat := fun i => if 6 * s ≤ i ∧ i < 6 * s + m then W i ||| K (i - 6 * s) else W i
theorem xw_or_i {W K : Nat → Nat} {s m j : Nat} (h : j < m) : xw_or W K s m (6 * s + j) = W (6 * s + j) ||| K j := by
  unfold xw_or
  rw [if_pos (by omega), show 6 * s + j - 6 * s = j by omega]
theorem xw_or_o {W K : Nat → Nat} {s m i : Nat} (h : ¬ (6 * s ≤ i ∧ i < 6 * s + m)) : xw_or W K s m i = W i := if_neg h
theorem xw_or_0 {W K : Nat → Nat} {s : Nat} : xw_or W K s 0 = W := by
  funext i
  exact xw_or_o (by omega)
theorem xw_or_s {W K : Nat → Nat} {s m : Nat} : xw_or W K s (m + 1) = ck_un (xw_or W K s m) (6 * s + m) (W (6 * s + m) ||| K m) := by
  funext i
  by_cases e : i = 6 * s + m
  · subst e
    rw [ck_us, xw_or_i (by omega)]
  · rw [ck_uo e]
    by_cases h : 6 * s ≤ i ∧ i < 6 * s + m
    · obtain ⟨j, rfl⟩ : ∃ j, i = 6 * s + j := ⟨i - 6 * s, by omega⟩
      rw [xw_or_i (by omega), xw_or_i (by omega)]
    · rw [xw_or_o h, xw_or_o (by omega)]
/-- the table grows; the flag tells it -/
def xw_A (D W D' W' : Nat → Nat) (wc wc' : Int32) : Prop := (∀ k, k < 16 → D k ≠ 0 → D' k = D k) ∧ (∀ i, i < 96 → ∀ c, ck_has (W i) c → ck_has (W' i) c) ∧ ((D' = D ∧ W' = W ∧ wc' = wc) ∨ (wc' = 1 ∧ ck_mu D W < ck_mu D' W'))
theorem xw_A_rf {D W : Nat → Nat} {wc : Int32} : xw_A D W D W wc wc := ⟨fun _ _ _ => rfl, fun _ _ _ h => h, Or.inl ⟨rfl, rfl, rfl⟩⟩
theorem xw_A_tr {D W D1 W1 D2 W2 : Nat → Nat} {a b c : Int32} (h : xw_A D W D1 W1 a b) (g : xw_A D1 W1 D2 W2 b c) : xw_A D W D2 W2 a c := by
  obtain ⟨h1, h2, h3⟩ := h
  obtain ⟨g1, g2, g3⟩ := g
  refine ⟨fun k hk h0 => ?_, fun i hi c hc => g2 i hi c (h2 i hi c hc), ?_⟩
  · rw [g1 k hk (by rw [h1 k hk h0]; exact h0), h1 k hk h0]
  · rcases h3 with ⟨rfl, rfl, rfl⟩ | ⟨rfl, hm⟩
    · exact g3
    · rcases g3 with ⟨rfl, rfl, rfl⟩ | ⟨rfl, gm⟩
      · exact Or.inr ⟨rfl, hm⟩
      · exact Or.inr ⟨rfl, by omega⟩
theorem xw_sub_up {n s d : Nat} {D W D' W' K : Nat → Nat} {a b : Int32} (hn : n ≤ 16) (hd : d ≤ 4) (h : xw_A D W D' W' a b) (g : ck_sub n D W s d K) : ck_sub n D' W' s d K := by
  obtain ⟨g1, g2, g3⟩ := g
  exact ⟨g1, by rw [h.1 s (by omega) (by omega)]; exact g2, fun j hj c hc => h.2.1 _ (by omega) c (g3 j hj c hc)⟩
/-- what the flag tells of the cells so far -/
def xw_F (W K : Nat → Nat) (s m : Nat) (a b : Int32) : Prop := (b = 0 ∧ a = 0 ∧ ∀ j, j < m → W (6 * s + j) ||| K j = W (6 * s + j)) ∨ (b = 1 ∧ (a = 1 ∨ ∃ j, j < m ∧ W (6 * s + j) ||| K j ≠ W (6 * s + j)))
/-- an arrival's table -/
theorem xw_new {wd wk wd' wk' : Nat → Int32} {D W K : Nat → Nat} {s d : Nat} {a b : Int32} (hs : s < 16) (hd : d ≤ 4) (hT : xw_T wd wk D W) (hK : ∀ j, j < 6 → K j < 8 ∧ (2 ≤ j → K j < 4)) (hK0 : ∀ j, j < d + 2 → K j ≠ 0) (hD : D s = 0 ∨ D s = d + 1)
    (hwd : ∀ k, k < 16 → wd' k = nI (ck_un D s (d + 1) k) - 1) (hwk : ∀ i, i < 96 → wk' i = nI (xw_or W K s (d + 2) i)) (hf : xw_F W K s (d + 2) (if D s = 0 then 1 else a) b) (ha : rl_b a) :
    xw_T wd' wk' (ck_un D s (d + 1)) (xw_or W K s (d + 2)) ∧ rl_b b ∧ xw_A D W (ck_un D s (d + 1)) (xw_or W K s (d + 2)) a b := by
  obtain ⟨t1, t2, t3, t4, t5⟩ := hT
  have hwb : ck_wb (xw_or W K s (d + 2)) := fun i => by
    by_cases h : 6 * s ≤ i ∧ i < 6 * s + (d + 2)
    · obtain ⟨j, rfl⟩ : ∃ j, i = 6 * s + j := ⟨i - 6 * s, by omega⟩
      rw [xw_or_i (by omega)]
      have hk := hK j (by omega)
      exact ⟨(ck_pw_or _ (t3 _).1 _ hk.1).2.2, fun h2 => ck_or4 _ ((t3 _).2 h2) _ (hk.2 (by omega))⟩
    · rw [xw_or_o h]
      exact t3 i
  have hpw : ∀ i, i < 96 → ck_pw (W i) ≤ ck_pw (xw_or W K s (d + 2) i) := fun i _ => by
    by_cases h : 6 * s ≤ i ∧ i < 6 * s + (d + 2)
    · obtain ⟨j, rfl⟩ : ∃ j, i = 6 * s + j := ⟨i - 6 * s, by omega⟩
      rw [xw_or_i (by omega)]
      exact (ck_pw_or _ (t3 _).1 _ (hK j (by omega)).1).1
    · rw [xw_or_o h]
      exact Nat.le_refl _
  have hDD : ∀ k, k < 16 → D k ≠ 0 → ck_un D s (d + 1) k = D k := fun k _ h0 => by
    by_cases e : k = s
    · subst e
      rw [ck_us]
      omega
    · exact ck_uo e
  refine ⟨⟨fun k hk => ⟨hwd k hk, ?_⟩, hwk, hwb, fun k hk d' hd' j hj => ?_, fun k hk h0 j hj => ?_⟩, ?_, hDD, fun i hi c hc => ?_, ?_⟩
  · by_cases e : k = s
    · rw [e, ck_us]
      omega
    · rw [ck_uo e]
      exact (t1 k hk).2
  · by_cases e : k = s
    · subst e
      rw [ck_us] at hd'
      rw [xw_or_i (by omega)]
      exact ck_orn _ (t3 _).1 _ (hK j (by omega)).1 (hK0 j (by omega))
    · rw [ck_uo e] at hd'
      have h5 := (t1 k hk).2
      rw [xw_or_o (by omega)]
      exact t4 k hk d' hd' j hj
  · by_cases e : k = s
    · rw [e, ck_us] at h0
      omega
    · rw [ck_uo e] at h0
      rw [xw_or_o (by omega)]
      exact t5 k hk h0 j hj
  · rcases hf with h | h
    · exact Or.inl h.1
    · exact Or.inr h.1
  · by_cases h : 6 * s ≤ i ∧ i < 6 * s + (d + 2)
    · obtain ⟨j, rfl⟩ : ∃ j, i = 6 * s + j := ⟨i - 6 * s, by omega⟩
      rw [xw_or_i (by omega)]
      exact ⟨hc.1, (xw_has _ (t3 _).1 _ (hK j (by omega)).1 c hc.1).mpr (Or.inl hc.2)⟩
    · rw [xw_or_o h]
      exact hc
  · by_cases h0 : D s = 0
    · rw [if_pos h0] at hf
      have hb : b = 1 := by
        rcases hf with h | h
        · exact absurd h.2.1 (by decide)
        · exact h.1
      exact Or.inr ⟨hb, ck_mu_d (fun k hk h => by rw [hDD k hk h]; exact h) hpw hs h0 (by rw [ck_us]; omega)⟩
    · rw [if_neg h0] at hf
      have hd1 : D s = d + 1 := by omega
      have e1 : ck_un D s (d + 1) = D := by
        funext k
        by_cases e : k = s
        · rw [e, ck_us, hd1]
        · exact ck_uo e
      rcases hf with ⟨rfl, rfl, hq⟩ | ⟨rfl, h | ⟨j, hj, hq⟩⟩
      · refine Or.inl ⟨e1, ?_, rfl⟩
        funext i
        by_cases h : 6 * s ≤ i ∧ i < 6 * s + (d + 2)
        · obtain ⟨j, rfl⟩ : ∃ j, i = 6 * s + j := ⟨i - 6 * s, by omega⟩
          rw [xw_or_i (by omega), hq j (by omega)]
        · exact xw_or_o h
      · by_cases hq : ∀ j, j < d + 2 → W (6 * s + j) ||| K j = W (6 * s + j)
        · refine Or.inl ⟨e1, ?_, h.symm⟩
          funext i
          by_cases h' : 6 * s ≤ i ∧ i < 6 * s + (d + 2)
          · obtain ⟨j, rfl⟩ : ∃ j, i = 6 * s + j := ⟨i - 6 * s, by omega⟩
            rw [xw_or_i (by omega), hq j (by omega)]
          · exact xw_or_o h'
        · have hx : ∃ j, j < d + 2 ∧ W (6 * s + j) ||| K j ≠ W (6 * s + j) := Classical.byContradiction fun q => hq fun j hj => Classical.byContradiction fun q' => q ⟨j, hj, q'⟩
          obtain ⟨j, hj, hq⟩ := hx
          rw [e1]
          exact Or.inr ⟨rfl, ck_mu_w hpw (i := 6 * s + j) (by omega) (by rw [xw_or_i hj]; exact (ck_pw_or _ (t3 _).1 _ (hK j (by omega)).1).2.1 (t4 s hs d hd1 j hj) hq)⟩
      · rw [e1]
        exact Or.inr ⟨rfl, ck_mu_w hpw (i := 6 * s + j) (by omega) (by rw [xw_or_i hj]; exact (ck_pw_or _ (t3 _).1 _ (hK j (by omega)).1).2.1 (t4 s hs d hd1 j hj) hq)⟩
theorem xw_sub_new {D W K : Nat → Nat} {n s d : Nat} (hs : s < n) (hW : ck_wb W) (hK : ∀ j, j < 6 → K j < 8 ∧ (2 ≤ j → K j < 4)) (hd : d ≤ 4) : ck_sub n (ck_un D s (d + 1)) (xw_or W K s (d + 2)) s d K :=
  ⟨hs, ck_us, fun j hj c hc => by
    rw [xw_or_i hj]
    exact ⟨hc.1, (xw_has _ (hW _).1 _ (hK j (by omega)).1 c hc.1).mpr (Or.inr hc.2)⟩⟩
/-- every kind in the table comes by a way -/
def xw_C (M : Nat → Nat → (Nat → Nat) → Prop) (D W : Nat → Nat) : Prop := ∀ k d, k < 16 → D k = d + 1 → (∃ f, M k d f) ∧ ck_wi d (fun j => W (6 * k + j)) (M k d)
theorem xw_C_new {M : Nat → Nat → (Nat → Nat) → Prop} {D W K : Nat → Nat} {s d : Nat} (h : xw_C M D W) (h5 : ∀ k, k < 16 → D k ≤ 5) (hW : ck_wb W) (hK : ∀ j, j < 6 → K j < 8 ∧ (2 ≤ j → K j < 4)) (hd : d ≤ 4) (hD : D s = 0 ∨ D s = d + 1) (hz : D s = 0 → ∀ j, j < 6 → W (6 * s + j) = 0) (hf : ∃ f, M s d f) (hw : ck_wi d K (M s d)) : xw_C M (ck_un D s (d + 1)) (xw_or W K s (d + 2)) := by
  intro k d' hk hd'
  by_cases e : k = s
  · subst e
    rw [ck_us] at hd'
    obtain rfl : d' = d := by omega
    refine ⟨hf, fun j hj c hc => ?_⟩
    dsimp only at hc
    rw [xw_or_i hj] at hc
    rcases (xw_has _ (hW _).1 _ (hK j (by omega)).1 c hc.1).mp hc.2 with q | q
    · rcases hD with h0 | h1
      · rw [hz h0 j (by omega)] at q
        exact absurd (Nat.zero_and _) q
      · exact (h k d' hk h1).2 j hj c ⟨hc.1, q⟩
    · exact hw j hj c ⟨hc.1, q⟩
  · rw [ck_uo e] at hd'
    obtain ⟨a1, a2⟩ := h k d' hk hd'
    refine ⟨a1, fun j hj c hc => ?_⟩
    dsimp only at hc
    have := h5 k hk
    rw [xw_or_o (by omega)] at hc
    exact a2 j hj c hc
section XW
variable {xlim xpc xnd xwc xit xfc xwt xan xlp : Int32}
variable {xpo xpb xwd xwk xnk xco xcb xml xme xro xow xol xla xsh xoe xoh xsr xss xse xms xfm xfa xfd xcv xcr : Nat → Int32}
theorem xw_6 (s c : Nat) : (6 : Int32) * nI s + nI c = nI (6 * s + c) := by rw [show (6 : Int32) * nI s = nI (6 * s) from pk_mul 6 s, nI_add]
theorem xw_l49 (post : Int32 → SX → Prop) {s d : Nat} {K W : Nat → Nat} {a : Int32} (hs : s < 16) (hd : d ≤ 4) (hK : xk_K xnk K) (hW : ck_wb W)
    (hp : ∀ wk wc, (∀ i, i < 96 → wk i = nI (xw_or W K s (d + 2) i)) → xw_F W K s (d + 2) a wc → post 1 (xlim, xpc, nI d, wc, xit, xfc, xwt, xan, xlp, xpo, xpb, xwd, wk, xnk, xco, xcb, xml, xme, xro, xow, xol, xla, xsh, xoe, xoh, xsr, xss, xse, xms, xfm, xfa, xfd, xcv, xcr)) :
    ∀ e c n wk wc, c + e = d + 2 → e < n → (∀ i, i < 96 → wk i = nI (xw_or W K s c i)) → xw_F W K s c a wc → wX_arrives_49 post (nI s) xlim xpc (nI d) xit xfc xwt xan xlp n (nI c) wc xpo xpb xwd wk xnk xco xcb xml xme xro xow xol xla xsh xoe xoh xsr xss xse xms xfm xfa xfd xcv xcr := by
  intro e
  induction e with
  | zero =>
    intro c n wk wc hc hn hw hf
    obtain ⟨n, rfl⟩ : ∃ m, n = m + 1 := ⟨n - 1, by omega⟩
    obtain rfl : c = d + 2 := by omega
    exact br_t (by rw [xk_2]; exact nI_le (Nat.le_refl _) (by omega)) (hp wk wc hw hf)
  | succ e ih =>
    intro c n wk wc hc hn hw hf
    obtain ⟨n, rfl⟩ : ∃ m, n = m + 1 := ⟨n - 1, by omega⟩
    have i0 := xw_6 s c
    have e0 : ((6 : Int32) * nI s + nI c).toNatClampNeg = 6 * s + c := pk_cl _ i0
    have hk := hK c (by omega)
    have ew : wk (((6 : Int32) * nI s + nI c).toNatClampNeg) = nI (W (6 * s + c)) := by
      rw [e0, hw _ (by omega), xw_or_o (by omega)]
    have ek : nI (W (6 * s + c)) ||| xnk (nI c).toNatClampNeg = nI (W (6 * s + c) ||| K c) := by
      rw [nI_clamp (by omega), hk.1, xw_orI _ (hW _).1 _ hk.2.1]
    have hw' : ∀ i, i < 96 → upd wk (((6 : Int32) * nI s + nI c).toNatClampNeg) (nI (W (6 * s + c) ||| K c)) i = nI (xw_or W K s (c + 1) i) := fun i hi => by
      rw [xw_or_s, e0]
      by_cases q : i = 6 * s + c
      · rw [q, pk_us, ck_us]
      · rw [pk_un q, ck_uo q, hw i hi]
    have hlt : W (6 * s + c) ||| K c < 8 := (ck_pw_or _ (hW _).1 _ hk.2.1).2.2
    refine br_f (by rw [xk_2]; exact nI_ge (by omega) (by omega)) ⟨pk_in (6 * s + c) 96 (by omega) i0, nm_r ew ⟨pk_in c 6 (by omega), nm_r ek ⟨pk_in (6 * s + c) 96 (by omega) i0, nm_e (br_c (fun z => br_c (fun y => nm_r (nI_1 c) (ih (c + 1) n _ 0 (by omega) (by omega) hw' ?_)) (fun y => nm_r (nI_1 c) (ih (c + 1) n _ 1 (by omega) (by omega) hw' ?_))) (fun z => nm_r (nI_1 c) (ih (c + 1) n _ 1 (by omega) (by omega) hw' ?_)))⟩⟩⟩
    · have y' := (nI_eq (by omega) (by have := (hW (6 * s + c)).1; omega)).mp y
      rcases hf with ⟨_, h2, h3⟩ | ⟨h1, _⟩
      · refine Or.inl ⟨rfl, h2, fun j hj => ?_⟩
        by_cases q : j = c
        · rw [q]; exact y'
        · exact h3 j (by omega)
      · rw [h1] at z
        exact absurd z (by decide)
    · exact Or.inr ⟨rfl, Or.inr ⟨c, by omega, fun q => y (by rw [q])⟩⟩
    · rcases hf with ⟨h1, _⟩ | ⟨_, h2⟩
      · exact absurd h1 z
      · refine Or.inr ⟨rfl, ?_⟩
        rcases h2 with h2 | ⟨j, hj, hq⟩
        · exact Or.inl h2
        · exact Or.inr ⟨j, by omega, hq⟩
theorem xw_arr (post : Int32 → SX → Prop) {s n d : Nat} {D W K : Nat → Nat} (hs : s ≤ 16) (hn : n ≤ 16) (hd : d ≤ 4) (hK : xk_K xnk K) (hK0 : ∀ j, j < d + 2 → K j ≠ 0) (hT : xw_T xwd xwk D W) (ha : rl_b xwc)
    (h1 : s < n → (D s = 0 ∨ D s = d + 1) → ∀ wd wk wc, xw_T wd wk (ck_un D s (d + 1)) (xw_or W K s (d + 2)) → rl_b wc → xw_A D W (ck_un D s (d + 1)) (xw_or W K s (d + 2)) xwc wc → post 1 (xlim, xpc, nI d, wc, xit, xfc, xwt, xan, xlp, xpo, xpb, wd, wk, xnk, xco, xcb, xml, xme, xro, xow, xol, xla, xsh, xoe, xoh, xsr, xss, xse, xms, xfm, xfa, xfd, xcv, xcr))
    (h0 : ¬ (s < n ∧ (D s = 0 ∨ D s = d + 1)) → post 0 (xlim, xpc, nI d, xwc, xit, xfc, xwt, xan, xlp, xpo, xpb, xwd, xwk, xnk, xco, xcb, xml, xme, xro, xow, xol, xla, xsh, xoe, xoh, xsr, xss, xse, xms, xfm, xfa, xfd, xcv, xcr)) : wpX_arrives post (xlim, xpc, nI d, xwc, xit, xfc, xwt, xan, xlp, xpo, xpb, xwd, xwk, xnk, xco, xcb, xml, xme, xro, xow, xol, xla, xsh, xoe, xoh, xsr, xss, xse, xms, xfm, xfa, xfd, xcv, xcr) (nI s) (nI n) := by
  have hK' : ∀ j, j < 6 → K j < 8 ∧ (2 ≤ j → K j < 4) := fun j hj => (hK j hj).2
  refine pk_lt s n (fun z => ⟨pk_in s 16 (by omega), ?_⟩) (fun z => h0 (by omega))
  have hT2 := hT
  obtain ⟨t1, t2, t3, t4, t5⟩ := hT2
  have e0 : (nI s).toNatClampNeg = s := nI_clamp (by omega)
  have ed := (t1 s (by omega)).1
  have h5 := (t1 s (by omega)).2
  rw [e0, ed]
  refine br_c (fun y => ⟨pk_in s 16 (by omega), nm_e ⟨pk_in s 16 (by omega), ?_⟩⟩) (fun y => ⟨pk_in s 16 (by omega), ?_⟩)
  · have y0 : D s = 0 := by
      cases hq : D s with
      | zero => rfl
      | succ q =>
        rw [hq, rl_s1] at y
        have := nI_pos (n := q) (by omega)
        rw [y] at this
        exact absurd (by decide) this
    rw [e0, pk_us]
    refine br_t rfl ⟨d + 2 + 1, xw_l49 post (K := K) (W := W) (a := 1) (by omega) hd hK t3 (fun wk wc hwk hf => ?_) (d + 2) 0 _ _ _ (by omega) (by omega) (by rw [xw_or_0]; exact t2) (Or.inr ⟨rfl, Or.inl rfl⟩)⟩
    obtain ⟨q1, q2, q3⟩ := xw_new (wd' := upd xwd s (nI d)) (wk' := wk) (a := xwc) (b := wc) (by omega) hd hT hK' hK0 (Or.inl y0) (fun k hk => by
      by_cases e : k = s
      · rw [e, pk_us, ck_us, rl_s1]
      · rw [pk_un e, ck_uo e]
        exact (t1 k hk).1) hwk (by rw [if_pos y0]; exact hf) ha
    exact h1 z (Or.inl y0) _ _ _ q1 q2 q3
  · have y0 : D s ≠ 0 := fun q => y (by rw [q]; exact rl_m1)
    obtain ⟨q, hq⟩ : ∃ q, D s = q + 1 := ⟨D s - 1, by omega⟩
    rw [e0, ed, hq, rl_s1]
    refine br_c (fun x => ?_) (fun x => ?_)
    · have x' : q = d := (nI_eq (by omega) (by omega)).mp x
      rw [x'] at hq
      refine ⟨d + 2 + 1, xw_l49 post (K := K) (W := W) (a := xwc) (by omega) hd hK t3 (fun wk wc hwk hf => ?_) (d + 2) 0 _ _ _ (by omega) (by omega) (by rw [xw_or_0]; exact t2) ?_⟩
      · obtain ⟨q1, q2, q3⟩ := xw_new (wd' := xwd) (wk' := wk) (a := xwc) (b := wc) (by omega) hd hT hK' hK0 (Or.inr hq) (fun k hk => by
          by_cases e : k = s
          · rw [e, ck_us, ed, hq]
          · rw [ck_uo e]
            exact (t1 k hk).1) hwk (by rw [if_neg y0]; exact hf) ha
        exact h1 z (Or.inr hq) _ _ _ q1 q2 q3
      · rcases ha with h | h
        · exact Or.inl ⟨h, h, fun j hj => absurd hj (by omega)⟩
        · exact Or.inr ⟨h, Or.inl h⟩
    · exact h0 (fun w => x (by
        have : q = d := by omega
        rw [this]))
end XW
