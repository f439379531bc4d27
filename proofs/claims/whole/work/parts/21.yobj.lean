/-! THE REFERENCE'S INSTRUCTIONS ON OBJECTS -/
section YB
variable {ylim ywa ysk ylo yrn ysp yaw yan ywh you ygd yop : Int32}
variable {ymd : Int64}
variable {yops ybs ysz yex yow yle yel yla ysh yro yoe yoh yor yrw ynx ydp ypl ykd ymt ytd yht : Nat → Int32}
variable {yst yos : Nat → Int64}
variable {t d k : Nat}
theorem yb_nul_12 (P : SY → Prop) {v' : SY} {B : Int32} (ht : t < 4) (hd : ydp t = nI (d + 2)) (h4 : d + 2 ≤ 4) (ho : ypl (8 * t + (d + 2)) = -1) (hE : ∀ Q : SY → Prop, Q v' → wpY_end Q (ylim, ywa, ysk, ylo, nI (t + 1), ysp, yaw, yan, ywh, you, ymd, ygd, yop, yops, ybs, ysz, yex, yst, yow, yle, yel, yla, ysh, yro, yos, yoe, yoh, yor, yrw, ynx, ydp, ypl, ykd, ymt, ytd, yht) 2) (h : P v') : wpY_onObject P (ylim, ywa, ysk, ylo, nI (t + 1), ysp, yaw, yan, ywh, you, ymd, ygd, yop, yops, ybs, ysz, yex, yst, yow, yle, yel, yla, ysh, yro, yos, yoe, yoh, yor, yrw, ynx, ydp, ypl, ykd, ymt, ytd, yht) 12 B := by
  obtain ⟨a1, a2, a3, a4, a5, a6, a7, a8, a9, c1, c2, c3, c4, c5, c6, c7, c8, c9, d1, d2, d3, d4, d5, d6, d7, d8, d9, e1, e2, e3, e4, e5, e6, e7, e8, e9⟩ := v'
  have ho' : ypl (8 * t + (d + 2 + 1 - 1)) = -1 := ho
  refine br_f (by decide) <| br_f (by decide) <|  br_t rfl <| ?_
  unfold wY_onObject_34
  refine pr_yentry _ (j := 1) ht hd (by omega) (by omega) ?_
  rw [ho']
  refine br_f (by decide) ?_
  unfold wY_onObject_50
  exact pr_yentry _ (j := 0) ht hd (by omega) (by omega) (br_f (by decide) (hE _ h))
theorem yb_ref_12 (P : SY → Prop) {m o : Nat} {B : Int32} (ht : t < 4) (hm : yrw t = nI m) (hm6 : m < 6) (hd : ydp t = nI (d + 2)) (h4 : d + 2 ≤ 4) (ho : ypl (8 * t + (d + 2)) = nI o) (ho8 : o < 8) (h0 : yow o = nI (m / 2) → wY_onObject_83 P 12 (nI o) (ypl (8 * t + (d + 3))) 0 ylim ywa ysk ylo (nI (t + 1)) ysp yaw yan ywh you ymd ygd yop yops ybs ysz yex yst yow yle yel yla ysh yro yos yoe yoh yor yrw ynx ydp ypl ykd ymt ytd yht) (h1 : ¬ yow o = nI (m / 2) → wY_onObject_83 P 12 (nI o) (ypl (8 * t + (d + 3))) 1 ylim ywa ysk ylo (nI (t + 1)) ysp yaw yan ywh you ymd ygd yop yops ybs ysz yex yst yow yle yel yla ysh yro yos yoe yoh yor yrw ynx ydp ypl ykd ymt ytd yht) : wpY_onObject P (ylim, ywa, ysk, ylo, nI (t + 1), ysp, yaw, yan, ywh, you, ymd, ygd, yop, yops, ybs, ysz, yex, yst, yow, yle, yel, yla, ysh, yro, yos, yoe, yoh, yor, yrw, ynx, ydp, ypl, ykd, ymt, ytd, yht) 12 B := by
  have ho' : ypl (8 * t + (d + 2 + 1 - 1)) = nI o := ho
  refine br_f (by decide) <| br_f (by decide) <|  br_t rfl <| ?_
  unfold wY_onObject_34
  refine pr_yentry _ (j := 1) ht hd (by omega) (by omega) ?_
  rw [ho']
  refine br_f (by decide) ?_
  unfold wY_onObject_50
  refine pr_yentry _ (j := 0) ht hd (by omega) (by omega) (br_t (nI_pos' (by omega)) ⟨vp_in_nI (by omega) (by omega), pr_app _ ht hm hm6 ?_⟩)
  rw [nI_clamp (by omega)]
  exact br_c h0 h1
theorem yb_ok_12 (P : SY → Prop) {m o : Nat} {B : Int32} (ht : t < 4) (hm : yrw t = nI m) (hm6 : m < 6) (hd : ydp t = nI (d + 2)) (h4 : d + 2 ≤ 4) (ho : ypl (8 * t + (d + 2)) = nI o) (ho8 : o < 8) (hw : ¬ ysh o = 0 ∨ yow o = nI (m / 2)) (h : wY_onObject_111 P 12 (nI o) (ypl (8 * t + (d + 3))) ylim ywa ysk ylo (nI (t + 1)) ysp yaw yan ywh you ymd ygd yop yops ybs ysz yex yst yow yle yel yla ysh yro yos yoe yoh yor yrw ynx ydp ypl ykd ymt ytd yht) : wpY_onObject P (ylim, ywa, ysk, ylo, nI (t + 1), ysp, yaw, yan, ywh, you, ymd, ygd, yop, yops, ybs, ysz, yex, yst, yow, yle, yel, yla, ysh, yro, yos, yoe, yoh, yor, yrw, ynx, ydp, ypl, ykd, ymt, ytd, yht) 12 B := by
  refine yb_ref_12 P ht hm hm6 hd h4 ho ho8 (fun z => br_t rfl h) (fun z => br_f (by decide) (br_f (by decide) ⟨vp_in_nI (by omega) (by omega), ?_⟩))
  rw [nI_clamp (by omega)]
  exact br_f (hw.resolve_right z) h
theorem yb_wall_12 (P : SY → Prop) {v' : SY} {m o : Nat} {B : Int32} (ht : t < 4) (hm : yrw t = nI m) (hm6 : m < 6) (hd : ydp t = nI (d + 2)) (h4 : d + 2 ≤ 4) (ho : ypl (8 * t + (d + 2)) = nI o) (ho8 : o < 8) (hw : ¬ (¬ ysh o = 0 ∨ yow o = nI (m / 2))) (hE : ∀ Q : SY → Prop, Q v' → wpY_end Q (ylim, ywa, ysk, ylo, nI (t + 1), ysp, yaw, yan, ywh, you, ymd, ygd, yop, yops, ybs, ysz, yex, yst, yow, yle, yel, yla, ysh, yro, yos, yoe, yoh, yor, yrw, ynx, ydp, ypl, ykd, ymt, ytd, yht) 3) (h : P v') : wpY_onObject P (ylim, ywa, ysk, ylo, nI (t + 1), ysp, yaw, yan, ywh, you, ymd, ygd, yop, yops, ybs, ysz, yex, yst, yow, yle, yel, yla, ysh, yro, yos, yoe, yoh, yor, yrw, ynx, ydp, ypl, ykd, ymt, ytd, yht) 12 B := by
  obtain ⟨a1, a2, a3, a4, a5, a6, a7, a8, a9, c1, c2, c3, c4, c5, c6, c7, c8, c9, d1, d2, d3, d4, d5, d6, d7, d8, d9, e1, e2, e3, e4, e5, e6, e7, e8, e9⟩ := v'
  refine yb_ref_12 P ht hm hm6 hd h4 ho ho8 (fun z => absurd (Or.inr z) hw) (fun z => br_f (by decide) (br_f (by decide) ⟨vp_in_nI (by omega) (by omega), ?_⟩))
  rw [nI_clamp (by omega)]
  refine br_t (Classical.byContradiction fun q => hw (Or.inl q)) ?_
  unfold wY_onObject_105
  exact hE _ h
theorem yb_nul_13 (P : SY → Prop) {v' : SY} {B : Int32} (ht : t < 4) (hd : ydp t = nI (d + 3)) (h4 : d + 3 ≤ 4) (ho : ypl (8 * t + (d + 2)) = -1) (hE : ∀ Q : SY → Prop, Q v' → wpY_end Q (ylim, ywa, ysk, ylo, nI (t + 1), ysp, yaw, yan, ywh, you, ymd, ygd, yop, yops, ybs, ysz, yex, yst, yow, yle, yel, yla, ysh, yro, yos, yoe, yoh, yor, yrw, ynx, ydp, ypl, ykd, ymt, ytd, yht) 2) (h : P v') : wpY_onObject P (ylim, ywa, ysk, ylo, nI (t + 1), ysp, yaw, yan, ywh, you, ymd, ygd, yop, yops, ybs, ysz, yex, yst, yow, yle, yel, yla, ysh, yro, yos, yoe, yoh, yor, yrw, ynx, ydp, ypl, ykd, ymt, ytd, yht) 13 B := by
  obtain ⟨a1, a2, a3, a4, a5, a6, a7, a8, a9, c1, c2, c3, c4, c5, c6, c7, c8, c9, d1, d2, d3, d4, d5, d6, d7, d8, d9, e1, e2, e3, e4, e5, e6, e7, e8, e9⟩ := v'
  have ho' : ypl (8 * t + (d + 3 + 1 - 2)) = -1 := ho
  refine br_f (by decide) <|  br_t rfl <| ?_
  unfold wY_onObject_34
  refine pr_yentry _ (j := 2) ht hd (by omega) (by omega) ?_
  rw [ho']
  refine br_t rfl ?_
  unfold wY_onObject_50
  exact pr_yentry _ (j := 1) ht hd (by omega) (by omega) (br_f (by decide) (hE _ h))
theorem yb_ref_13 (P : SY → Prop) {m o : Nat} {B : Int32} (ht : t < 4) (hm : yrw t = nI m) (hm6 : m < 6) (hd : ydp t = nI (d + 3)) (h4 : d + 3 ≤ 4) (ho : ypl (8 * t + (d + 2)) = nI o) (ho8 : o < 8) (h0 : yow o = nI (m / 2) → wY_onObject_83 P 13 (nI o) (ypl (8 * t + (d + 3))) 0 ylim ywa ysk ylo (nI (t + 1)) ysp yaw yan ywh you ymd ygd yop yops ybs ysz yex yst yow yle yel yla ysh yro yos yoe yoh yor yrw ynx ydp ypl ykd ymt ytd yht) (h1 : ¬ yow o = nI (m / 2) → wY_onObject_83 P 13 (nI o) (ypl (8 * t + (d + 3))) 1 ylim ywa ysk ylo (nI (t + 1)) ysp yaw yan ywh you ymd ygd yop yops ybs ysz yex yst yow yle yel yla ysh yro yos yoe yoh yor yrw ynx ydp ypl ykd ymt ytd yht) : wpY_onObject P (ylim, ywa, ysk, ylo, nI (t + 1), ysp, yaw, yan, ywh, you, ymd, ygd, yop, yops, ybs, ysz, yex, yst, yow, yle, yel, yla, ysh, yro, yos, yoe, yoh, yor, yrw, ynx, ydp, ypl, ykd, ymt, ytd, yht) 13 B := by
  have ho' : ypl (8 * t + (d + 3 + 1 - 2)) = nI o := ho
  refine br_f (by decide) <|  br_t rfl <| ?_
  unfold wY_onObject_34
  refine pr_yentry _ (j := 2) ht hd (by omega) (by omega) ?_
  rw [ho']
  refine br_t rfl ?_
  unfold wY_onObject_50
  refine pr_yentry _ (j := 1) ht hd (by omega) (by omega) (br_t (nI_pos' (by omega)) ⟨vp_in_nI (by omega) (by omega), pr_app _ ht hm hm6 ?_⟩)
  rw [nI_clamp (by omega)]
  exact br_c h0 h1
theorem yb_ok_13 (P : SY → Prop) {m o : Nat} {B : Int32} (ht : t < 4) (hm : yrw t = nI m) (hm6 : m < 6) (hd : ydp t = nI (d + 3)) (h4 : d + 3 ≤ 4) (ho : ypl (8 * t + (d + 2)) = nI o) (ho8 : o < 8) (hw : ¬ ysh o = 0 ∨ yow o = nI (m / 2)) (h : wY_onObject_111 P 13 (nI o) (ypl (8 * t + (d + 3))) ylim ywa ysk ylo (nI (t + 1)) ysp yaw yan ywh you ymd ygd yop yops ybs ysz yex yst yow yle yel yla ysh yro yos yoe yoh yor yrw ynx ydp ypl ykd ymt ytd yht) : wpY_onObject P (ylim, ywa, ysk, ylo, nI (t + 1), ysp, yaw, yan, ywh, you, ymd, ygd, yop, yops, ybs, ysz, yex, yst, yow, yle, yel, yla, ysh, yro, yos, yoe, yoh, yor, yrw, ynx, ydp, ypl, ykd, ymt, ytd, yht) 13 B := by
  refine yb_ref_13 P ht hm hm6 hd h4 ho ho8 (fun z => br_t rfl h) (fun z => br_f (by decide) (br_f (by decide) ⟨vp_in_nI (by omega) (by omega), ?_⟩))
  rw [nI_clamp (by omega)]
  exact br_f (hw.resolve_right z) h
theorem yb_wall_13 (P : SY → Prop) {v' : SY} {m o : Nat} {B : Int32} (ht : t < 4) (hm : yrw t = nI m) (hm6 : m < 6) (hd : ydp t = nI (d + 3)) (h4 : d + 3 ≤ 4) (ho : ypl (8 * t + (d + 2)) = nI o) (ho8 : o < 8) (hw : ¬ (¬ ysh o = 0 ∨ yow o = nI (m / 2))) (hE : ∀ Q : SY → Prop, Q v' → wpY_end Q (ylim, ywa, ysk, ylo, nI (t + 1), ysp, yaw, yan, ywh, you, ymd, ygd, yop, yops, ybs, ysz, yex, yst, yow, yle, yel, yla, ysh, yro, yos, yoe, yoh, yor, yrw, ynx, ydp, ypl, ykd, ymt, ytd, yht) 3) (h : P v') : wpY_onObject P (ylim, ywa, ysk, ylo, nI (t + 1), ysp, yaw, yan, ywh, you, ymd, ygd, yop, yops, ybs, ysz, yex, yst, yow, yle, yel, yla, ysh, yro, yos, yoe, yoh, yor, yrw, ynx, ydp, ypl, ykd, ymt, ytd, yht) 13 B := by
  obtain ⟨a1, a2, a3, a4, a5, a6, a7, a8, a9, c1, c2, c3, c4, c5, c6, c7, c8, c9, d1, d2, d3, d4, d5, d6, d7, d8, d9, e1, e2, e3, e4, e5, e6, e7, e8, e9⟩ := v'
  refine yb_ref_13 P ht hm hm6 hd h4 ho ho8 (fun z => absurd (Or.inr z) hw) (fun z => br_f (by decide) (br_f (by decide) ⟨vp_in_nI (by omega) (by omega), ?_⟩))
  rw [nI_clamp (by omega)]
  refine br_t (Classical.byContradiction fun q => hw (Or.inl q)) ?_
  unfold wY_onObject_105
  exact hE _ h
theorem yb_nul_14 (P : SY → Prop) {v' : SY} {B : Int32} (ht : t < 4) (hd : ydp t = nI (d + 1)) (h4 : d + 1 ≤ 4) (ho : ypl (8 * t + (d + 2)) = -1) (hE : ∀ Q : SY → Prop, Q v' → wpY_end Q (ylim, ywa, ysk, ylo, nI (t + 1), ysp, yaw, yan, ywh, you, ymd, ygd, yop, yops, ybs, ysz, yex, yst, yow, yle, yel, yla, ysh, yro, yos, yoe, yoh, yor, yrw, ynx, ydp, ypl, ykd, ymt, ytd, yht) 2) (h : P v') : wpY_onObject P (ylim, ywa, ysk, ylo, nI (t + 1), ysp, yaw, yan, ywh, you, ymd, ygd, yop, yops, ybs, ysz, yex, yst, yow, yle, yel, yla, ysh, yro, yos, yoe, yoh, yor, yrw, ynx, ydp, ypl, ykd, ymt, ytd, yht) 14 B := by
  obtain ⟨a1, a2, a3, a4, a5, a6, a7, a8, a9, c1, c2, c3, c4, c5, c6, c7, c8, c9, d1, d2, d3, d4, d5, d6, d7, d8, d9, e1, e2, e3, e4, e5, e6, e7, e8, e9⟩ := v'
  have ho' : ypl (8 * t + (d + 1 + 1 - 0)) = -1 := ho
  refine br_f (by decide) <| br_f (by decide) <| br_f (by decide) <|  ?_
  unfold wY_onObject_34
  refine pr_yentry _ (j := 0) ht hd (by omega) (by omega) ?_
  rw [ho']
  refine br_f (by decide) ?_
  unfold wY_onObject_50
  exact pr_yentry _ (j := 0) ht hd (by omega) (by omega) (br_f (by decide) (hE _ h))
theorem yb_ref_14 (P : SY → Prop) {m o : Nat} {B : Int32} (ht : t < 4) (hm : yrw t = nI m) (hm6 : m < 6) (hd : ydp t = nI (d + 1)) (h4 : d + 1 ≤ 4) (ho : ypl (8 * t + (d + 2)) = nI o) (ho8 : o < 8) (h0 : yow o = nI (m / 2) → wY_onObject_83 P 14 (nI o) (ypl (8 * t + (d + 2))) 0 ylim ywa ysk ylo (nI (t + 1)) ysp yaw yan ywh you ymd ygd yop yops ybs ysz yex yst yow yle yel yla ysh yro yos yoe yoh yor yrw ynx ydp ypl ykd ymt ytd yht) (h1 : ¬ yow o = nI (m / 2) → wY_onObject_83 P 14 (nI o) (ypl (8 * t + (d + 2))) 1 ylim ywa ysk ylo (nI (t + 1)) ysp yaw yan ywh you ymd ygd yop yops ybs ysz yex yst yow yle yel yla ysh yro yos yoe yoh yor yrw ynx ydp ypl ykd ymt ytd yht) : wpY_onObject P (ylim, ywa, ysk, ylo, nI (t + 1), ysp, yaw, yan, ywh, you, ymd, ygd, yop, yops, ybs, ysz, yex, yst, yow, yle, yel, yla, ysh, yro, yos, yoe, yoh, yor, yrw, ynx, ydp, ypl, ykd, ymt, ytd, yht) 14 B := by
  have ho' : ypl (8 * t + (d + 1 + 1 - 0)) = nI o := ho
  refine br_f (by decide) <| br_f (by decide) <| br_f (by decide) <|  ?_
  unfold wY_onObject_34
  refine pr_yentry _ (j := 0) ht hd (by omega) (by omega) ?_
  rw [ho']
  refine br_f (by decide) ?_
  unfold wY_onObject_50
  refine pr_yentry _ (j := 0) ht hd (by omega) (by omega) (br_t (nI_pos' (by omega)) ⟨vp_in_nI (by omega) (by omega), pr_app _ ht hm hm6 ?_⟩)
  rw [nI_clamp (by omega)]
  exact br_c h0 h1
theorem yb_wall_14 (P : SY → Prop) {v' : SY} {m o : Nat} {B : Int32} (ht : t < 4) (hm : yrw t = nI m) (hm6 : m < 6) (hd : ydp t = nI (d + 1)) (h4 : d + 1 ≤ 4) (ho : ypl (8 * t + (d + 2)) = nI o) (ho8 : o < 8) (hw : ¬ yow o = nI (m / 2)) (hE : ∀ Q : SY → Prop, Q v' → wpY_end Q (ylim, ywa, ysk, ylo, nI (t + 1), ysp, yaw, yan, ywh, you, ymd, ygd, yop, yops, ybs, ysz, yex, yst, yow, yle, yel, yla, ysh, yro, yos, yoe, yoh, yor, yrw, ynx, ydp, ypl, ykd, ymt, ytd, yht) 3) (h : P v') : wpY_onObject P (ylim, ywa, ysk, ylo, nI (t + 1), ysp, yaw, yan, ywh, you, ymd, ygd, yop, yops, ybs, ysz, yex, yst, yow, yle, yel, yla, ysh, yro, yos, yoe, yoh, yor, yrw, ynx, ydp, ypl, ykd, ymt, ytd, yht) 14 B := by
  obtain ⟨a1, a2, a3, a4, a5, a6, a7, a8, a9, c1, c2, c3, c4, c5, c6, c7, c8, c9, d1, d2, d3, d4, d5, d6, d7, d8, d9, e1, e2, e3, e4, e5, e6, e7, e8, e9⟩ := v'
  refine yb_ref_14 P ht hm hm6 hd h4 ho ho8 (fun z => absurd z hw) (fun z => br_f (by decide) (br_t rfl ?_))
  unfold wY_onObject_105
  exact hE _ h
theorem yb_nul_15 (P : SY → Prop) {v' : SY} {B : Int32} (ht : t < 4) (hd : ydp t = nI (d + 1)) (h4 : d + 1 ≤ 4) (ho : ypl (8 * t + (d + 2)) = -1) (hE : ∀ Q : SY → Prop, Q v' → wpY_end Q (ylim, ywa, ysk, ylo, nI (t + 1), ysp, yaw, yan, ywh, you, ymd, ygd, yop, yops, ybs, ysz, yex, yst, yow, yle, yel, yla, ysh, yro, yos, yoe, yoh, yor, yrw, ynx, ydp, ypl, ykd, ymt, ytd, yht) 2) (h : P v') : wpY_onObject P (ylim, ywa, ysk, ylo, nI (t + 1), ysp, yaw, yan, ywh, you, ymd, ygd, yop, yops, ybs, ysz, yex, yst, yow, yle, yel, yla, ysh, yro, yos, yoe, yoh, yor, yrw, ynx, ydp, ypl, ykd, ymt, ytd, yht) 15 B := by
  obtain ⟨a1, a2, a3, a4, a5, a6, a7, a8, a9, c1, c2, c3, c4, c5, c6, c7, c8, c9, d1, d2, d3, d4, d5, d6, d7, d8, d9, e1, e2, e3, e4, e5, e6, e7, e8, e9⟩ := v'
  have ho' : ypl (8 * t + (d + 1 + 1 - 0)) = -1 := ho
  refine br_f (by decide) <| br_f (by decide) <| br_f (by decide) <|  ?_
  unfold wY_onObject_34
  refine pr_yentry _ (j := 0) ht hd (by omega) (by omega) ?_
  rw [ho']
  refine br_f (by decide) ?_
  unfold wY_onObject_50
  exact pr_yentry _ (j := 0) ht hd (by omega) (by omega) (br_f (by decide) (hE _ h))
theorem yb_ref_15 (P : SY → Prop) {m o : Nat} {B : Int32} (ht : t < 4) (hm : yrw t = nI m) (hm6 : m < 6) (hd : ydp t = nI (d + 1)) (h4 : d + 1 ≤ 4) (ho : ypl (8 * t + (d + 2)) = nI o) (ho8 : o < 8) (h0 : yow o = nI (m / 2) → wY_onObject_83 P 15 (nI o) (ypl (8 * t + (d + 2))) 0 ylim ywa ysk ylo (nI (t + 1)) ysp yaw yan ywh you ymd ygd yop yops ybs ysz yex yst yow yle yel yla ysh yro yos yoe yoh yor yrw ynx ydp ypl ykd ymt ytd yht) (h1 : ¬ yow o = nI (m / 2) → wY_onObject_83 P 15 (nI o) (ypl (8 * t + (d + 2))) 1 ylim ywa ysk ylo (nI (t + 1)) ysp yaw yan ywh you ymd ygd yop yops ybs ysz yex yst yow yle yel yla ysh yro yos yoe yoh yor yrw ynx ydp ypl ykd ymt ytd yht) : wpY_onObject P (ylim, ywa, ysk, ylo, nI (t + 1), ysp, yaw, yan, ywh, you, ymd, ygd, yop, yops, ybs, ysz, yex, yst, yow, yle, yel, yla, ysh, yro, yos, yoe, yoh, yor, yrw, ynx, ydp, ypl, ykd, ymt, ytd, yht) 15 B := by
  have ho' : ypl (8 * t + (d + 1 + 1 - 0)) = nI o := ho
  refine br_f (by decide) <| br_f (by decide) <| br_f (by decide) <|  ?_
  unfold wY_onObject_34
  refine pr_yentry _ (j := 0) ht hd (by omega) (by omega) ?_
  rw [ho']
  refine br_f (by decide) ?_
  unfold wY_onObject_50
  refine pr_yentry _ (j := 0) ht hd (by omega) (by omega) (br_t (nI_pos' (by omega)) ⟨vp_in_nI (by omega) (by omega), pr_app _ ht hm hm6 ?_⟩)
  rw [nI_clamp (by omega)]
  exact br_c h0 h1
theorem yb_ok_15 (P : SY → Prop) {m o : Nat} {B : Int32} (ht : t < 4) (hm : yrw t = nI m) (hm6 : m < 6) (hd : ydp t = nI (d + 1)) (h4 : d + 1 ≤ 4) (ho : ypl (8 * t + (d + 2)) = nI o) (ho8 : o < 8) (hw : ¬ ysh o = 0 ∨ yow o = nI (m / 2)) (h : wY_onObject_111 P 15 (nI o) (ypl (8 * t + (d + 2))) ylim ywa ysk ylo (nI (t + 1)) ysp yaw yan ywh you ymd ygd yop yops ybs ysz yex yst yow yle yel yla ysh yro yos yoe yoh yor yrw ynx ydp ypl ykd ymt ytd yht) : wpY_onObject P (ylim, ywa, ysk, ylo, nI (t + 1), ysp, yaw, yan, ywh, you, ymd, ygd, yop, yops, ybs, ysz, yex, yst, yow, yle, yel, yla, ysh, yro, yos, yoe, yoh, yor, yrw, ynx, ydp, ypl, ykd, ymt, ytd, yht) 15 B := by
  refine yb_ref_15 P ht hm hm6 hd h4 ho ho8 (fun z => br_t rfl h) (fun z => br_f (by decide) (br_f (by decide) ⟨vp_in_nI (by omega) (by omega), ?_⟩))
  rw [nI_clamp (by omega)]
  exact br_f (hw.resolve_right z) h
theorem yb_wall_15 (P : SY → Prop) {v' : SY} {m o : Nat} {B : Int32} (ht : t < 4) (hm : yrw t = nI m) (hm6 : m < 6) (hd : ydp t = nI (d + 1)) (h4 : d + 1 ≤ 4) (ho : ypl (8 * t + (d + 2)) = nI o) (ho8 : o < 8) (hw : ¬ (¬ ysh o = 0 ∨ yow o = nI (m / 2))) (hE : ∀ Q : SY → Prop, Q v' → wpY_end Q (ylim, ywa, ysk, ylo, nI (t + 1), ysp, yaw, yan, ywh, you, ymd, ygd, yop, yops, ybs, ysz, yex, yst, yow, yle, yel, yla, ysh, yro, yos, yoe, yoh, yor, yrw, ynx, ydp, ypl, ykd, ymt, ytd, yht) 3) (h : P v') : wpY_onObject P (ylim, ywa, ysk, ylo, nI (t + 1), ysp, yaw, yan, ywh, you, ymd, ygd, yop, yops, ybs, ysz, yex, yst, yow, yle, yel, yla, ysh, yro, yos, yoe, yoh, yor, yrw, ynx, ydp, ypl, ykd, ymt, ytd, yht) 15 B := by
  obtain ⟨a1, a2, a3, a4, a5, a6, a7, a8, a9, c1, c2, c3, c4, c5, c6, c7, c8, c9, d1, d2, d3, d4, d5, d6, d7, d8, d9, e1, e2, e3, e4, e5, e6, e7, e8, e9⟩ := v'
  refine yb_ref_15 P ht hm hm6 hd h4 ho ho8 (fun z => absurd (Or.inr z) hw) (fun z => br_f (by decide) (br_f (by decide) ⟨vp_in_nI (by omega) (by omega), ?_⟩))
  rw [nI_clamp (by omega)]
  refine br_t (Classical.byContradiction fun q => hw (Or.inl q)) ?_
  unfold wY_onObject_105
  exact hE _ h
theorem yb_bnd_12 (P : SY → Prop) {v' : SY} {o : Nat} {iv : Int32} (ho8 : o < 8) (hb : ¬ (¬ iv < 0 ∧ iv < yle o)) (hE : ∀ Q : SY → Prop, Q v' → wpY_end Q (ylim, ywa, ysk, ylo, nI (t + 1), ysp, yaw, yan, ywh, you, ymd, ygd, yop, yops, ybs, ysz, yex, yst, yow, yle, yel, yla, ysh, yro, yos, yoe, yoh, yor, yrw, ynx, ydp, ypl, ykd, ymt, ytd, yht) 4) (h : P v') : wY_onObject_111 P 12 (nI o) iv ylim ywa ysk ylo (nI (t + 1)) ysp yaw yan ywh you ymd ygd yop yops ybs ysz yex yst yow yle yel yla ysh yro yos yoe yoh yor yrw ynx ydp ypl ykd ymt ytd yht := by
  obtain ⟨a1, a2, a3, a4, a5, a6, a7, a8, a9, c1, c2, c3, c4, c5, c6, c7, c8, c9, d1, d2, d3, d4, d5, d6, d7, d8, d9, e1, e2, e3, e4, e5, e6, e7, e8, e9⟩ := v'
  have k : wY_onObject_139 P ylim ywa ysk ylo (nI (t + 1)) ysp yaw yan ywh you ymd ygd yop yops ybs ysz yex yst yow yle yel yla ysh yro yos yoe yoh yor yrw ynx ydp ypl ykd ymt ytd yht := by
    unfold wY_onObject_139
    exact hE _ h
  refine br_t rfl <| br_c (fun z => k) (fun z => ⟨vp_in_nI (by omega) (by omega), ?_⟩)
  rw [nI_clamp (by omega)]
  exact br_c (fun y => absurd ⟨z, y⟩ hb) (fun y => k)
theorem yb_in_12 (P : SY → Prop) {o : Nat} {iv : Int32} (ho8 : o < 8) (hb : ¬ iv < 0 ∧ iv < yle o) (h : wY_onObject_145 P 12 (nI o) iv ylim ywa ysk ylo (nI (t + 1)) ysp yaw yan ywh you ymd ygd yop yops ybs ysz yex yst yow yle yel yla ysh yro yos yoe yoh yor yrw ynx ydp ypl ykd ymt ytd yht) : wY_onObject_111 P 12 (nI o) iv ylim ywa ysk ylo (nI (t + 1)) ysp yaw yan ywh you ymd ygd yop yops ybs ysz yex yst yow yle yel yla ysh yro yos yoe yoh yor yrw ynx ydp ypl ykd ymt ytd yht := by
  refine br_t rfl <| br_f hb.1 ⟨vp_in_nI (by omega) (by omega), ?_⟩
  rw [nI_clamp (by omega)]
  exact br_t hb.2 h
theorem yb_bnd_13 (P : SY → Prop) {v' : SY} {o : Nat} {iv : Int32} (ho8 : o < 8) (hb : ¬ (¬ iv < 0 ∧ iv < yle o)) (hE : ∀ Q : SY → Prop, Q v' → wpY_end Q (ylim, ywa, ysk, ylo, nI (t + 1), ysp, yaw, yan, ywh, you, ymd, ygd, yop, yops, ybs, ysz, yex, yst, yow, yle, yel, yla, ysh, yro, yos, yoe, yoh, yor, yrw, ynx, ydp, ypl, ykd, ymt, ytd, yht) 4) (h : P v') : wY_onObject_111 P 13 (nI o) iv ylim ywa ysk ylo (nI (t + 1)) ysp yaw yan ywh you ymd ygd yop yops ybs ysz yex yst yow yle yel yla ysh yro yos yoe yoh yor yrw ynx ydp ypl ykd ymt ytd yht := by
  obtain ⟨a1, a2, a3, a4, a5, a6, a7, a8, a9, c1, c2, c3, c4, c5, c6, c7, c8, c9, d1, d2, d3, d4, d5, d6, d7, d8, d9, e1, e2, e3, e4, e5, e6, e7, e8, e9⟩ := v'
  have k : wY_onObject_139 P ylim ywa ysk ylo (nI (t + 1)) ysp yaw yan ywh you ymd ygd yop yops ybs ysz yex yst yow yle yel yla ysh yro yos yoe yoh yor yrw ynx ydp ypl ykd ymt ytd yht := by
    unfold wY_onObject_139
    exact hE _ h
  refine br_f (by decide) <| br_t rfl <| br_c (fun z => k) (fun z => ⟨vp_in_nI (by omega) (by omega), ?_⟩)
  rw [nI_clamp (by omega)]
  exact br_c (fun y => absurd ⟨z, y⟩ hb) (fun y => k)
theorem yb_in_13 (P : SY → Prop) {o : Nat} {iv : Int32} (ho8 : o < 8) (hb : ¬ iv < 0 ∧ iv < yle o) (h : wY_onObject_145 P 13 (nI o) iv ylim ywa ysk ylo (nI (t + 1)) ysp yaw yan ywh you ymd ygd yop yops ybs ysz yex yst yow yle yel yla ysh yro yos yoe yoh yor yrw ynx ydp ypl ykd ymt ytd yht) : wY_onObject_111 P 13 (nI o) iv ylim ywa ysk ylo (nI (t + 1)) ysp yaw yan ywh you ymd ygd yop yops ybs ysz yex yst yow yle yel yla ysh yro yos yoe yoh yor yrw ynx ydp ypl ykd ymt ytd yht := by
  refine br_f (by decide) <| br_t rfl <| br_f hb.1 ⟨vp_in_nI (by omega) (by omega), ?_⟩
  rw [nI_clamp (by omega)]
  exact br_t hb.2 h
theorem yb_torn_13 (P : SY → Prop) {v' : SY} {o : Nat} {iv : Int32} (h0 : yaw = 0) (hE : ∀ Q : SY → Prop, Q v' → wpY_end Q (ylim, ywa, ysk, ylo, nI (t + 1), ysp, yaw, yan, ywh, you, ymd, ygd, yop, yops, ybs, ysz, yex, yst, yow, yle, yel, yla, ysh, yro, yos, yoe, yoh, yor, yrw, ynx, ydp, ypl, ykd, ymt, ytd, yht) 9) (h : P v') : wY_onObject_166 P 13 (nI o) iv ylim ywa ysk ylo (nI (t + 1)) ysp yaw yan ywh you ymd ygd yop yops ybs ysz yex yst yow yle yel yla ysh yro yos yoe yoh yor yrw ynx ydp ypl ykd ymt ytd yht := by
  obtain ⟨a1, a2, a3, a4, a5, a6, a7, a8, a9, c1, c2, c3, c4, c5, c6, c7, c8, c9, d1, d2, d3, d4, d5, d6, d7, d8, d9, e1, e2, e3, e4, e5, e6, e7, e8, e9⟩ := v'
  exact br_f (by decide) (br_t h0 (hE _ (br_t rfl h)))
theorem yb_due_13 (P : SY → Prop) {o : Nat} {iv : Int32} (h0 : ¬ yaw = 0) (h : wY_onObject_186 P 13 (nI o) iv ylim ywa ysk ylo (nI (t + 1)) ysp (re_pd yaw) yan ywh you ymd ygd yop yops ybs ysz yex yst yow yle yel yla ysh yro yos yoe yoh yor yrw ynx ydp ypl ykd ymt ytd yht) : wY_onObject_166 P 13 (nI o) iv ylim ywa ysk ylo (nI (t + 1)) ysp yaw yan ywh you ymd ygd yop yops ybs ysz yex yst yow yle yel yla ysh yro yos yoe yoh yor yrw ynx ydp ypl ykd ymt ytd yht :=
  br_f (by decide) (re_write _ h0 (br_f (by decide) h))
theorem yb_torn_14 (P : SY → Prop) {v' : SY} {o : Nat} {iv : Int32} (h0 : yaw = 0) (hE : ∀ Q : SY → Prop, Q v' → wpY_end Q (ylim, ywa, ysk, ylo, nI (t + 1), ysp, yaw, yan, ywh, you, ymd, ygd, yop, yops, ybs, ysz, yex, yst, yow, yle, yel, yla, ysh, yro, yos, yoe, yoh, yor, yrw, ynx, ydp, ypl, ykd, ymt, ytd, yht) 9) (h : P v') : wY_onObject_166 P 14 (nI o) iv ylim ywa ysk ylo (nI (t + 1)) ysp yaw yan ywh you ymd ygd yop yops ybs ysz yex yst yow yle yel yla ysh yro yos yoe yoh yor yrw ynx ydp ypl ykd ymt ytd yht := by
  obtain ⟨a1, a2, a3, a4, a5, a6, a7, a8, a9, c1, c2, c3, c4, c5, c6, c7, c8, c9, d1, d2, d3, d4, d5, d6, d7, d8, d9, e1, e2, e3, e4, e5, e6, e7, e8, e9⟩ := v'
  exact br_f (by decide) (br_t h0 (hE _ (br_t rfl h)))
theorem yb_due_14 (P : SY → Prop) {o : Nat} {iv : Int32} (h0 : ¬ yaw = 0) (h : wY_onObject_186 P 14 (nI o) iv ylim ywa ysk ylo (nI (t + 1)) ysp (re_pd yaw) yan ywh you ymd ygd yop yops ybs ysz yex yst yow yle yel yla ysh yro yos yoe yoh yor yrw ynx ydp ypl ykd ymt ytd yht) : wY_onObject_166 P 14 (nI o) iv ylim ywa ysk ylo (nI (t + 1)) ysp yaw yan ywh you ymd ygd yop yops ybs ysz yex yst yow yle yel yla ysh yro yos yoe yoh yor yrw ynx ydp ypl ykd ymt ytd yht :=
  br_f (by decide) (re_write _ h0 (br_f (by decide) h))
theorem yb_12 (P : SY → Prop) {o i : Nat} (ht : t < 4) (hk : ynx t = nI k) (hd : ydp t = nI (d + 2)) (h4 : d < 3) (ho8 : o < 8) (hi : i < 4) (h : P (ylim, ywa, ysk, ylo, nI (t + 1), ysp, yaw, yan, ywh, you, ymd, ygd, yop, yops, ybs, ysz, yex, yst, yow, yle, yel, yla, ysh, yro, yos, yoe, yoh, yor, yrw, upd ynx t (nI (k + 1)), upd ydp t (nI (d + 1)), upd ypl (8 * t + (d + 2)) (yel (4 * o + i)), upd ykd (8 * t + (d + 2)) 1, ymt, ytd, yht)) : wY_onObject_145 P 12 (nI o) (nI i) ylim ywa ysk ylo (nI (t + 1)) ysp yaw yan ywh you ymd ygd yop yops ybs ysz yex yst yow yle yel yla ysh yro yos yoe yoh yor yrw ynx ydp ypl ykd ymt ytd yht := by
  refine br_f (by decide) (br_f (by decide) (br_t rfl ?_))
  unfold wY_onObject_186
  refine pr_yentry _ (j := 0) ht hd (by omega) (by omega) (br_f (by decide) (br_t rfl ?_))
  unfold wY_onObject_215
  refine pr_drop _ (j := 2) ht hd (by omega) (by omega) (br_t rfl ?_)
  rw [pr_4b, nI_clamp (by omega)]
  refine ⟨vp_in_nI (by omega) (by omega), pr_ypush _ (c := 1) (d := d) ht pk_us (by omega) (by decide) (br_f (by decide) (br_f (by decide) (br_f (by decide) (yo_290 _ ht hk ?_))))⟩
  rw [rl_uu]
  exact h
theorem yb_13 (P : SY → Prop) {o i : Nat} (ht : t < 4) (hk : ynx t = nI k) (hd : ydp t = nI (d + 3)) (h4 : d < 2) (ho8 : o < 8) (hi : i < 4) (hv : rl_sv (ypl (8 * t + (d + 4)))) (h : P (ylim, ywa, ysk, ylo, nI (t + 1), ysp, yaw, yan, ywh, you, ymd, ygd, yop, yops, ybs, ysz, yex, yst, yow, yle, upd yel (4 * o + i) (ypl (8 * t + (d + 4))), yla, ysh, yro, yos, yoe, yoh, yor, yrw, upd ynx t (nI (k + 1)), upd ydp t (nI d), ypl, ykd, ymt, ytd, yht)) : wY_onObject_186 P 13 (nI o) (nI i) ylim ywa ysk ylo (nI (t + 1)) ysp yaw yan ywh you ymd ygd yop yops ybs ysz yex yst yow yle yel yla ysh yro yos yoe yoh yor yrw ynx ydp ypl ykd ymt ytd yht := by
  unfold wY_onObject_186
  refine pr_yentry _ (j := 0) ht hd (by omega) (by omega) (br_t rfl ?_)
  unfold wY_onObject_215
  refine pr_drop _ (j := 3) ht hd (by omega) (by omega) (br_f (by decide) (br_t rfl ?_))
  have e1 : (4 : Int32) * nI o + nI i = nI (4 * o + i) := pr_4b o i
  have hv' : vp_nar .short (ypl (8 * t + (d + 3 + 1 - 0))).toInt16.toInt32 = ypl (8 * t + (d + 4)) := by
    rw [pk_vs]
    exact hv
  refine ⟨by rw [e1]; exact vp_in_nI (by omega) (by omega), nm_r (e' := upd yel (4 * o + i) (ypl (8 * t + (d + 4)))) (by rw [e1, nI_clamp (by omega), hv']) (br_f (by decide) (br_f (by decide) (yo_290 _ ht hk h)))⟩
theorem yb_14 (P : SY → Prop) {o : Nat} {iv : Int32} (ht : t < 4) (hk : ynx t = nI k) (hd : ydp t = nI (d + 1)) (h4 : d < 4) (ho8 : o < 8) (h : P (ylim, ywa, ysk, ylo, nI (t + 1), ysp, yaw, yan, ywh, you, ymd, ygd, yop, yops, ybs, ysz, yex, yst, yow, yle, yel, yla, upd ysh o 1, yro, yos, yoe, yoh, yor, yrw, upd ynx t (nI (k + 1)), upd ydp t (nI d), ypl, ykd, ymt, ytd, yht)) : wY_onObject_186 P 14 (nI o) iv ylim ywa ysk ylo (nI (t + 1)) ysp yaw yan ywh you ymd ygd yop yops ybs ysz yex yst yow yle yel yla ysh yro yos yoe yoh yor yrw ynx ydp ypl ykd ymt ytd yht := by
  unfold wY_onObject_186
  refine pr_yentry _ (j := 0) ht hd (by omega) (by omega) (br_f (by decide) (br_f (by decide) ?_))
  unfold wY_onObject_215
  exact pr_drop _ (j := 1) ht hd (by omega) (by omega) (br_f (by decide) (br_f (by decide) (br_t rfl ⟨vp_in_nI (by omega) (by omega), nm_r (by rw [nI_clamp (by omega), he_b1]) (br_f (by decide) (yo_290 _ ht hk h))⟩)))
theorem yb_15 (P : SY → Prop) {o : Nat} {iv : Int32} (ht : t < 4) (hk : ynx t = nI k) (hd : ydp t = nI (d + 1)) (h4 : d < 4) (ho8 : o < 8) (h : P (ylim, ywa, ysk, ylo, nI (t + 1), ysp, yaw, yan, ywh, you, ymd, ygd, yop, yops, ybs, ysz, yex, yst, yow, yle, yel, yla, ysh, yro, yos, yoe, yoh, yor, yrw, upd ynx t (nI (k + 1)), upd ydp t (nI (d + 1)), upd ypl (8 * t + (d + 2)) (yle o), upd ykd (8 * t + (d + 2)) 1, ymt, ytd, yht)) : wY_onObject_111 P 15 (nI o) iv ylim ywa ysk ylo (nI (t + 1)) ysp yaw yan ywh you ymd ygd yop yops ybs ysz yex yst yow yle yel yla ysh yro yos yoe yoh yor yrw ynx ydp ypl ykd ymt ytd yht := by
  refine br_f (by decide) (br_f (by decide) (br_f (by decide) (br_f (by decide) (br_t rfl ?_))))
  unfold wY_onObject_186
  refine pr_yentry _ (j := 0) ht hd (by omega) (by omega) (br_f (by decide) (br_f (by decide) ?_))
  unfold wY_onObject_215
  refine pr_drop _ (j := 1) ht hd (by omega) (by omega) (br_f (by decide) (br_f (by decide) (br_f (by decide) (br_t rfl ⟨vp_in_nI (by omega) (by omega), ?_⟩))))
  rw [nI_clamp (by omega)]
  refine pr_ypush _ (c := 1) (d := d) ht pk_us (by omega) (by decide) (yo_290 _ ht hk ?_)
  rw [rl_uu]
  exact h
/-! NEW -/
theorem yb_make (P : SY → Prop) {m q : Nat} {B n z : Int32} (ht : t < 4) (hk : ynx t = nI k) (hm : yrw t = nI m) (hm6 : m < 6) (hd : ydp t = nI (d + 1)) (h4 : d < 4) (hq : q < 8) (hz : (B = 0 ∧ z = 1) ∨ (¬ B = 0 ∧ z = 0))
    (h : P (ylim, ywa, ysk, ylo, nI (t + 1), ysp, yaw, yan, ywh, you, ymd + 1, ygd, yop, yops, ybs, ysz, yex, vp_updL yst q (ymd + 1), upd yow q (nI (m / 2)), upd yle q n, lo_f (fun _ => vp_nar .short 0) (4 * q) (4 * q + 4) yel, upd yla q z, upd ysh q 0, yro, yos, yoe, yoh, yor, yrw, upd ynx t (nI (k + 1)), upd ydp t (nI (d + 1)), upd ypl (8 * t + (d + 2)) (nI q), upd ykd (8 * t + (d + 2)) 2, ymt, ytd, yht)) : wY_make_54 P B n (nI q) ylim ywa ysk ylo (nI (t + 1)) ysp yaw yan ywh you ymd ygd yop yops ybs ysz yex yst yow yle yel yla ysh yro yos yoe yoh yor yrw ynx ydp ypl ykd ymt ytd yht := by
  have e2 : (nI q).toNatClampNeg = q := nI_clamp (by omega)
  have v2 : vp_in (nI q) 8 := vp_in_nI (by omega) (by omega)
  have hzb : rl_b z := by
    rcases hz with ⟨_, rfl⟩ | ⟨_, rfl⟩
    · exact Or.inr rfl
    · exact Or.inl rfl
  have key : ∀ e c m' el, c + e = 4 * q + 4 → e < m' → P (ylim, ywa, ysk, ylo, nI (t + 1), ysp, yaw, yan, ywh, you, ymd + 1, ygd, yop, yops, ybs, ysz, yex, vp_updL yst q (ymd + 1), upd yow q (nI (m / 2)), upd yle q n, lo_f (fun _ => vp_nar .short 0) c (4 * q + 4) el, upd yla q z, upd ysh q 0, yro, yos, yoe, yoh, yor, yrw, upd ynx t (nI (k + 1)), upd ydp t (nI (d + 1)), upd ypl (8 * t + (d + 2)) (nI q), upd ykd (8 * t + (d + 2)) 2, ymt, ytd, yht) → wY_make_118 P (nI q) ylim ywa ysk ylo (nI (t + 1)) ysp yaw yan ywh you (ymd + 1) ygd yop m' (nI c) yops ybs ysz yex (vp_updL yst q (ymd + 1)) (upd yow q (nI (m / 2))) (upd yle q n) el (upd yla q z) (upd ysh q 0) yro yos yoe yoh yor yrw ynx ydp ypl ykd ymt ytd yht := by
    intro e
    induction e with
    | zero =>
      intro c m' el hc hm' hp
      obtain ⟨m', rfl⟩ : ∃ q, m' = q + 1 := ⟨m' - 1, by omega⟩
      obtain rfl : c = 4 * q + 4 := by omega
      rw [lo_e] at hp
      refine br_t (by rw [lo_44]; exact nI_le (Nat.le_refl _) (by omega)) (pr_drop _ (j := 1) ht hd (by omega) (by omega) (pr_ypush _ (c := 2) (d := d) ht pk_us h4 (by decide) (pr_on _ ht hk ?_)))
      rw [rl_uu]
      exact hp
    | succ e ih =>
      intro c m' el hc hm' hp
      obtain ⟨m', rfl⟩ : ∃ q, m' = q + 1 := ⟨m' - 1, by omega⟩
      rw [← lo_s (val := fun _ => vp_nar .short 0) (by omega)] at hp
      exact br_f (by rw [lo_44]; exact nI_ge (by omega) (by omega)) ⟨vp_in_nI (by omega) (by omega), nm_r (by rw [nI_clamp (by omega)]) (nm_r (nI_1 c) (ih (c + 1) m' _ (by omega) (by omega) hp))⟩
  have k105 : wY_make_105 P (nI q) z (nI q) ylim ywa ysk ylo (nI (t + 1)) ysp yaw yan ywh you (ymd + 1) ygd yop yops ybs ysz yex (vp_updL yst q (ymd + 1)) (upd yow q (nI (m / 2))) (upd yle q n) yel yla ysh yro yos yoe yoh yor yrw ynx ydp ypl ykd ymt ytd yht :=
    ⟨v2, nm_r (by rw [e2, rl_b_n hzb]) ⟨v2, nm_r (by rw [e2, he_b0]) (nm_r (lo_4 q) ⟨5, key 4 (4 * q) 5 yel (by omega) (by omega) h⟩)⟩⟩
  refine nm_e ⟨v2, nm_r (by rw [e2]) (pr_app _ ht hm hm6 ⟨v2, nm_r (by rw [e2]) ⟨v2, nm_r (by rw [e2]) ?_⟩⟩)⟩
  rcases hz with ⟨z1, rfl⟩ | ⟨z1, rfl⟩
  · exact br_t z1 k105
  · exact br_f z1 k105
theorem yb_11b (P : SY → Prop) {v' : SY} {B : Int32} (ht : t < 4) (hd : ydp t = nI (d + 1)) (h4 : d < 4) (hdp : ∀ g, g < t + 1 → ∃ d, d ≤ 4 ∧ ydp g = nI d) (hb : ypl (8 * t + (d + 2)) < 1 ∨ ¬ ypl (8 * t + (d + 2)) ≤ 4) (hE : ∀ Q : SY → Prop, Q v' → wpY_end Q (ylim, ywa, ysk, ylo, nI (t + 1), ysp, yaw, yan, ywh, you, ymd, ygd, yop, yops, ybs, ysz, yex, yst, yow, yle, yel, yla, ysh, yro, yos, yoe, yoh, yor, yrw, ynx, ydp, ypl, ykd, ymt, ytd, yht) 4) (h : P v') : wpY_onObject P (ylim, ywa, ysk, ylo, nI (t + 1), ysp, yaw, yan, ywh, you, ymd, ygd, yop, yops, ybs, ysz, yex, yst, yow, yle, yel, yla, ysh, yro, yos, yoe, yoh, yor, yrw, ynx, ydp, ypl, ykd, ymt, ytd, yht) 11 B := by
  obtain ⟨a1, a2, a3, a4, a5, a6, a7, a8, a9, c1, c2, c3, c4, c5, c6, c7, c8, c9, d1, d2, d3, d4, d5, d6, d7, d8, d9, e1, e2, e3, e4, e5, e6, e7, e8, e9⟩ := v'
  refine br_t rfl ?_
  unfold wpY_make
  refine pr_yentry _ (j := 0) ht hd (by omega) (by omega) ?_
  have e : 8 * t + (d + 1 + 1 - 0) = 8 * t + (d + 2) := rfl
  rw [e]
  by_cases z : ypl (8 * t + (d + 2)) < 1
  · exact he_free _ (T := t + 1) (by omega) rfl hdp (fun q _ _ _ => br_t z (by unfold wY_make_21; exact hE _ h)) (fun _ => br_t z (by unfold wY_make_21; exact hE _ h))
  · exact he_free _ (T := t + 1) (by omega) rfl hdp (fun q _ _ _ => br_f z (br_f (hb.resolve_left z) (by unfold wY_make_21; exact hE _ h))) (fun _ => br_f z (br_f (hb.resolve_left z) (by unfold wY_make_21; exact hE _ h)))
theorem yb_11m (P : SY → Prop) {v' : SY} {B : Int32} (ht : t < 4) (hd : ydp t = nI (d + 1)) (h4 : d < 4) (hdp : ∀ g, g < t + 1 → ∃ d, d ≤ 4 ∧ ydp g = nI d) (z : ¬ ypl (8 * t + (d + 2)) < 1) (y : ypl (8 * t + (d + 2)) ≤ 4) (ha : ∀ o, o < 8 → he_Y yop yro yor ydp ykd ypl (t + 1) o) (hE : ∀ Q : SY → Prop, Q v' → wpY_end Q (ylim, ywa, ysk, ylo, nI (t + 1), ysp, yaw, yan, ywh, you, ymd, ygd, yop, yops, ybs, ysz, yex, yst, yow, yle, yel, yla, ysh, yro, yos, yoe, yoh, yor, yrw, ynx, ydp, ypl, ykd, ymt, ytd, yht) 7) (h : P v') : wpY_onObject P (ylim, ywa, ysk, ylo, nI (t + 1), ysp, yaw, yan, ywh, you, ymd, ygd, yop, yops, ybs, ysz, yex, yst, yow, yle, yel, yla, ysh, yro, yos, yoe, yoh, yor, yrw, ynx, ydp, ypl, ykd, ymt, ytd, yht) 11 B := by
  obtain ⟨a1, a2, a3, a4, a5, a6, a7, a8, a9, c1, c2, c3, c4, c5, c6, c7, c8, c9, d1, d2, d3, d4, d5, d6, d7, d8, d9, e1, e2, e3, e4, e5, e6, e7, e8, e9⟩ := v'
  refine br_t rfl ?_
  unfold wpY_make
  refine pr_yentry _ (j := 0) ht hd (by omega) (by omega) ?_
  have e : 8 * t + (d + 1 + 1 - 0) = 8 * t + (d + 2) := rfl
  rw [e]
  exact he_free _ (T := t + 1) (by omega) rfl hdp (fun q h1 _ h3 => absurd (ha q h1) h3) (fun _ => br_f z (br_t y (br_f (by decide) (hE _ h))))
theorem yb_11p (P : SY → Prop) {m q : Nat} {B z : Int32} (ht : t < 4) (hd : ydp t = nI (d + 1)) (h4 : d < 4) (hdp : ∀ g, g < t + 1 → ∃ d, d ≤ 4 ∧ ydp g = nI d) (hk : ynx t = nI k) (hm : yrw t = nI m) (hm6 : m < 6) (z0 : ¬ ypl (8 * t + (d + 2)) < 1) (y0 : ypl (8 * t + (d + 2)) ≤ 4) (hq : q < 8) (hq1 : ∀ o, o < q → he_Y yop yro yor ydp ykd ypl (t + 1) o) (hq2 : ¬ he_Y yop yro yor ydp ykd ypl (t + 1) q) (hB : B = 1) (hz : z = 0) (h : P (ylim, ywa, ysk, ylo, nI (t + 1), ysp, yaw, yan, ywh, you, ymd + 1, ygd, yop, yops, ybs, ysz, yex, vp_updL yst q (ymd + 1), upd yow q (nI (m / 2)), upd yle q (ypl (8 * t + (d + 2))), lo_f (fun _ => vp_nar .short 0) (4 * q) (4 * q + 4) yel, upd yla q z, upd ysh q 0, yro, yos, yoe, yoh, yor, yrw, upd ynx t (nI (k + 1)), upd ydp t (nI (d + 1)), upd ypl (8 * t + (d + 2)) (nI q), upd ykd (8 * t + (d + 2)) 2, ymt, ytd, yht)) : wpY_onObject P (ylim, ywa, ysk, ylo, nI (t + 1), ysp, yaw, yan, ywh, you, ymd, ygd, yop, yops, ybs, ysz, yex, yst, yow, yle, yel, yla, ysh, yro, yos, yoe, yoh, yor, yrw, ynx, ydp, ypl, ykd, ymt, ytd, yht) 11 B := by
  refine br_t rfl ?_
  unfold wpY_make
  refine pr_yentry _ (j := 0) ht hd (by omega) (by omega) ?_
  have e : 8 * t + (d + 1 + 1 - 0) = 8 * t + (d + 2) := rfl
  rw [e]
  refine he_free _ (T := t + 1) (by omega) rfl hdp (fun q' h1 h2 h3 => br_f z0 (br_t y0 (br_t (nI_pos' (by omega)) (br_t hB ?_)))) (fun h1 => absurd (h1 q hq) hq2)
  · have : q' = q := by
      rcases Nat.lt_or_ge q' q with w | w
      · exact absurd (hq1 q' w) h3
      · rcases Nat.lt_or_ge q q' with w2 | w2
        · exact absurd (h2 q w2) hq2
        · omega
    subst this
    exact yb_make _ (z := z) ht hk hm hm6 hd h4 h1 (Or.inr ⟨by rw [hB]; decide, hz⟩) h
theorem yb_11w (P : SY → Prop) {m q : Nat} {B z : Int32} (ht : t < 4) (hd : ydp t = nI (d + 1)) (h4 : d < 4) (hdp : ∀ g, g < t + 1 → ∃ d, d ≤ 4 ∧ ydp g = nI d) (hk : ynx t = nI k) (hm : yrw t = nI m) (hm6 : m < 6) (z0 : ¬ ypl (8 * t + (d + 2)) < 1) (y0 : ypl (8 * t + (d + 2)) ≤ 4) (hq : q < 8) (hq1 : ∀ o, o < q → he_Y yop yro yor ydp ykd ypl (t + 1) o) (hq2 : ¬ he_Y yop yro yor ydp ykd ypl (t + 1) q) (hB : B = 0) (hz : z = 1) (h0 : ¬ yaw = 0) (h : P (ylim, ywa, ysk, ylo, nI (t + 1), ysp, re_pd yaw, yan, ywh, you, ymd + 1, ygd, yop, yops, ybs, ysz, yex, vp_updL yst q (ymd + 1), upd yow q (nI (m / 2)), upd yle q (ypl (8 * t + (d + 2))), lo_f (fun _ => vp_nar .short 0) (4 * q) (4 * q + 4) yel, upd yla q z, upd ysh q 0, yro, yos, yoe, yoh, yor, yrw, upd ynx t (nI (k + 1)), upd ydp t (nI (d + 1)), upd ypl (8 * t + (d + 2)) (nI q), upd ykd (8 * t + (d + 2)) 2, ymt, ytd, yht)) : wpY_onObject P (ylim, ywa, ysk, ylo, nI (t + 1), ysp, yaw, yan, ywh, you, ymd, ygd, yop, yops, ybs, ysz, yex, yst, yow, yle, yel, yla, ysh, yro, yos, yoe, yoh, yor, yrw, ynx, ydp, ypl, ykd, ymt, ytd, yht) 11 B := by
  refine br_t rfl ?_
  unfold wpY_make
  refine pr_yentry _ (j := 0) ht hd (by omega) (by omega) ?_
  have e : 8 * t + (d + 1 + 1 - 0) = 8 * t + (d + 2) := rfl
  rw [e]
  refine he_free _ (T := t + 1) (by omega) rfl hdp (fun q' h1 h2 h3 => br_f z0 (br_t y0 (br_t (nI_pos' (by omega)) (br_f (by rw [hB]; decide) (re_write _ h0 (br_f (by decide) ?_)))))) (fun h1 => absurd (h1 q hq) hq2)
  · have : q' = q := by
      rcases Nat.lt_or_ge q' q with w | w
      · exact absurd (hq1 q' w) h3
      · rcases Nat.lt_or_ge q q' with w2 | w2
        · exact absurd (h2 q w2) hq2
        · omega
    subst this
    exact yb_make _ (z := z) ht hk hm hm6 hd h4 h1 (Or.inl ⟨hB, hz⟩) h
theorem yb_11t (P : SY → Prop) {v' : SY} {q : Nat} {B : Int32} (ht : t < 4) (hd : ydp t = nI (d + 1)) (h4 : d < 4) (hdp : ∀ g, g < t + 1 → ∃ d, d ≤ 4 ∧ ydp g = nI d) (z0 : ¬ ypl (8 * t + (d + 2)) < 1) (y0 : ypl (8 * t + (d + 2)) ≤ 4) (hq : q < 8) (hq2 : ¬ he_Y yop yro yor ydp ykd ypl (t + 1) q) (hB : B = 0) (h0 : yaw = 0) (hE : ∀ Q : SY → Prop, Q v' → wpY_end Q (ylim, ywa, ysk, ylo, nI (t + 1), ysp, yaw, yan, ywh, you, ymd, ygd, yop, yops, ybs, ysz, yex, yst, yow, yle, yel, yla, ysh, yro, yos, yoe, yoh, yor, yrw, ynx, ydp, ypl, ykd, ymt, ytd, yht) 9) (h : P v') : wpY_onObject P (ylim, ywa, ysk, ylo, nI (t + 1), ysp, yaw, yan, ywh, you, ymd, ygd, yop, yops, ybs, ysz, yex, yst, yow, yle, yel, yla, ysh, yro, yos, yoe, yoh, yor, yrw, ynx, ydp, ypl, ykd, ymt, ytd, yht) 11 B := by
  obtain ⟨a1, a2, a3, a4, a5, a6, a7, a8, a9, c1, c2, c3, c4, c5, c6, c7, c8, c9, d1, d2, d3, d4, d5, d6, d7, d8, d9, e1, e2, e3, e4, e5, e6, e7, e8, e9⟩ := v'
  refine br_t rfl ?_
  unfold wpY_make
  refine pr_yentry _ (j := 0) ht hd (by omega) (by omega) ?_
  have e : 8 * t + (d + 1 + 1 - 0) = 8 * t + (d + 2) := rfl
  rw [e]
  exact he_free _ (T := t + 1) (by omega) rfl hdp (fun q' h1 h2 h3 => br_f z0 (br_t y0 (br_t (nI_pos' (by omega)) (br_f (by rw [hB]; decide) (br_t h0 (hE _ (br_t rfl h))))))) (fun h1 => absurd (h1 q hq) hq2)
end YB
