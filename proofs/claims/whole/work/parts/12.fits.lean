/-! EVERY B -/
theorem xf_56 (B : Int32) : 5 < B ↔ ¬ B < 6 := by
  rw [Int32.lt_iff_toInt_lt, Int32.lt_iff_toInt_lt, show (5 : Int32).toInt = 5 from by decide, show (6 : Int32).toInt = 6 from by decide]
  omega
theorem xf_65 (B : Int32) : 6 ≤ B ↔ ¬ B < 6 := by
  rw [Int32.le_iff_toInt_le, Int32.lt_iff_toInt_lt]
  omega
theorem xf_nn {n : Nat} (B : Int32) : nI n ≤ B ↔ ¬ B < nI n := by
  rw [Int32.le_iff_toInt_le, Int32.lt_iff_toInt_lt]
  omega
theorem xf_X_0 (post : Int32 → Prop) {n : Nat} {B : Int32} (h1 : rl_fb 0 B n → post 1) (h0 : ¬ rl_fb 0 B n → post 0) : wpX_fitsB post 0 B (nI n) :=
  br_f (by decide) <| br_f (by decide) <| br_t rfl <|  br_c (fun z => h0 (fun y => absurd (y.1 rfl).1 (Int32.not_le.mpr z))) (fun z => br_c (fun y => h0 (fun x => absurd (x.1 rfl).2 (Int32.not_le.mpr y))) (fun y => h1 ⟨fun _ => ⟨Int32.not_lt.mp z, Int32.not_lt.mp y⟩, fun q => absurd q (by decide), fun q => absurd q (by decide), fun q => absurd q (by decide)⟩))
theorem xf_X_1 (post : Int32 → Prop) {n : Nat} {B : Int32} (h1 : rl_fb 1 B n → post 1) (h0 : ¬ rl_fb 1 B n → post 0) : wpX_fitsB post 1 B (nI n) :=
  br_f (by decide) <| br_f (by decide) <| br_f (by decide) <| br_t rfl <|  br_c (fun z => h1 ⟨fun q => absurd q (by decide), fun _ => Or.inl z, fun q => absurd q (by decide), fun q => absurd q (by decide)⟩) (fun z => br_c (fun y => h1 ⟨fun q => absurd q (by decide), fun _ => Or.inr y, fun q => absurd q (by decide), fun q => absurd q (by decide)⟩) (fun y => h0 (fun x => (x.2.1 (by decide)).elim z y)))
theorem xf_X_2 (post : Int32 → Prop) {n : Nat} {B : Int32} (h1 : rl_fb 2 B n → post 1) (h0 : ¬ rl_fb 2 B n → post 0) : wpX_fitsB post 2 B (nI n) :=
  br_f (by decide) <| br_f (by decide) <| br_f (by decide) <| br_f (by decide) <| br_t rfl <|  br_c (fun z => h1 ⟨fun q => absurd q (by decide), fun _ => Or.inl z, fun q => absurd q (by decide), fun q => absurd q (by decide)⟩) (fun z => br_c (fun y => h1 ⟨fun q => absurd q (by decide), fun _ => Or.inr y, fun q => absurd q (by decide), fun q => absurd q (by decide)⟩) (fun y => h0 (fun x => (x.2.1 (by decide)).elim z y)))
theorem xf_X_3 (post : Int32 → Prop) {n : Nat} {B : Int32} (h1 : rl_fb 3 B n → post 1) (h0 : ¬ rl_fb 3 B n → post 0) : wpX_fitsB post 3 B (nI n) :=
  br_f (by decide) <| br_f (by decide) <| br_f (by decide) <| br_f (by decide) <| br_f (by decide) <| br_t rfl <|  h1 ⟨fun q => absurd q (by decide), fun q => absurd q (by decide), fun q => absurd q (by decide), fun q => absurd q (by decide)⟩
theorem xf_X_4 (post : Int32 → Prop) {n : Nat} {B : Int32} (h1 : rl_fb 4 B n → post 1) (h0 : ¬ rl_fb 4 B n → post 0) : wpX_fitsB post 4 B (nI n) :=
  br_f (by decide) <| br_f (by decide) <| br_f (by decide) <| br_f (by decide) <| br_f (by decide) <| br_f (by decide) <| br_t rfl <|  h1 ⟨fun q => absurd q (by decide), fun q => absurd q (by decide), fun q => absurd q (by decide), fun q => absurd q (by decide)⟩
theorem xf_X_5 (post : Int32 → Prop) {n : Nat} {B : Int32} (h1 : rl_fb 5 B n → post 1) (h0 : ¬ rl_fb 5 B n → post 0) : wpX_fitsB post 5 B (nI n) :=
  br_f (by decide) <| br_f (by decide) <| br_f (by decide) <| br_f (by decide) <| br_f (by decide) <| br_f (by decide) <| br_f (by decide) <| br_t rfl <|  h1 ⟨fun q => absurd q (by decide), fun q => absurd q (by decide), fun q => absurd q (by decide), fun q => absurd q (by decide)⟩
theorem xf_X_6 (post : Int32 → Prop) {n : Nat} {B : Int32} (h1 : rl_fb 6 B n → post 1) (h0 : ¬ rl_fb 6 B n → post 0) : wpX_fitsB post 6 B (nI n) :=
  br_f (by decide) <| br_f (by decide) <| br_f (by decide) <| br_f (by decide) <| br_f (by decide) <| br_f (by decide) <| br_f (by decide) <| br_f (by decide) <| br_t rfl <|  h1 ⟨fun q => absurd q (by decide), fun q => absurd q (by decide), fun q => absurd q (by decide), fun q => absurd q (by decide)⟩
theorem xf_X_7 (post : Int32 → Prop) {n : Nat} {B : Int32} (h1 : rl_fb 7 B n → post 1) (h0 : ¬ rl_fb 7 B n → post 0) : wpX_fitsB post 7 B (nI n) :=
  br_f (by decide) <| br_f (by decide) <| br_f (by decide) <| br_f (by decide) <| br_f (by decide) <| br_f (by decide) <| br_f (by decide) <| br_f (by decide) <| br_f (by decide) <| br_t rfl <|  br_c (fun z => h0 (fun y => absurd (y.2.2.1 (by decide)).1 (Int32.not_le.mpr z))) (fun z => br_c (fun y => h0 (fun x => (xf_nn B).mp y (x.2.2.1 (by decide)).2)) (fun y => h1 ⟨fun q => absurd q (by decide), fun q => absurd q (by decide), fun _ => ⟨Int32.not_lt.mp z, Int32.not_le.mp y⟩, fun q => absurd q (by decide)⟩))
theorem xf_X_8 (post : Int32 → Prop) {n : Nat} {B : Int32} (h1 : rl_fb 8 B n → post 1) (h0 : ¬ rl_fb 8 B n → post 0) : wpX_fitsB post 8 B (nI n) :=
  br_f (by decide) <| br_f (by decide) <| br_f (by decide) <| br_f (by decide) <| br_f (by decide) <| br_f (by decide) <| br_f (by decide) <| br_f (by decide) <| br_f (by decide) <| br_f (by decide) <| br_t rfl <|  br_c (fun z => h0 (fun y => absurd (y.2.2.1 (by decide)).1 (Int32.not_le.mpr z))) (fun z => br_c (fun y => h0 (fun x => (xf_nn B).mp y (x.2.2.1 (by decide)).2)) (fun y => h1 ⟨fun q => absurd q (by decide), fun q => absurd q (by decide), fun _ => ⟨Int32.not_lt.mp z, Int32.not_le.mp y⟩, fun q => absurd q (by decide)⟩))
theorem xf_X_9 (post : Int32 → Prop) {n : Nat} {B : Int32} (h1 : rl_fb 9 B n → post 1) (h0 : ¬ rl_fb 9 B n → post 0) : wpX_fitsB post 9 B (nI n) :=
  br_f (by decide) <| br_f (by decide) <| br_f (by decide) <| br_f (by decide) <| br_f (by decide) <| br_f (by decide) <| br_f (by decide) <| br_f (by decide) <| br_f (by decide) <| br_f (by decide) <| br_f (by decide) <| br_t rfl <|  br_c (fun z => h1 ⟨fun q => absurd q (by decide), fun _ => Or.inl z, fun q => absurd q (by decide), fun q => absurd q (by decide)⟩) (fun z => br_c (fun y => h1 ⟨fun q => absurd q (by decide), fun _ => Or.inr y, fun q => absurd q (by decide), fun q => absurd q (by decide)⟩) (fun y => h0 (fun x => (x.2.1 (by decide)).elim z y)))
theorem xf_X_10 (post : Int32 → Prop) {n : Nat} {B : Int32} (h1 : rl_fb 10 B n → post 1) (h0 : ¬ rl_fb 10 B n → post 0) : wpX_fitsB post 10 B (nI n) :=
  br_f (by decide) <| br_f (by decide) <| br_f (by decide) <| br_f (by decide) <| br_f (by decide) <| br_f (by decide) <| br_f (by decide) <| br_f (by decide) <| br_f (by decide) <| br_f (by decide) <| br_f (by decide) <| br_f (by decide) <| br_t rfl <|  br_c (fun z => h1 ⟨fun q => absurd q (by decide), fun _ => Or.inl z, fun q => absurd q (by decide), fun q => absurd q (by decide)⟩) (fun z => br_c (fun y => h1 ⟨fun q => absurd q (by decide), fun _ => Or.inr y, fun q => absurd q (by decide), fun q => absurd q (by decide)⟩) (fun y => h0 (fun x => (x.2.1 (by decide)).elim z y)))
theorem xf_X_11 (post : Int32 → Prop) {n : Nat} {B : Int32} (h1 : rl_fb 11 B n → post 1) (h0 : ¬ rl_fb 11 B n → post 0) : wpX_fitsB post 11 B (nI n) :=
  br_f (by decide) <| br_f (by decide) <| br_f (by decide) <| br_f (by decide) <| br_f (by decide) <| br_f (by decide) <| br_f (by decide) <| br_f (by decide) <| br_f (by decide) <| br_f (by decide) <| br_f (by decide) <| br_f (by decide) <| br_f (by decide) <| br_t rfl <|  br_c (fun z => h1 ⟨fun q => absurd q (by decide), fun _ => Or.inl z, fun q => absurd q (by decide), fun q => absurd q (by decide)⟩) (fun z => br_c (fun y => h1 ⟨fun q => absurd q (by decide), fun _ => Or.inr y, fun q => absurd q (by decide), fun q => absurd q (by decide)⟩) (fun y => h0 (fun x => (x.2.1 (by decide)).elim z y)))
theorem xf_X_12 (post : Int32 → Prop) {n : Nat} {B : Int32} (h1 : rl_fb 12 B n → post 1) (h0 : ¬ rl_fb 12 B n → post 0) : wpX_fitsB post 12 B (nI n) :=
  br_f (by decide) <| br_f (by decide) <| br_f (by decide) <| br_f (by decide) <| br_f (by decide) <| br_f (by decide) <| br_f (by decide) <| br_f (by decide) <| br_f (by decide) <| br_f (by decide) <| br_f (by decide) <| br_f (by decide) <| br_f (by decide) <| br_f (by decide) <| br_t rfl <|  h1 ⟨fun q => absurd q (by decide), fun q => absurd q (by decide), fun q => absurd q (by decide), fun q => absurd q (by decide)⟩
theorem xf_X_13 (post : Int32 → Prop) {n : Nat} {B : Int32} (h1 : rl_fb 13 B n → post 1) (h0 : ¬ rl_fb 13 B n → post 0) : wpX_fitsB post 13 B (nI n) :=
  br_f (by decide) <| br_f (by decide) <| br_f (by decide) <| br_f (by decide) <| br_f (by decide) <| br_f (by decide) <| br_f (by decide) <| br_f (by decide) <| br_f (by decide) <| br_f (by decide) <| br_f (by decide) <| br_f (by decide) <| br_f (by decide) <| br_f (by decide) <| br_f (by decide) <| br_t rfl <|  h1 ⟨fun q => absurd q (by decide), fun q => absurd q (by decide), fun q => absurd q (by decide), fun q => absurd q (by decide)⟩
theorem xf_X_14 (post : Int32 → Prop) {n : Nat} {B : Int32} (h1 : rl_fb 14 B n → post 1) (h0 : ¬ rl_fb 14 B n → post 0) : wpX_fitsB post 14 B (nI n) :=
  br_f (by decide) <| br_f (by decide) <| br_f (by decide) <| br_f (by decide) <| br_f (by decide) <| br_f (by decide) <| br_f (by decide) <| br_f (by decide) <| br_f (by decide) <| br_f (by decide) <| br_f (by decide) <| br_f (by decide) <| br_f (by decide) <| br_f (by decide) <| br_f (by decide) <| br_f (by decide) <| br_t rfl <|  h1 ⟨fun q => absurd q (by decide), fun q => absurd q (by decide), fun q => absurd q (by decide), fun q => absurd q (by decide)⟩
theorem xf_X_15 (post : Int32 → Prop) {n : Nat} {B : Int32} (h1 : rl_fb 15 B n → post 1) (h0 : ¬ rl_fb 15 B n → post 0) : wpX_fitsB post 15 B (nI n) :=
  br_f (by decide) <| br_f (by decide) <| br_f (by decide) <| br_f (by decide) <| br_f (by decide) <| br_f (by decide) <| br_f (by decide) <| br_f (by decide) <| br_f (by decide) <| br_f (by decide) <| br_f (by decide) <| br_f (by decide) <| br_f (by decide) <| br_f (by decide) <| br_f (by decide) <| br_f (by decide) <| br_f (by decide) <| br_t rfl <|  h1 ⟨fun q => absurd q (by decide), fun q => absurd q (by decide), fun q => absurd q (by decide), fun q => absurd q (by decide)⟩
theorem xf_X_16 (post : Int32 → Prop) {n : Nat} {B : Int32} (h1 : rl_fb 16 B n → post 1) (h0 : ¬ rl_fb 16 B n → post 0) : wpX_fitsB post 16 B (nI n) :=
  br_f (by decide) <| br_f (by decide) <| br_f (by decide) <| br_f (by decide) <| br_f (by decide) <| br_f (by decide) <| br_f (by decide) <| br_f (by decide) <| br_f (by decide) <| br_f (by decide) <| br_f (by decide) <| br_f (by decide) <| br_f (by decide) <| br_f (by decide) <| br_f (by decide) <| br_f (by decide) <| br_f (by decide) <| br_f (by decide) <| br_t rfl <|  br_c (fun z => h0 (fun y => absurd (y.2.2.2 (by decide)).1 (Int32.not_le.mpr z))) (fun z => br_c (fun y => h0 (fun x => (xf_65 B).mp y (x.2.2.2 (by decide)).2)) (fun y => h1 ⟨fun q => absurd q (by decide), fun q => absurd q (by decide), fun q => absurd q (by decide), fun _ => ⟨Int32.not_lt.mp z, Classical.byContradiction fun w => y ((xf_65 B).mpr w)⟩⟩))
theorem xf_X_17 (post : Int32 → Prop) {n : Nat} {B : Int32} (h1 : rl_fb 17 B n → post 1) (h0 : ¬ rl_fb 17 B n → post 0) : wpX_fitsB post 17 B (nI n) :=
  br_f (by decide) <| br_f (by decide) <| br_f (by decide) <| br_f (by decide) <| br_f (by decide) <| br_f (by decide) <| br_f (by decide) <| br_f (by decide) <| br_f (by decide) <| br_f (by decide) <| br_f (by decide) <| br_f (by decide) <| br_f (by decide) <| br_f (by decide) <| br_f (by decide) <| br_f (by decide) <| br_f (by decide) <| br_f (by decide) <| br_f (by decide) <| br_t rfl <|  h1 ⟨fun q => absurd q (by decide), fun q => absurd q (by decide), fun q => absurd q (by decide), fun q => absurd q (by decide)⟩
theorem xf_X_18 (post : Int32 → Prop) {n : Nat} {B : Int32} (h1 : rl_fb 18 B n → post 1) (h0 : ¬ rl_fb 18 B n → post 0) : wpX_fitsB post 18 B (nI n) :=
  br_f (by decide) <| br_f (by decide) <| br_f (by decide) <| br_f (by decide) <| br_f (by decide) <| br_f (by decide) <| br_f (by decide) <| br_f (by decide) <| br_f (by decide) <| br_f (by decide) <| br_f (by decide) <| br_f (by decide) <| br_f (by decide) <| br_f (by decide) <| br_f (by decide) <| br_f (by decide) <| br_f (by decide) <| br_f (by decide) <| br_f (by decide) <| br_f (by decide) <| br_t rfl <|  br_c (fun z => h0 (fun y => absurd (y.2.2.2 (by decide)).1 (Int32.not_le.mpr z))) (fun z => br_c (fun y => h0 (fun x => (xf_65 B).mp y (x.2.2.2 (by decide)).2)) (fun y => h1 ⟨fun q => absurd q (by decide), fun q => absurd q (by decide), fun q => absurd q (by decide), fun _ => ⟨Int32.not_lt.mp z, Classical.byContradiction fun w => y ((xf_65 B).mpr w)⟩⟩))
theorem xf_X_19 (post : Int32 → Prop) {n : Nat} {B : Int32} (h1 : rl_fb 19 B n → post 1) (h0 : ¬ rl_fb 19 B n → post 0) : wpX_fitsB post 19 B (nI n) :=
  br_f (by decide) <| br_t (by decide) <| h1 ⟨fun q => absurd q (by decide), fun q => absurd q (by decide), fun q => absurd q (by decide), fun q => absurd q (by decide)⟩
theorem xf_X_20 (post : Int32 → Prop) {n : Nat} {B : Int32} (h1 : rl_fb 20 B n → post 1) (h0 : ¬ rl_fb 20 B n → post 0) : wpX_fitsB post 20 B (nI n) :=
  br_f (by decide) <| br_t (by decide) <| h1 ⟨fun q => absurd q (by decide), fun q => absurd q (by decide), fun q => absurd q (by decide), fun q => absurd q (by decide)⟩
theorem xf_X_21 (post : Int32 → Prop) {n : Nat} {B : Int32} (h1 : rl_fb 21 B n → post 1) (h0 : ¬ rl_fb 21 B n → post 0) : wpX_fitsB post 21 B (nI n) :=
  br_f (by decide) <| br_t (by decide) <| h1 ⟨fun q => absurd q (by decide), fun q => absurd q (by decide), fun q => absurd q (by decide), fun q => absurd q (by decide)⟩
theorem xf_X_22 (post : Int32 → Prop) {n : Nat} {B : Int32} (h1 : rl_fb 22 B n → post 1) (h0 : ¬ rl_fb 22 B n → post 0) : wpX_fitsB post 22 B (nI n) :=
  br_f (by decide) <| br_t (by decide) <| h1 ⟨fun q => absurd q (by decide), fun q => absurd q (by decide), fun q => absurd q (by decide), fun q => absurd q (by decide)⟩
theorem xf_X_23 (post : Int32 → Prop) {n : Nat} {B : Int32} (h1 : rl_fb 23 B n → post 1) (h0 : ¬ rl_fb 23 B n → post 0) : wpX_fitsB post 23 B (nI n) :=
  br_f (by decide) <| br_t (by decide) <| h1 ⟨fun q => absurd q (by decide), fun q => absurd q (by decide), fun q => absurd q (by decide), fun q => absurd q (by decide)⟩
theorem xf_X_24 (post : Int32 → Prop) {n : Nat} {B : Int32} (h1 : rl_fb 24 B n → post 1) (h0 : ¬ rl_fb 24 B n → post 0) : wpX_fitsB post 24 B (nI n) :=
  br_f (by decide) <| br_t (by decide) <| h1 ⟨fun q => absurd q (by decide), fun q => absurd q (by decide), fun q => absurd q (by decide), fun q => absurd q (by decide)⟩
theorem xf_X (post : Int32 → Prop) {o n : Nat} {B : Int32} (ho : o < 25) (h1 : rl_fb o B n → post 1) (h0 : ¬ rl_fb o B n → post 0) : wpX_fitsB post (nI o) B (nI n) := by
  rcases ck_25 ho with rfl | rfl | rfl | rfl | rfl | rfl | rfl | rfl | rfl | rfl | rfl | rfl | rfl | rfl | rfl | rfl | rfl | rfl | rfl | rfl | rfl | rfl | rfl | rfl | rfl
  · exact xf_X_0 post h1 h0
  · exact xf_X_1 post h1 h0
  · exact xf_X_2 post h1 h0
  · exact xf_X_3 post h1 h0
  · exact xf_X_4 post h1 h0
  · exact xf_X_5 post h1 h0
  · exact xf_X_6 post h1 h0
  · exact xf_X_7 post h1 h0
  · exact xf_X_8 post h1 h0
  · exact xf_X_9 post h1 h0
  · exact xf_X_10 post h1 h0
  · exact xf_X_11 post h1 h0
  · exact xf_X_12 post h1 h0
  · exact xf_X_13 post h1 h0
  · exact xf_X_14 post h1 h0
  · exact xf_X_15 post h1 h0
  · exact xf_X_16 post h1 h0
  · exact xf_X_17 post h1 h0
  · exact xf_X_18 post h1 h0
  · exact xf_X_19 post h1 h0
  · exact xf_X_20 post h1 h0
  · exact xf_X_21 post h1 h0
  · exact xf_X_22 post h1 h0
  · exact xf_X_23 post h1 h0
  · exact xf_X_24 post h1 h0
theorem xf_Y_0 (post : Int32 → Prop) {n : Nat} {B : Int32} (h1 : rl_fb 0 B n → post 1) (h0 : ¬ rl_fb 0 B n → post 0) : wpY_fits post 0 B (nI n) :=
  br_f (by decide) <| br_f (by decide) <| br_t rfl <|  br_c (fun z => h0 (fun y => absurd (y.1 rfl).1 (Int32.not_le.mpr z))) (fun z => br_c (fun y => h0 (fun x => absurd (x.1 rfl).2 (Int32.not_le.mpr y))) (fun y => h1 ⟨fun _ => ⟨Int32.not_lt.mp z, Int32.not_lt.mp y⟩, fun q => absurd q (by decide), fun q => absurd q (by decide), fun q => absurd q (by decide)⟩))
theorem xf_Y_1 (post : Int32 → Prop) {n : Nat} {B : Int32} (h1 : rl_fb 1 B n → post 1) (h0 : ¬ rl_fb 1 B n → post 0) : wpY_fits post 1 B (nI n) :=
  br_f (by decide) <| br_f (by decide) <| br_f (by decide) <| br_t rfl <|  br_c (fun z => h1 ⟨fun q => absurd q (by decide), fun _ => Or.inl z, fun q => absurd q (by decide), fun q => absurd q (by decide)⟩) (fun z => br_c (fun y => h1 ⟨fun q => absurd q (by decide), fun _ => Or.inr y, fun q => absurd q (by decide), fun q => absurd q (by decide)⟩) (fun y => h0 (fun x => (x.2.1 (by decide)).elim z y)))
theorem xf_Y_2 (post : Int32 → Prop) {n : Nat} {B : Int32} (h1 : rl_fb 2 B n → post 1) (h0 : ¬ rl_fb 2 B n → post 0) : wpY_fits post 2 B (nI n) :=
  br_f (by decide) <| br_f (by decide) <| br_f (by decide) <| br_f (by decide) <| br_t rfl <|  br_c (fun z => h1 ⟨fun q => absurd q (by decide), fun _ => Or.inl z, fun q => absurd q (by decide), fun q => absurd q (by decide)⟩) (fun z => br_c (fun y => h1 ⟨fun q => absurd q (by decide), fun _ => Or.inr y, fun q => absurd q (by decide), fun q => absurd q (by decide)⟩) (fun y => h0 (fun x => (x.2.1 (by decide)).elim z y)))
theorem xf_Y_3 (post : Int32 → Prop) {n : Nat} {B : Int32} (h1 : rl_fb 3 B n → post 1) (h0 : ¬ rl_fb 3 B n → post 0) : wpY_fits post 3 B (nI n) :=
  br_f (by decide) <| br_f (by decide) <| br_f (by decide) <| br_f (by decide) <| br_f (by decide) <| br_t rfl <|  h1 ⟨fun q => absurd q (by decide), fun q => absurd q (by decide), fun q => absurd q (by decide), fun q => absurd q (by decide)⟩
theorem xf_Y_4 (post : Int32 → Prop) {n : Nat} {B : Int32} (h1 : rl_fb 4 B n → post 1) (h0 : ¬ rl_fb 4 B n → post 0) : wpY_fits post 4 B (nI n) :=
  br_f (by decide) <| br_f (by decide) <| br_f (by decide) <| br_f (by decide) <| br_f (by decide) <| br_f (by decide) <| br_t rfl <|  h1 ⟨fun q => absurd q (by decide), fun q => absurd q (by decide), fun q => absurd q (by decide), fun q => absurd q (by decide)⟩
theorem xf_Y_5 (post : Int32 → Prop) {n : Nat} {B : Int32} (h1 : rl_fb 5 B n → post 1) (h0 : ¬ rl_fb 5 B n → post 0) : wpY_fits post 5 B (nI n) :=
  br_f (by decide) <| br_f (by decide) <| br_f (by decide) <| br_f (by decide) <| br_f (by decide) <| br_f (by decide) <| br_f (by decide) <| br_t rfl <|  h1 ⟨fun q => absurd q (by decide), fun q => absurd q (by decide), fun q => absurd q (by decide), fun q => absurd q (by decide)⟩
theorem xf_Y_6 (post : Int32 → Prop) {n : Nat} {B : Int32} (h1 : rl_fb 6 B n → post 1) (h0 : ¬ rl_fb 6 B n → post 0) : wpY_fits post 6 B (nI n) :=
  br_f (by decide) <| br_f (by decide) <| br_f (by decide) <| br_f (by decide) <| br_f (by decide) <| br_f (by decide) <| br_f (by decide) <| br_f (by decide) <| br_t rfl <|  h1 ⟨fun q => absurd q (by decide), fun q => absurd q (by decide), fun q => absurd q (by decide), fun q => absurd q (by decide)⟩
theorem xf_Y_7 (post : Int32 → Prop) {n : Nat} {B : Int32} (h1 : rl_fb 7 B n → post 1) (h0 : ¬ rl_fb 7 B n → post 0) : wpY_fits post 7 B (nI n) :=
  br_f (by decide) <| br_f (by decide) <| br_f (by decide) <| br_f (by decide) <| br_f (by decide) <| br_f (by decide) <| br_f (by decide) <| br_f (by decide) <| br_f (by decide) <| br_t rfl <|  br_c (fun z => h0 (fun y => absurd (y.2.2.1 (by decide)).1 (Int32.not_le.mpr z))) (fun z => br_c (fun y => h0 (fun x => (xf_nn B).mp y (x.2.2.1 (by decide)).2)) (fun y => h1 ⟨fun q => absurd q (by decide), fun q => absurd q (by decide), fun _ => ⟨Int32.not_lt.mp z, Int32.not_le.mp y⟩, fun q => absurd q (by decide)⟩))
theorem xf_Y_8 (post : Int32 → Prop) {n : Nat} {B : Int32} (h1 : rl_fb 8 B n → post 1) (h0 : ¬ rl_fb 8 B n → post 0) : wpY_fits post 8 B (nI n) :=
  br_f (by decide) <| br_f (by decide) <| br_f (by decide) <| br_f (by decide) <| br_f (by decide) <| br_f (by decide) <| br_f (by decide) <| br_f (by decide) <| br_f (by decide) <| br_f (by decide) <| br_t rfl <|  br_c (fun z => h0 (fun y => absurd (y.2.2.1 (by decide)).1 (Int32.not_le.mpr z))) (fun z => br_c (fun y => h0 (fun x => (xf_nn B).mp y (x.2.2.1 (by decide)).2)) (fun y => h1 ⟨fun q => absurd q (by decide), fun q => absurd q (by decide), fun _ => ⟨Int32.not_lt.mp z, Int32.not_le.mp y⟩, fun q => absurd q (by decide)⟩))
theorem xf_Y_9 (post : Int32 → Prop) {n : Nat} {B : Int32} (h1 : rl_fb 9 B n → post 1) (h0 : ¬ rl_fb 9 B n → post 0) : wpY_fits post 9 B (nI n) :=
  br_f (by decide) <| br_f (by decide) <| br_f (by decide) <| br_f (by decide) <| br_f (by decide) <| br_f (by decide) <| br_f (by decide) <| br_f (by decide) <| br_f (by decide) <| br_f (by decide) <| br_f (by decide) <| br_t rfl <|  br_c (fun z => h1 ⟨fun q => absurd q (by decide), fun _ => Or.inl z, fun q => absurd q (by decide), fun q => absurd q (by decide)⟩) (fun z => br_c (fun y => h1 ⟨fun q => absurd q (by decide), fun _ => Or.inr y, fun q => absurd q (by decide), fun q => absurd q (by decide)⟩) (fun y => h0 (fun x => (x.2.1 (by decide)).elim z y)))
theorem xf_Y_10 (post : Int32 → Prop) {n : Nat} {B : Int32} (h1 : rl_fb 10 B n → post 1) (h0 : ¬ rl_fb 10 B n → post 0) : wpY_fits post 10 B (nI n) :=
  br_f (by decide) <| br_f (by decide) <| br_f (by decide) <| br_f (by decide) <| br_f (by decide) <| br_f (by decide) <| br_f (by decide) <| br_f (by decide) <| br_f (by decide) <| br_f (by decide) <| br_f (by decide) <| br_f (by decide) <| br_t rfl <|  br_c (fun z => h1 ⟨fun q => absurd q (by decide), fun _ => Or.inl z, fun q => absurd q (by decide), fun q => absurd q (by decide)⟩) (fun z => br_c (fun y => h1 ⟨fun q => absurd q (by decide), fun _ => Or.inr y, fun q => absurd q (by decide), fun q => absurd q (by decide)⟩) (fun y => h0 (fun x => (x.2.1 (by decide)).elim z y)))
theorem xf_Y_11 (post : Int32 → Prop) {n : Nat} {B : Int32} (h1 : rl_fb 11 B n → post 1) (h0 : ¬ rl_fb 11 B n → post 0) : wpY_fits post 11 B (nI n) :=
  br_f (by decide) <| br_f (by decide) <| br_f (by decide) <| br_f (by decide) <| br_f (by decide) <| br_f (by decide) <| br_f (by decide) <| br_f (by decide) <| br_f (by decide) <| br_f (by decide) <| br_f (by decide) <| br_f (by decide) <| br_f (by decide) <| br_t rfl <|  br_c (fun z => h1 ⟨fun q => absurd q (by decide), fun _ => Or.inl z, fun q => absurd q (by decide), fun q => absurd q (by decide)⟩) (fun z => br_c (fun y => h1 ⟨fun q => absurd q (by decide), fun _ => Or.inr y, fun q => absurd q (by decide), fun q => absurd q (by decide)⟩) (fun y => h0 (fun x => (x.2.1 (by decide)).elim z y)))
theorem xf_Y_12 (post : Int32 → Prop) {n : Nat} {B : Int32} (h1 : rl_fb 12 B n → post 1) (h0 : ¬ rl_fb 12 B n → post 0) : wpY_fits post 12 B (nI n) :=
  br_f (by decide) <| br_f (by decide) <| br_f (by decide) <| br_f (by decide) <| br_f (by decide) <| br_f (by decide) <| br_f (by decide) <| br_f (by decide) <| br_f (by decide) <| br_f (by decide) <| br_f (by decide) <| br_f (by decide) <| br_f (by decide) <| br_f (by decide) <| br_t rfl <|  h1 ⟨fun q => absurd q (by decide), fun q => absurd q (by decide), fun q => absurd q (by decide), fun q => absurd q (by decide)⟩
theorem xf_Y_13 (post : Int32 → Prop) {n : Nat} {B : Int32} (h1 : rl_fb 13 B n → post 1) (h0 : ¬ rl_fb 13 B n → post 0) : wpY_fits post 13 B (nI n) :=
  br_f (by decide) <| br_f (by decide) <| br_f (by decide) <| br_f (by decide) <| br_f (by decide) <| br_f (by decide) <| br_f (by decide) <| br_f (by decide) <| br_f (by decide) <| br_f (by decide) <| br_f (by decide) <| br_f (by decide) <| br_f (by decide) <| br_f (by decide) <| br_f (by decide) <| br_t rfl <|  h1 ⟨fun q => absurd q (by decide), fun q => absurd q (by decide), fun q => absurd q (by decide), fun q => absurd q (by decide)⟩
theorem xf_Y_14 (post : Int32 → Prop) {n : Nat} {B : Int32} (h1 : rl_fb 14 B n → post 1) (h0 : ¬ rl_fb 14 B n → post 0) : wpY_fits post 14 B (nI n) :=
  br_f (by decide) <| br_f (by decide) <| br_f (by decide) <| br_f (by decide) <| br_f (by decide) <| br_f (by decide) <| br_f (by decide) <| br_f (by decide) <| br_f (by decide) <| br_f (by decide) <| br_f (by decide) <| br_f (by decide) <| br_f (by decide) <| br_f (by decide) <| br_f (by decide) <| br_f (by decide) <| br_t rfl <|  h1 ⟨fun q => absurd q (by decide), fun q => absurd q (by decide), fun q => absurd q (by decide), fun q => absurd q (by decide)⟩
theorem xf_Y_15 (post : Int32 → Prop) {n : Nat} {B : Int32} (h1 : rl_fb 15 B n → post 1) (h0 : ¬ rl_fb 15 B n → post 0) : wpY_fits post 15 B (nI n) :=
  br_f (by decide) <| br_f (by decide) <| br_f (by decide) <| br_f (by decide) <| br_f (by decide) <| br_f (by decide) <| br_f (by decide) <| br_f (by decide) <| br_f (by decide) <| br_f (by decide) <| br_f (by decide) <| br_f (by decide) <| br_f (by decide) <| br_f (by decide) <| br_f (by decide) <| br_f (by decide) <| br_f (by decide) <| br_t rfl <|  h1 ⟨fun q => absurd q (by decide), fun q => absurd q (by decide), fun q => absurd q (by decide), fun q => absurd q (by decide)⟩
theorem xf_Y_16 (post : Int32 → Prop) {n : Nat} {B : Int32} (h1 : rl_fb 16 B n → post 1) (h0 : ¬ rl_fb 16 B n → post 0) : wpY_fits post 16 B (nI n) :=
  br_f (by decide) <| br_f (by decide) <| br_f (by decide) <| br_f (by decide) <| br_f (by decide) <| br_f (by decide) <| br_f (by decide) <| br_f (by decide) <| br_f (by decide) <| br_f (by decide) <| br_f (by decide) <| br_f (by decide) <| br_f (by decide) <| br_f (by decide) <| br_f (by decide) <| br_f (by decide) <| br_f (by decide) <| br_f (by decide) <| br_t rfl <|  br_c (fun z => h0 (fun y => absurd (y.2.2.2 (by decide)).1 (Int32.not_le.mpr z))) (fun z => br_c (fun y => h0 (fun x => (xf_56 B).mp y (x.2.2.2 (by decide)).2)) (fun y => h1 ⟨fun q => absurd q (by decide), fun q => absurd q (by decide), fun q => absurd q (by decide), fun _ => ⟨Int32.not_lt.mp z, Classical.byContradiction fun w => y ((xf_56 B).mpr w)⟩⟩))
theorem xf_Y_17 (post : Int32 → Prop) {n : Nat} {B : Int32} (h1 : rl_fb 17 B n → post 1) (h0 : ¬ rl_fb 17 B n → post 0) : wpY_fits post 17 B (nI n) :=
  br_f (by decide) <| br_f (by decide) <| br_f (by decide) <| br_f (by decide) <| br_f (by decide) <| br_f (by decide) <| br_f (by decide) <| br_f (by decide) <| br_f (by decide) <| br_f (by decide) <| br_f (by decide) <| br_f (by decide) <| br_f (by decide) <| br_f (by decide) <| br_f (by decide) <| br_f (by decide) <| br_f (by decide) <| br_f (by decide) <| br_f (by decide) <| br_t rfl <|  h1 ⟨fun q => absurd q (by decide), fun q => absurd q (by decide), fun q => absurd q (by decide), fun q => absurd q (by decide)⟩
theorem xf_Y_18 (post : Int32 → Prop) {n : Nat} {B : Int32} (h1 : rl_fb 18 B n → post 1) (h0 : ¬ rl_fb 18 B n → post 0) : wpY_fits post 18 B (nI n) :=
  br_f (by decide) <| br_f (by decide) <| br_f (by decide) <| br_f (by decide) <| br_f (by decide) <| br_f (by decide) <| br_f (by decide) <| br_f (by decide) <| br_f (by decide) <| br_f (by decide) <| br_f (by decide) <| br_f (by decide) <| br_f (by decide) <| br_f (by decide) <| br_f (by decide) <| br_f (by decide) <| br_f (by decide) <| br_f (by decide) <| br_f (by decide) <| br_f (by decide) <| br_t rfl <|  br_c (fun z => h0 (fun y => absurd (y.2.2.2 (by decide)).1 (Int32.not_le.mpr z))) (fun z => br_c (fun y => h0 (fun x => (xf_56 B).mp y (x.2.2.2 (by decide)).2)) (fun y => h1 ⟨fun q => absurd q (by decide), fun q => absurd q (by decide), fun q => absurd q (by decide), fun _ => ⟨Int32.not_lt.mp z, Classical.byContradiction fun w => y ((xf_56 B).mpr w)⟩⟩))
theorem xf_Y_19 (post : Int32 → Prop) {n : Nat} {B : Int32} (h1 : rl_fb 19 B n → post 1) (h0 : ¬ rl_fb 19 B n → post 0) : wpY_fits post 19 B (nI n) :=
  br_f (by decide) <| br_t (by decide) <| h1 ⟨fun q => absurd q (by decide), fun q => absurd q (by decide), fun q => absurd q (by decide), fun q => absurd q (by decide)⟩
theorem xf_Y_20 (post : Int32 → Prop) {n : Nat} {B : Int32} (h1 : rl_fb 20 B n → post 1) (h0 : ¬ rl_fb 20 B n → post 0) : wpY_fits post 20 B (nI n) :=
  br_f (by decide) <| br_t (by decide) <| h1 ⟨fun q => absurd q (by decide), fun q => absurd q (by decide), fun q => absurd q (by decide), fun q => absurd q (by decide)⟩
theorem xf_Y_21 (post : Int32 → Prop) {n : Nat} {B : Int32} (h1 : rl_fb 21 B n → post 1) (h0 : ¬ rl_fb 21 B n → post 0) : wpY_fits post 21 B (nI n) :=
  br_f (by decide) <| br_t (by decide) <| h1 ⟨fun q => absurd q (by decide), fun q => absurd q (by decide), fun q => absurd q (by decide), fun q => absurd q (by decide)⟩
theorem xf_Y_22 (post : Int32 → Prop) {n : Nat} {B : Int32} (h1 : rl_fb 22 B n → post 1) (h0 : ¬ rl_fb 22 B n → post 0) : wpY_fits post 22 B (nI n) :=
  br_f (by decide) <| br_t (by decide) <| h1 ⟨fun q => absurd q (by decide), fun q => absurd q (by decide), fun q => absurd q (by decide), fun q => absurd q (by decide)⟩
theorem xf_Y_23 (post : Int32 → Prop) {n : Nat} {B : Int32} (h1 : rl_fb 23 B n → post 1) (h0 : ¬ rl_fb 23 B n → post 0) : wpY_fits post 23 B (nI n) :=
  br_f (by decide) <| br_t (by decide) <| h1 ⟨fun q => absurd q (by decide), fun q => absurd q (by decide), fun q => absurd q (by decide), fun q => absurd q (by decide)⟩
theorem xf_Y_24 (post : Int32 → Prop) {n : Nat} {B : Int32} (h1 : rl_fb 24 B n → post 1) (h0 : ¬ rl_fb 24 B n → post 0) : wpY_fits post 24 B (nI n) :=
  br_f (by decide) <| br_t (by decide) <| h1 ⟨fun q => absurd q (by decide), fun q => absurd q (by decide), fun q => absurd q (by decide), fun q => absurd q (by decide)⟩
theorem xf_Y (post : Int32 → Prop) {o n : Nat} {B : Int32} (ho : o < 25) (h1 : rl_fb o B n → post 1) (h0 : ¬ rl_fb o B n → post 0) : wpY_fits post (nI o) B (nI n) := by
  rcases ck_25 ho with rfl | rfl | rfl | rfl | rfl | rfl | rfl | rfl | rfl | rfl | rfl | rfl | rfl | rfl | rfl | rfl | rfl | rfl | rfl | rfl | rfl | rfl | rfl | rfl | rfl
  · exact xf_Y_0 post h1 h0
  · exact xf_Y_1 post h1 h0
  · exact xf_Y_2 post h1 h0
  · exact xf_Y_3 post h1 h0
  · exact xf_Y_4 post h1 h0
  · exact xf_Y_5 post h1 h0
  · exact xf_Y_6 post h1 h0
  · exact xf_Y_7 post h1 h0
  · exact xf_Y_8 post h1 h0
  · exact xf_Y_9 post h1 h0
  · exact xf_Y_10 post h1 h0
  · exact xf_Y_11 post h1 h0
  · exact xf_Y_12 post h1 h0
  · exact xf_Y_13 post h1 h0
  · exact xf_Y_14 post h1 h0
  · exact xf_Y_15 post h1 h0
  · exact xf_Y_16 post h1 h0
  · exact xf_Y_17 post h1 h0
  · exact xf_Y_18 post h1 h0
  · exact xf_Y_19 post h1 h0
  · exact xf_Y_20 post h1 h0
  · exact xf_Y_21 post h1 h0
  · exact xf_Y_22 post h1 h0
  · exact xf_Y_23 post h1 h0
  · exact xf_Y_24 post h1 h0
