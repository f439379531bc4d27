/-! COUNTING: a pass that changes the table adds to a measure of at most 144 -/
def ck_sm (f : Nat → Nat) : Nat → Nat
  | 0 => 0
  | n + 1 => ck_sm f n + f n
theorem ck_sm_le {f g : Nat → Nat} : ∀ n, (∀ i, i < n → f i ≤ g i) → ck_sm f n ≤ ck_sm g n
  | 0, _ => Nat.le_refl 0
  | n + 1, h => Nat.add_le_add (ck_sm_le n (fun i hi => h i (by omega))) (h n (by omega))
theorem ck_sm_lt {f g : Nat → Nat} : ∀ n, (∀ i, i < n → f i ≤ g i) → ∀ i, i < n → f i < g i → ck_sm f n < ck_sm g n
  | 0, _, i, hi, _ => absurd hi (Nat.not_lt_zero i)
  | n + 1, h, i, hi, hl => by
    have hn := h n (by omega)
    by_cases e : i = n
    · subst e
      have := ck_sm_le (f := f) (g := g) i (fun j hj => h j (by omega))
      show ck_sm f i + f i < ck_sm g i + g i
      omega
    · have := ck_sm_lt (f := f) (g := g) n (fun j hj => h j (by omega)) i (by omega) hl
      show ck_sm f n + f n < ck_sm g n + g n
      omega
theorem ck_sm_eq {f g : Nat → Nat} : ∀ n, (∀ i, i < n → f i = g i) → ck_sm f n = ck_sm g n
  | 0, _ => rfl
  | n + 1, h => by
    show ck_sm f n + f n = ck_sm g n + g n
    rw [ck_sm_eq n (fun i hi => h i (by omega)), h n (by omega)]
def ck_pw (m : Nat) : Nat := if m = 3 ∨ m = 5 ∨ m = 6 then 1 else if m = 7 then 2 else 0
theorem ck_pw_or : ∀ a, a < 8 → ∀ b, b < 8 → ck_pw a ≤ ck_pw (a ||| b) ∧ (a ≠ 0 → a ||| b ≠ a → ck_pw a < ck_pw (a ||| b)) ∧ a ||| b < 8 := by decide +kernel
theorem ck_or4 : ∀ a, a < 4 → ∀ b, b < 4 → a ||| b < 4 := by decide +kernel
theorem ck_orn : ∀ a, a < 8 → ∀ b, b < 8 → b ≠ 0 → a ||| b ≠ 0 := by decide +kernel
theorem ck_pw8 : ∀ a, a < 8 → ck_pw a ≤ 2 := by decide +kernel
theorem ck_pw4 : ∀ a, a < 4 → ck_pw a ≤ 1 := by decide +kernel
def ck_mu (D W : Nat → Nat) : Nat := ck_sm (fun k => if D k = 0 then 0 else 1) 16 + ck_sm (fun i => ck_pw (W i)) 96
def ck_wb (W : Nat → Nat) : Prop := ∀ i, W i < 8 ∧ (2 ≤ i % 6 → W i < 4)
theorem ck_mu_le {D W : Nat → Nat} (h : ck_wb W) : ck_mu D W ≤ 144 := by
  have h1 : ck_sm (fun k => if D k = 0 then 0 else 1) 16 ≤ ck_sm (fun _ => 1) 16 := ck_sm_le 16 (fun i _ => by
    show (if D i = 0 then 0 else 1) ≤ 1
    split <;> omega)
  have h2 : ck_sm (fun i => ck_pw (W i)) 96 ≤ ck_sm (fun i => if i % 6 < 2 then 2 else 1) 96 := ck_sm_le 96 (fun i _ => by
    show ck_pw (W i) ≤ if i % 6 < 2 then 2 else 1
    split
    · exact ck_pw8 _ (h i).1
    · exact ck_pw4 _ ((h i).2 (by omega)))
  have e1 : ck_sm (fun _ => 1) 16 = 16 := by decide +kernel
  have e2 : ck_sm (fun i => if i % 6 < 2 then 2 else 1) 96 = 128 := by decide +kernel
  unfold ck_mu
  omega
/-- one arrival: the table after it, against the table before it -/
theorem ck_mu_mono {D D' W W' : Nat → Nat} (hD : ∀ k, k < 16 → D k ≠ 0 → D' k ≠ 0) (hW : ∀ i, i < 96 → ck_pw (W i) ≤ ck_pw (W' i)) : ck_mu D W ≤ ck_mu D' W' := by
  have h1 : ck_sm (fun k => if D k = 0 then 0 else 1) 16 ≤ ck_sm (fun k => if D' k = 0 then 0 else 1) 16 := ck_sm_le 16 (fun i hi => by
    show (if D i = 0 then 0 else 1) ≤ if D' i = 0 then 0 else 1
    by_cases e : D i = 0
    · rw [if_pos e]
      exact Nat.zero_le _
    · rw [if_neg e, if_neg (hD i hi e)]
      exact Nat.le_refl 1)
  have h2 : ck_sm (fun i => ck_pw (W i)) 96 ≤ ck_sm (fun i => ck_pw (W' i)) 96 := ck_sm_le 96 hW
  unfold ck_mu
  omega
theorem ck_mu_d {D D' W W' : Nat → Nat} (hD : ∀ k, k < 16 → D k ≠ 0 → D' k ≠ 0) (hW : ∀ i, i < 96 → ck_pw (W i) ≤ ck_pw (W' i)) {k : Nat} (hk : k < 16) (h0 : D k = 0) (h1 : D' k ≠ 0) : ck_mu D W < ck_mu D' W' := by
  have h2 : ck_sm (fun k => if D k = 0 then 0 else 1) 16 < ck_sm (fun k => if D' k = 0 then 0 else 1) 16 := ck_sm_lt 16 (fun i hi => by
    show (if D i = 0 then 0 else 1) ≤ if D' i = 0 then 0 else 1
    by_cases e : D i = 0
    · rw [if_pos e]
      exact Nat.zero_le _
    · rw [if_neg e, if_neg (hD i hi e)]
      exact Nat.le_refl 1) k hk (by
    show (if D k = 0 then 0 else 1) < if D' k = 0 then 0 else 1
    rw [if_pos h0, if_neg h1]
    exact Nat.zero_lt_one)
  have h3 : ck_sm (fun i => ck_pw (W i)) 96 ≤ ck_sm (fun i => ck_pw (W' i)) 96 := ck_sm_le 96 hW
  unfold ck_mu
  omega
theorem ck_mu_w {D W W' : Nat → Nat} (hW : ∀ i, i < 96 → ck_pw (W i) ≤ ck_pw (W' i)) {i : Nat} (hi : i < 96) (h : ck_pw (W i) < ck_pw (W' i)) : ck_mu D W < ck_mu D W' := by
  have h3 : ck_sm (fun i => ck_pw (W i)) 96 < ck_sm (fun i => ck_pw (W' i)) 96 := ck_sm_lt 96 hW i hi h
  unfold ck_mu
  omega
/-! THE REFERENCE'S NUMBERS: a stack as bits under a leading 1, the locals as two digits of base 3 -/
def ck_yo (p st lo : Nat) : Prop := if p = 1 then 2 ≤ st ∧ st % 2 = 0 else if p = 2 then 2 ≤ st ∧ st % 2 = 1 else if p = 3 then 2 ≤ st else if p ≤ 5 then st < 16 else if p = 6 then lo % 3 ≠ 0 ∧ st < 16 else if p = 7 then lo / 3 ≠ 0 ∧ st < 16 else if p ≤ 9 then 2 ≤ st else 2 ≤ st ∧ st < 16
def ck_ys (p st lo : Nat) : Nat := if p ≤ 3 then st / 2 else if p = 4 then 2 * st else if p = 5 then 2 * st + 1 else if p = 6 then 2 * st + (lo % 3 - 1) else if p = 7 then 2 * st + (lo / 3 - 1) else if p ≤ 9 then st / 2 else 2 * st + st % 2
def ck_yl (p st lo : Nat) : Nat := if p = 8 then lo / 3 * 3 + (st % 2 + 1) else if p = 9 then lo % 3 + 3 * (st % 2 + 1) else lo
def ck_yos : List Nat → Nat → Nat → Prop
  | [], _, _ => True
  | p :: L, st, lo => ck_yo p st lo ∧ ck_yos L (ck_ys p st lo) (ck_yl p st lo)
def ck_yrs : List Nat → Nat → Nat → Nat
  | [], st, _ => st
  | p :: L, st, lo => ck_yrs L (ck_ys p st lo) (ck_yl p st lo)
def ck_yrl : List Nat → Nat → Nat → Nat
  | [], _, lo => lo
  | p :: L, st, lo => ck_yrl L (ck_ys p st lo) (ck_yl p st lo)
def ck_va (d : Nat) (f : Nat → Nat) : Prop := d ≤ 4 ∧ f 0 < 3 ∧ f 1 < 3 ∧ ∀ j, 2 ≤ j → j < d + 2 → f j = 1 ∨ f j = 2
def ck_st (f : Nat → Nat) : Nat → Nat
  | 0 => 1
  | d + 1 => 2 * ck_st f d + (f (d + 2) - 1)
def ck_lo (f : Nat → Nat) : Nat := f 0 + 3 * f 1
theorem ck_st_un {f : Nat → Nat} {i v : Nat} : ∀ d, (d + 2 ≤ i ∨ i < 2) → ck_st (ck_un f i v) d = ck_st f d
  | 0, _ => rfl
  | d + 1, h => by
    show 2 * ck_st (ck_un f i v) d + (ck_un f i v (d + 2) - 1) = 2 * ck_st f d + (f (d + 2) - 1)
    rw [ck_st_un d (by omega), ck_uo (by omega)]
theorem ck_st_lt {f : Nat → Nat} : ∀ d, (∀ j, 2 ≤ j → j < d + 2 → f j = 1 ∨ f j = 2) → 2 ^ d ≤ ck_st f d ∧ ck_st f d < 2 ^ (d + 1)
  | 0, _ => ⟨Nat.le_refl 1, by show 1 < 2 ^ (0 + 1); decide⟩
  | d + 1, h => by
    obtain ⟨h1, h2⟩ := ck_st_lt (f := f) d (fun j a b => h j a (by omega))
    have h3 := h (d + 2) (by omega) (by omega)
    show 2 ^ (d + 1) ≤ 2 * ck_st f d + (f (d + 2) - 1) ∧ 2 * ck_st f d + (f (d + 2) - 1) < 2 ^ (d + 1 + 1)
    rw [Nat.pow_succ 2 (d + 1)]
    rw [Nat.pow_succ] at h2 ⊢
    omega
theorem ck_stb {d : Nat} {f : Nat → Nat} (h : ck_va d f) : 1 ≤ ck_st f d ∧ (2 ≤ ck_st f d ↔ 0 < d) ∧ (ck_st f d < 16 ↔ d < 4) ∧ ck_st f d < 32 := by
  obtain ⟨h4, _, _, hj⟩ := h
  obtain ⟨h1, h2⟩ := ck_st_lt d hj
  obtain rfl | rfl | rfl | rfl | rfl : d = 0 ∨ d = 1 ∨ d = 2 ∨ d = 3 ∨ d = 4 := by omega
  all_goals (simp only [Nat.reducePow, Nat.reduceAdd] at h1 h2; omega)
theorem ck_st_s {d : Nat} {f : Nat → Nat} (h : ck_va d f) (hd : 0 < d) : ck_st f d / 2 = ck_st f (d - 1) ∧ ck_st f d % 2 = f (d + 1) - 1 ∧ (f (d + 1) = 1 ∨ f (d + 1) = 2) := by
  obtain ⟨e, rfl⟩ : ∃ e, d = e + 1 := ⟨d - 1, by omega⟩
  have h3 := h.2.2.2 (e + 2) (by omega) (by omega)
  have e1 : ck_st f (e + 1) = 2 * ck_st f e + (f (e + 2) - 1) := rfl
  have e2 : e + 1 - 1 = e := by omega
  have e3 : e + 1 + 1 = e + 2 := rfl
  rw [e1, e2, e3]
  omega
theorem ck_st_p {d v : Nat} {f : Nat → Nat} : ck_st (ck_un f (d + 2) v) (d + 1) = 2 * ck_st f d + (v - 1) := by
  show 2 * ck_st (ck_un f (d + 2) v) d + (ck_un f (d + 2) v (d + 2) - 1) = _
  rw [ck_st_un d (by omega), ck_us]
theorem ck_lo_p {i v : Nat} {f : Nat → Nat} (h : 2 ≤ i) : ck_lo (ck_un f i v) = ck_lo f := by
  unfold ck_lo
  rw [ck_uo (by omega), ck_uo (by omega)]
theorem ck_va_p {d v : Nat} {f : Nat → Nat} (h : ck_va d f) (hd : d < 4) (hv : v = 1 ∨ v = 2) : ck_va (d + 1) (ck_un f (d + 2) v) := by
  refine ⟨by omega, by rw [ck_uo (by omega)]; exact h.2.1, by rw [ck_uo (by omega)]; exact h.2.2.1, fun j h2 hj => ?_⟩
  by_cases e : j = d + 2
  · rw [e, ck_us]; exact hv
  · rw [ck_uo e]; exact h.2.2.2 j h2 (by omega)
theorem ck_va_t {d : Nat} {f : Nat → Nat} (h : ck_va d f) : ck_va (d - 1) f := ⟨by have := h.1; omega, h.2.1, h.2.2.1, fun j h2 hj => by
  by_cases e : d = 0
  · omega
  · exact h.2.2.2 j h2 (by omega)⟩
/-- one small step: the kinds' rule and the numbers' rule say the same -/
theorem ck_y1 {p d : Nat} {f : Nat → Nat} (hp : 1 ≤ p ∧ p ≤ 10) (h : ck_va d f) : (ck_o1 p d f ↔ ck_yo p (ck_st f d) (ck_lo f)) ∧ (ck_o1 p d f → ck_va (ck_nd p d) (ck_k p d f) ∧ ck_st (ck_k p d f) (ck_nd p d) = ck_ys p (ck_st f d) (ck_lo f) ∧ ck_lo (ck_k p d f) = ck_yl p (ck_st f d) (ck_lo f)) := by
  obtain ⟨b1, b2, b3, b4⟩ := ck_stb h
  have l0 : ck_lo f % 3 = f 0 := by have := h.2.1; unfold ck_lo; omega
  have l1 : ck_lo f / 3 = f 1 := by have := h.2.1; unfold ck_lo; omega
  have hf0 := h.2.1
  have hf1 := h.2.2.1
  obtain rfl | rfl | rfl | rfl | rfl | rfl | rfl | rfl | rfl | rfl : p = 1 ∨ p = 2 ∨ p = 3 ∨ p = 4 ∨ p = 5 ∨ p = 6 ∨ p = 7 ∨ p = 8 ∨ p = 9 ∨ p = 10 := by omega
  · simp only [ck_o1, ck_ok, ck_al, ck_ce, ck_nd, ck_k, ck_yo, ck_ys, ck_yl, Nat.reduceLeDiff, Nat.reduceEqDiff, ↓reduceIte]
    refine ⟨⟨fun z => ?_, fun z => ?_⟩, fun z => ⟨ck_va_t h, (ck_st_s h z.1).1.symm, trivial⟩⟩
    · have := ck_st_s h z.1
      exact ⟨b2.mpr z.1, by omega⟩
    · have := ck_st_s h (b2.mp z.1)
      exact ⟨b2.mp z.1, by omega⟩
  · simp only [ck_o1, ck_ok, ck_al, ck_ce, ck_nd, ck_k, ck_yo, ck_ys, ck_yl, Nat.reduceLeDiff, Nat.reduceEqDiff, ↓reduceIte]
    refine ⟨⟨fun z => ?_, fun z => ?_⟩, fun z => ⟨ck_va_t h, (ck_st_s h z.1).1.symm, trivial⟩⟩
    · have := ck_st_s h z.1
      exact ⟨b2.mpr z.1, by omega⟩
    · have := ck_st_s h (b2.mp z.1)
      exact ⟨b2.mp z.1, by omega⟩
  · simp only [ck_o1, ck_ok, ck_al, ck_ce, ck_nd, ck_k, ck_yo, ck_ys, ck_yl, Nat.reduceLeDiff, Nat.reduceEqDiff, ↓reduceIte]
    exact ⟨⟨fun z => b2.mpr z.1, fun z => ⟨b2.mp z, trivial⟩⟩, fun z => ⟨ck_va_t h, (ck_st_s h z.1).1.symm, trivial⟩⟩
  · simp only [ck_o1, ck_ok, ck_al, ck_ce, ck_nd, ck_k, ck_yo, ck_ys, ck_yl, Nat.reduceLeDiff, Nat.reduceEqDiff, Nat.reduceSub, ↓reduceIte]
    exact ⟨⟨fun z => b3.mpr z.1, fun z => ⟨b3.mp z, trivial⟩⟩, fun z => ⟨ck_va_p h z.1 (Or.inl rfl), ck_st_p, ck_lo_p (by omega)⟩⟩
  · simp only [ck_o1, ck_ok, ck_al, ck_ce, ck_nd, ck_k, ck_yo, ck_ys, ck_yl, Nat.reduceLeDiff, Nat.reduceEqDiff, Nat.reduceSub, ↓reduceIte]
    exact ⟨⟨fun z => b3.mpr z.1, fun z => ⟨b3.mp z, trivial⟩⟩, fun z => ⟨ck_va_p h z.1 (Or.inr rfl), ck_st_p, ck_lo_p (by omega)⟩⟩
  · simp only [ck_o1, ck_ok, ck_al, ck_ce, ck_nd, ck_k, ck_yo, ck_ys, ck_yl, Nat.reduceLeDiff, Nat.reduceEqDiff, Nat.reduceSub, ↓reduceIte]
    rw [l0]
    exact ⟨⟨fun z => ⟨z.2, b3.mpr z.1⟩, fun z => ⟨b3.mp z.2, z.1⟩⟩, fun z => ⟨ck_va_p h z.1 (by have := z.2; omega), ck_st_p, ck_lo_p (by omega)⟩⟩
  · simp only [ck_o1, ck_ok, ck_al, ck_ce, ck_nd, ck_k, ck_yo, ck_ys, ck_yl, Nat.reduceLeDiff, Nat.reduceEqDiff, Nat.reduceSub, ↓reduceIte]
    rw [l1]
    exact ⟨⟨fun z => ⟨z.2, b3.mpr z.1⟩, fun z => ⟨b3.mp z.2, z.1⟩⟩, fun z => ⟨ck_va_p h z.1 (by have := z.2; omega), ck_st_p, ck_lo_p (by omega)⟩⟩
  · simp only [ck_o1, ck_ok, ck_al, ck_ce, ck_nd, ck_k, ck_yo, ck_ys, ck_yl, Nat.reduceLeDiff, Nat.reduceEqDiff, Nat.reduceSub, ↓reduceIte]
    refine ⟨⟨fun z => b2.mpr z.1, fun z => ⟨b2.mp z, trivial⟩⟩, fun z => ?_⟩
    obtain ⟨s1, s2, s3⟩ := ck_st_s h z.1
    refine ⟨⟨(ck_va_t h).1, ?_, ?_, fun j h2 hj => ?_⟩, ?_, ?_⟩
    · rw [ck_us]; omega
    · rw [ck_uo (by omega)]; exact hf1
    · rw [ck_uo (by omega)]; exact (ck_va_t h).2.2.2 j h2 hj
    · rw [ck_st_un _ (by omega), s1]
    · rw [l1, s2]
      unfold ck_lo
      rw [ck_us, ck_uo (by omega)]
      omega
  · simp only [ck_o1, ck_ok, ck_al, ck_ce, ck_nd, ck_k, ck_yo, ck_ys, ck_yl, Nat.reduceLeDiff, Nat.reduceEqDiff, Nat.reduceSub, ↓reduceIte]
    refine ⟨⟨fun z => b2.mpr z.1, fun z => ⟨b2.mp z, trivial⟩⟩, fun z => ?_⟩
    obtain ⟨s1, s2, s3⟩ := ck_st_s h z.1
    refine ⟨⟨(ck_va_t h).1, ?_, ?_, fun j h2 hj => ?_⟩, ?_, ?_⟩
    · rw [ck_uo (by omega)]; exact hf0
    · rw [ck_us]; omega
    · rw [ck_uo (by omega)]; exact (ck_va_t h).2.2.2 j h2 hj
    · rw [ck_st_un _ (by omega), s1]
    · rw [l0, s2]
      unfold ck_lo
      rw [ck_us, ck_uo (by omega)]
      omega
  · simp only [ck_o1, ck_ok, ck_al, ck_ce, ck_nd, ck_k, ck_yo, ck_ys, ck_yl, Nat.reduceLeDiff, Nat.reduceEqDiff, Nat.reduceSub, ↓reduceIte]
    refine ⟨⟨fun z => ⟨b2.mpr z.1.1, b3.mpr z.1.2⟩, fun z => ⟨⟨b2.mp z.1, b3.mp z.2⟩, trivial⟩⟩, fun z => ?_⟩
    obtain ⟨s1, s2, s3⟩ := ck_st_s h z.1.1
    exact ⟨ck_va_p h z.1.2 s3, by rw [ck_st_p, s2], ck_lo_p (by omega)⟩
theorem ck_yL : ∀ (L : List Nat) (d : Nat) (f : Nat → Nat), ck_pr L → ck_va d f → (ck_os L d f ↔ ck_yos L (ck_st f d) (ck_lo f)) ∧ (ck_os L d f → ck_va (ck_rd L d) (ck_rk L d f) ∧ ck_st (ck_rk L d f) (ck_rd L d) = ck_yrs L (ck_st f d) (ck_lo f) ∧ ck_lo (ck_rk L d f) = ck_yrl L (ck_st f d) (ck_lo f))
  | [], _, _, _, h => ⟨Iff.rfl, fun _ => ⟨h, rfl, rfl⟩⟩
  | p :: L, d, f, hp, h => by
    obtain ⟨h1, h2⟩ := ck_y1 (hp p (List.mem_cons_self ..)) h
    have hp' : ck_pr L := fun q hq => hp q (List.mem_cons_of_mem _ hq)
    refine ⟨⟨fun z => ?_, fun z => ?_⟩, fun z => ?_⟩
    · obtain ⟨a1, a2, a3⟩ := h2 z.1
      obtain ⟨h3, h4⟩ := ck_yL L _ _ hp' a1
      rw [a2, a3] at h3
      exact ⟨h1.mp z.1, h3.mp z.2⟩
    · have z1 := h1.mpr z.1
      obtain ⟨a1, a2, a3⟩ := h2 z1
      obtain ⟨h3, h4⟩ := ck_yL L _ _ hp' a1
      rw [a2, a3] at h3
      exact ⟨z1, h3.mpr z.2⟩
    · obtain ⟨a1, a2, a3⟩ := h2 z.1
      obtain ⟨h3, h4⟩ := ck_yL L _ _ hp' a1
      rw [a2, a3] at h4
      exact h4 z.2
def ck_en (k d : Nat) (f : Nat → Nat) : Nat := k * 288 + ck_st f d * 9 + ck_lo f
/-- what a state of the reference's list owes once it has been looked at -/
def ck_yp (op b : Nat → Nat) (n : Nat) (met : Nat → Prop) (k st lo : Nat) : Prop :=
  ck_yos (ck_pg (op k) (b k)) st lo ∧ ((op k = 7 ∨ op k = 8) → b k < n ∧ met (b k * 288 + ck_yrs (ck_pg (op k) (b k)) st lo * 9 + ck_yrl (ck_pg (op k) (b k)) st lo)) ∧ ((op k ≠ 7 ∧ op k ≠ 19) → k + 1 < n ∧ met ((k + 1) * 288 + ck_yrs (ck_pg (op k) (b k)) st lo * 9 + ck_yrl (ck_pg (op k) (b k)) st lo))
theorem ck_yg {op b : Nat → Nat} {n : Nat} {met : Nat → Prop} {H : Nat → Nat} (hn : 0 < n) (hp : ∀ k, k < n → ck_pr (ck_pg (op k) (b k))) (h0 : met 10)
    (hc : ∀ k st lo, k < n → st < 32 → lo < 9 → met (k * 288 + st * 9 + lo) → ck_yp op b n met k st lo)
    (hH : ∀ k d f, k < n → ck_va d f → met (ck_en k d f) → H k = d) : ck_good op b n := by
  refine ⟨fun k d f => k < n ∧ ck_va d f ∧ met (ck_en k d f), ⟨hn, ⟨by decide, by decide, by decide, fun j h2 hj => absurd hj (by omega)⟩, h0⟩, ?_, ?_⟩
  · intro k d f hM
    obtain ⟨hk, hv, hm⟩ := hM
    have hl : ck_lo f < 9 := by have := hv.2.1; have := hv.2.2.1; unfold ck_lo; omega
    obtain ⟨h1, h2, h3⟩ := hc k _ _ hk (ck_stb hv).2.2.2 hl hm
    obtain ⟨a1, a2⟩ := ck_yL _ d f (hp k hk) hv
    have h4 := a1.mpr h1
    obtain ⟨a3, a4, a5⟩ := a2 h4
    refine ⟨hk, h4, fun z => ?_, fun z => ?_⟩
    · obtain ⟨c1, c2⟩ := h2 z
      refine ⟨c1, a3, ?_⟩
      unfold ck_en
      rw [a4, a5]
      exact c2
    · obtain ⟨c1, c2⟩ := h3 z
      refine ⟨c1, a3, ?_⟩
      unfold ck_en
      rw [a4, a5]
      exact c2
  · intro k d f d' f' h1 h2
    rw [← hH k d f h1.1 h1.2.1 h1.2.2, ← hH k d' f' h2.1 h2.2.1 h2.2.2]
