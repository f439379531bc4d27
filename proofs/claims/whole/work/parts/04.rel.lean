/-! THE RELATION'S PARTS -/
def rl_sv (x : Int32) : Prop := x.toInt16.toInt32 = x
abbrev rl_b (x : Int32) : Prop := x = 0 ∨ x = 1
/-- a reference: the component's number and the reference's -/
def rl_rf (x y : Int32) : Prop := ∃ o : Nat, o ≤ 8 ∧ x = nI o ∧ y = nI o - 1
def rl_ce (c : Nat) (xv xr yv yk : Int32) : Prop := (c = 0 ∧ xr = 0 ∧ yk = 0) ∨ (c = 1 ∧ xr = 0 ∧ yk = 1 ∧ xv = yv ∧ rl_sv yv) ∨ (c = 2 ∧ xr = 1 ∧ yk = 2 ∧ rl_rf xv yv)
def rl_nn (a : Nat → Int32) (m : Nat) : Nat → Nat := fun k => (a (16 * m + k)).toNatClampNeg
def rl_fb (o : Nat) (b : Int32) (n : Nat) : Prop := (o = 0 → -128 ≤ b ∧ b ≤ 127) ∧ ((o = 1 ∨ o = 2 ∨ o = 9 ∨ o = 10 ∨ o = 11) → b = 0 ∨ b = 1) ∧ ((o = 7 ∨ o = 8) → 0 ≤ b ∧ b < nI n) ∧ ((o = 16 ∨ o = 18) → 0 ≤ b ∧ b < 6)
/-- a code that was taken in -/
def rl_cd (ops bs : Nat → Int32) (m n : Nat) : Prop := n ≤ 16 ∧ (∀ k, k < n → ∃ o, o < 25 ∧ ops (16 * m + k) = nI o ∧ rl_fb o (bs (16 * m + k)) n) ∧ ck_good (rl_nn ops m) (rl_nn bs m) n
def rl_M (co cb ml me ops bs sz ex : Nat → Int32) : Prop := ∀ m, m < 6 → ∃ n, n ≤ 16 ∧ ml m = nI n ∧ sz m = nI n ∧ me m = ex m ∧ rl_b (ex m) ∧ (∀ k, k < n → co (16 * m + k) = ops (16 * m + k) ∧ cb (16 * m + k) = bs (16 * m + k)) ∧ (0 < n → rl_cd ops bs m n)
def rl_P (po pb : Nat → Int32) (pc : Int32) (ops bs sz : Nat → Int32) : Prop := ∃ p, p ≤ 16 ∧ pc = nI p ∧ sz 6 = nI p ∧ ∀ i, i < p → po i = ops (96 + i) ∧ pb i = bs (96 + i) ∧ ∃ o, o < 25 ∧ ops (96 + i) = nI o
def rl_O (ro ow ol la sh oe yro yow yle yla ysh yel : Nat → Int32) : Prop :=
  (∀ r, r < 6 → rl_rf (ro r) (yro r)) ∧ (∀ o, o < 8 → ow (o + 1) = yow o ∧ ol (o + 1) = yle o ∧ la (o + 1) = yla o ∧ sh (o + 1) = ysh o ∧ rl_b (yla o) ∧ rl_b (ysh o) ∧ (∃ a, a < 3 ∧ yow o = nI a) ∧ (∃ l, l ≤ 4 ∧ yle o = nI l)) ∧ (∀ i, i < 32 → oe (4 + i) = yel i ∧ rl_sv (yel i))
def rl_T (B : Nat) (it : Int32) (sr ss se ms : Nat → Int32) (yop : Int32) (oro osh oel : Nat → Int32) (stp ost : Nat → Int64) (made : Int64) : Prop :=
  it = yop ∧ rl_b yop ∧ (∃ m, m ≤ B ∧ made = lN m ∧ (∀ o, o < 8 → ∃ s, s ≤ m ∧ stp o = lN s) ∧ (yop = 1 → ∀ o, o < 8 → ∃ s, s ≤ m ∧ ost o = lN s)) ∧ (yop = 1 → (∀ r, r < 6 → rl_rf (sr r) (oro r)) ∧ (∀ o, o < 8 → ss (o + 1) = osh o ∧ rl_b (osh o) ∧ (ms (o + 1) = 0 ↔ stp o = ost o)) ∧ (∀ i, i < 32 → se (4 + i) = oel i ∧ rl_sv (oel i)))
def rl_W (wt aw : Int32) : Prop := wt = aw ∧ (aw = -1 ∨ ∃ a, a ≤ 100 ∧ aw = nI a)
def rl_L (lx ly : Int32) : Prop := ∃ l, l ≤ 250 ∧ lx = nI l ∧ ly = nI l
/-! frames -/
def rl_ty (ops bs sz : Nat → Int32) (m k d : Nat) (f : Nat → Nat) : Prop := ck_ty (rl_nn ops m) (rl_nn bs m) (sz m).toNatClampNeg k d f
def rl_cs (t d : Nat) (f : Nat → Nat) (cv cr pl kd : Nat → Int32) : Prop := ∀ j, j < d + 2 → rl_ce (f j) (cv (6 * t + j)) (cr (6 * t + j)) (pl (8 * t + j)) (kd (8 * t + j))
/-- the frames below the top: each waits at a CALL -/
def rl_lo (ops bs sz : Nat → Int32) (t : Nat) (fm fa fd cv cr rows nx dp pl kd : Nat → Int32) : Prop := ∀ g, g < t → ∃ m k d f, m < 6 ∧ k < 16 ∧ d ≤ 3 ∧ 0 < (sz m).toNatClampNeg ∧ fm g = nI m ∧ rows g = nI m ∧ fa g = nI (k + 1) ∧ nx g = nI k ∧ fd g = nI d ∧ dp g = nI d ∧ rl_ty ops bs sz m (k + 1) (d + 1) (ck_un f (d + 2) 1) ∧ rl_cs g d f cv cr pl kd
def rl_tp (ops bs sz : Nat → Int32) (t m k d : Nat) (f : Nat → Nat) (fm fa fd cv cr rows nx dp pl kd : Nat → Int32) : Prop := m < 6 ∧ k < 16 ∧ d ≤ 4 ∧ 0 < (sz m).toNatClampNeg ∧ fm t = nI m ∧ rows t = nI m ∧ fa t = nI k ∧ nx t = nI k ∧ fd t = nI d ∧ dp t = nI d ∧ rl_ty ops bs sz m k d f ∧ rl_cs t d f cv cr pl kd
/-! small facts -/
theorem rl_uu {f : Nat → Int32} {k : Nat} {x y : Int32} : upd (upd f k x) k y = upd f k y := by
  funext j
  unfold upd
  split <;> rfl
theorem rl_sv_n {x : Int32} (h : rl_sv x) : vp_nar .short x = x := by rw [vp_nar_short]; exact h
theorem rl_sv_c (x : Int32) : rl_sv x.toInt16.toInt32 := by
  unfold rl_sv
  simp
theorem rl_sv_i {x : Int32} (h1 : -32768 ≤ x.toInt) (h2 : x.toInt < 32768) : rl_sv x := by
  unfold rl_sv
  exact lg_i2s_small h1 h2
theorem rl_sv_N {n : Nat} (h : n < 32768) : rl_sv (nI n) := rl_sv_i (by rw [nI_toInt (by omega)]; omega) (by rw [nI_toInt (by omega)]; omega)
theorem rl_b_n {x : Int32} (h : rl_b x) : vp_nar .boolean x = x := by
  rcases h with rfl | rfl
  · decide
  · decide
theorem rl_b_ne {x : Int32} (h : rl_b x) (h0 : ¬ x = 0) : x = 1 := h.resolve_left h0
theorem rl_m1 : nI 0 - 1 = -1 := by decide
theorem rl_s1 (o : Nat) : nI (o + 1) - 1 = nI o := nI_pred o
theorem rl_rf0 : rl_rf 0 (-1) := ⟨0, by omega, rfl, rl_m1.symm⟩
theorem rl_rfS {o : Nat} (h : o < 8) : rl_rf (nI (o + 1)) (nI o) := ⟨o + 1, h, rfl, (rl_s1 o).symm⟩
/-- null, or an object -/
theorem rl_rf_c {x y : Int32} (h : rl_rf x y) : (x = 0 ∧ y = -1) ∨ ∃ o, o < 8 ∧ x = nI (o + 1) ∧ y = nI o := by
  obtain ⟨o, ho, rfl, rfl⟩ := h
  cases o with
  | zero => exact Or.inl ⟨rfl, rl_m1⟩
  | succ o => exact Or.inr ⟨o, ho, rfl, rl_s1 o⟩
theorem rl_lo_up {ops bs sz : Nat → Int32} {t : Nat} {fm fa fd cv cr rows nx dp pl kd fm' fa' fd' cv' cr' rows' nx' dp' pl' kd' : Nat → Int32} (h : rl_lo ops bs sz t fm fa fd cv cr rows nx dp pl kd)
    (h1 : ∀ g, g < t → fm' g = fm g) (h2 : ∀ g, g < t → fa' g = fa g) (h3 : ∀ g, g < t → fd' g = fd g) (h4 : ∀ i, i < 6 * t → cv' i = cv i) (h5 : ∀ i, i < 6 * t → cr' i = cr i)
    (h6 : ∀ g, g < t → rows' g = rows g) (h7 : ∀ g, g < t → nx' g = nx g) (h8 : ∀ g, g < t → dp' g = dp g) (h9 : ∀ i, i < 8 * t → pl' i = pl i) (h10 : ∀ i, i < 8 * t → kd' i = kd i) : rl_lo ops bs sz t fm' fa' fd' cv' cr' rows' nx' dp' pl' kd' := by
  intro g hg
  obtain ⟨m, k, d, f, a1, a2, a3, a4, a5, a6, a7, a8, a9, a10, a11, a12⟩ := h g hg
  refine ⟨m, k, d, f, a1, a2, a3, a4, by rw [h1 g hg, a5], by rw [h6 g hg, a6], by rw [h2 g hg, a7], by rw [h7 g hg, a8], by rw [h3 g hg, a9], by rw [h8 g hg, a10], a11, fun j hj => ?_⟩
  rw [h4 _ (by omega), h5 _ (by omega), h9 _ (by omega), h10 _ (by omega)]
  exact a12 j hj
/-- one cell of the top frame is stored into -/
theorem rl_cs_up {t d d' c v : Nat} {f : Nat → Nat} {cv cr pl kd : Nat → Int32} {xv xr yv yk : Int32} (h : rl_cs t d f cv cr pl kd) (hc : rl_ce v xv xr yv yk) (hc6 : c < 6) (hd4 : d' ≤ 4) (hd : ∀ j, j < d' + 2 → j ≠ c → j < d + 2) :
    rl_cs t d' (ck_un f c v) (upd cv (6 * t + c) xv) (upd cr (6 * t + c) xr) (upd pl (8 * t + c) yv) (upd kd (8 * t + c) yk) := by
  intro j hj
  by_cases e : j = c
  · subst e
    rw [ck_us, pk_us, pk_us, pk_us, pk_us]
    exact hc
  · rw [ck_uo e, pk_un (by omega), pk_un (by omega), pk_un (by omega), pk_un (by omega)]
    exact h j (hd j hj e)
theorem rl_cs_dn {t d d' : Nat} {f : Nat → Nat} {cv cr pl kd : Nat → Int32} (h : rl_cs t d f cv cr pl kd) (hd : d' ≤ d) : rl_cs t d' f cv cr pl kd := fun j hj => h j (by omega)
theorem rl_ce1 {xv xr yv yk : Int32} (h : rl_ce 1 xv xr yv yk) : xr = 0 ∧ yk = 1 ∧ xv = yv ∧ rl_sv yv := by
  rcases h with ⟨h, _⟩ | ⟨_, h⟩ | ⟨h, _⟩
  · exact absurd h (by decide)
  · exact h
  · exact absurd h (by decide)
theorem rl_ce2 {xv xr yv yk : Int32} (h : rl_ce 2 xv xr yv yk) : xr = 1 ∧ yk = 2 ∧ rl_rf xv yv := by
  rcases h with ⟨h, _⟩ | ⟨h, _⟩ | ⟨_, h⟩
  · exact absurd h (by decide)
  · exact absurd h (by decide)
  · exact h
theorem rl_n1 {x : Int32} (h : rl_sv x) : rl_ce 1 x 0 x 1 := Or.inr (Or.inl ⟨rfl, rfl, rfl, rfl, h⟩)
theorem rl_n2 {x y : Int32} (h : rl_rf x y) : rl_ce 2 x 1 y 2 := Or.inr (Or.inr ⟨rfl, rfl, rfl, h⟩)
