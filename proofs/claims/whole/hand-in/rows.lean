section
/-! rows of kit/rows/PURE-ROWS, as they stand there -/
theorem pk_us {f : Nat → Int32} {k : Nat} {x : Int32} : upd f k x k = x := if_pos rfl
theorem pk_un {f : Nat → Int32} {k j : Nat} {x : Int32} (h : j ≠ k) : upd f k x j = f j := if_neg h
theorem pk_uLs {f : Nat → Int64} {k : Nat} {x : Int64} : vp_updL f k x k = x := if_pos rfl
theorem pk_uLn {f : Nat → Int64} {k j : Nat} {x : Int64} (h : j ≠ k) : vp_updL f k x j = f j := if_neg h
theorem pk_sub {a b : Nat} (h : b ≤ a) : nI a - nI b = nI (a - b) := by
  obtain ⟨c, rfl⟩ : ∃ c, a = c + b := ⟨a - b, by omega⟩
  rw [← nI_add, Int32.add_sub_cancel, Nat.add_sub_cancel]
theorem pk_m1 (n : Nat) : nI (n + 1) + (-1) = nI n := by
  rw [← nI_1, Int32.add_assoc, show (1 : Int32) + (-1) = 0 from rfl, Int32.add_zero]
theorem pk_mul (a b : Nat) : nI a * nI b = nI (a * b) := (Int32.ofNat_mul a b).symm
theorem pk_div {a d : Nat} (ha : a < 2 ^ 31) (h0 : 0 < d) (hd : d < 2 ^ 31) : nI a / nI d = nI (a / d) := by
  apply Int32.toInt_inj.mp
  rw [lg_idiv_nonneg (by rw [nI_toInt ha]; omega) (by rw [nI_toInt hd]; omega), nI_toInt ha, nI_toInt hd, nI_toInt (Nat.lt_of_le_of_lt (Nat.div_le_self a d) ha)]
  first | rfl | exact (Int.natCast_ediv _ _).symm
theorem pk_rem {a d : Nat} (ha : a < 2 ^ 31) (h0 : 0 < d) (hd : d < 2 ^ 31) : nI a - nI a / nI d * nI d = nI (a % d) := by
  rw [pk_div ha h0 hd, pk_mul, pk_sub (Nat.div_mul_le_self a d)]
  exact congrArg nI (by have := Nat.div_add_mod' a d; omega)
theorem pk_sub_toInt {a b : Nat} (ha : a < 2 ^ 30) (hb : b < 2 ^ 30) : (nI a - nI b).toInt = (a : Int) - b := by
  rw [Int32.toInt_sub, nI_toInt (by omega), nI_toInt (by omega)]
  exact Int.bmod_eq_of_le (by omega) (by omega)
theorem pk_sneg {a b : Nat} (hb : b < 2 ^ 30) (h : a < b) : nI a - nI b < 0 := by
  rw [Int32.lt_iff_toInt_lt, pk_sub_toInt (by omega) hb, show (0 : Int32).toInt = 0 from by decide]
  omega
theorem pk_ix (x : Int32) {n : Nat} (hn : n < 2 ^ 31) : x < 0 ∨ nI n ≤ x ∨ ∃ j : Nat, j < n ∧ x = nI j := by
  by_cases h : x < 0
  · exact Or.inl h
  · obtain ⟨j, hj, rfl⟩ := nI_of h
    by_cases h2 : j < n
    · exact Or.inr (Or.inr ⟨j, h2, rfl⟩)
    · exact Or.inr (Or.inl (nI_le (by omega) hj))
theorem pk_le {x y : Int32} {A B : Prop} (a b : Nat) (f : a ≤ b → A) (g : b < a → B) (hx : x = nI a := by rfl) (hy : y = nI b := by rfl) (ha : a < 2 ^ 31 := by omega) (hb : b < 2 ^ 31 := by omega) : (x ≤ y → A) ∧ (¬ x ≤ y → B) := by
  subst hx hy
  rw [nI_leI ha hb]
  exact ⟨f, fun z => g (by omega)⟩
theorem pk_lt {x y : Int32} {A B : Prop} (a b : Nat) (f : a < b → A) (g : b ≤ a → B) (hx : x = nI a := by rfl) (hy : y = nI b := by rfl) (ha : a < 2 ^ 31 := by omega) (hb : b < 2 ^ 31 := by omega) : (x < y → A) ∧ (¬ x < y → B) := by
  subst hx hy
  rw [nI_ltI ha hb]
  exact ⟨f, fun z => g (by omega)⟩
theorem pk_eq {x y : Int32} {A B : Prop} (a b : Nat) (f : a = b → A) (g : a ≠ b → B) (hx : x = nI a := by rfl) (hy : y = nI b := by rfl) (ha : a < 2 ^ 31 := by omega) (hb : b < 2 ^ 31 := by omega) : (x = y → A) ∧ (¬ x = y → B) := by
  subst hx hy
  rw [nI_eq ha hb]
  exact ⟨f, g⟩
theorem pk_in {x : Int32} (n N : Nat) (h : n < N) (hx : x = nI n := by rfl) (hN : N < 2 ^ 31 := by omega) : vp_in x N := by
  subst hx
  exact vp_in_nI h hN
theorem pk_cl {x : Int32} (n : Nat) (hx : x = nI n := by rfl) (h : n < 2 ^ 31 := by omega) : x.toNatClampNeg = n := by
  subst hx
  exact nI_clamp h
theorem pk_tn {n : Nat} (h : n < 2 ^ 32) : (nI n).toBitVec.toNat = n := Nat.mod_eq_of_lt h
theorem pk_and (x : Int32) {m : Int32} (k : Nat) (hm : m.toBitVec.toNat = 2 ^ k - 1) : x &&& m = nI (x.toBitVec.toNat % 2 ^ k) := by
  apply Int32.toBitVec_inj.mp
  apply BitVec.eq_of_toNat_eq
  rw [Int32.toBitVec_and, BitVec.toNat_and, hm, Nat.and_two_pow_sub_one_eq_mod]
  show _ = (BitVec.ofNat 32 _).toNat
  rw [BitVec.toNat_ofNat]
  exact (Nat.mod_eq_of_lt (Nat.lt_of_le_of_lt (Nat.mod_le _ _) x.toBitVec.isLt)).symm
theorem pk_andN {n : Nat} (h : n < 2 ^ 32) {m : Int32} (k : Nat) (hm : m.toBitVec.toNat = 2 ^ k - 1) : nI n &&& m = nI (n % 2 ^ k) := by
  rw [pk_and _ k hm, pk_tn h]
theorem pk_andE (x : Int32) {m : Int32} (k : Nat) (hm : m.toBitVec.toNat = 2 ^ k - 1) : ∃ j : Nat, j < 2 ^ k ∧ x &&& m = nI j := ⟨_, Nat.mod_lt _ (Nat.two_pow_pos k), pk_and x k hm⟩
theorem pk_shl (a s : Int32) (k : Nat) (hs : (s.toBitVec.smod 32).toNat = k) : (a <<< s).toBitVec.toNat = a.toBitVec.toNat * 2 ^ k % 2 ^ 32 := by
  show (a.toBitVec <<< (s.toBitVec.smod 32).toNat).toNat = _
  rw [hs, BitVec.toNat_shiftLeft, Nat.shiftLeft_eq]
theorem pk_shlN {n : Nat} (s : Int32) (k : Nat) (hs : (s.toBitVec.smod 32).toNat = k) (h : n * 2 ^ k < 2 ^ 32) : nI n <<< s = nI (n * 2 ^ k) := by
  apply Int32.toBitVec_inj.mp
  apply BitVec.eq_of_toNat_eq
  have hn : n < 2 ^ 32 := Nat.lt_of_le_of_lt (Nat.le_mul_of_pos_right n (Nat.two_pow_pos k)) h
  rw [pk_shl _ _ k hs, pk_tn hn, pk_tn h, Nat.mod_eq_of_lt h]
theorem pk_shr (a s : Int32) (k : Nat) (hs : (s.toBitVec.smod 32).toNat = k) : (a >>> s).toInt = a.toInt >>> k := by
  show (a.toBitVec.sshiftRight (s.toBitVec.smod 32).toNat).toInt = _
  rw [hs, BitVec.toInt_sshiftRight]
  rfl
theorem pk_shrN {n : Nat} (h : n < 2 ^ 31) (s : Int32) (k : Nat) (hs : (s.toBitVec.smod 32).toNat = k) : nI n >>> s = nI (n / 2 ^ k) := by
  apply Int32.toInt_inj.mp
  have h2 : n / 2 ^ k ≤ n := Nat.div_le_self _ _
  rw [pk_shr _ _ k hs, nI_toInt h, nI_toInt (by omega), Int.shiftRight_eq_div_pow]
  rfl
theorem pk_nb (z : Int32) : narrow .byte (.int z.toInt8.toInt32) = .int z.toInt8.toInt32 := congrArg Value.int (by simp)
theorem pk_ns (z : Int32) : narrow .short (.int z.toInt16.toInt32) = .int z.toInt16.toInt32 := congrArg Value.int (by simp)
theorem pk_fb (r : Int32) : fits .byte (.int r.toInt8.toInt32) = true := by
  have ⟨a, b⟩ := lg_i2b_range r
  have h1 : (-128 : Int32).toInt = -128 := by decide
  have h2 : (127 : Int32).toInt = 127 := by decide
  simp only [fits, Bool.and_eq_true, decide_eq_true_eq, Int32.le_iff_toInt_le, h1, h2]
  omega
theorem pk_fs (r : Int32) : fits .short (.int r.toInt16.toInt32) = true := by
  have ⟨a, b⟩ := lg_i2s_range r
  have h1 : (-32768 : Int32).toInt = -32768 := by decide
  have h2 : (32767 : Int32).toInt = 32767 := by decide
  simp only [fits, Bool.and_eq_true, decide_eq_true_eq, Int32.le_iff_toInt_le, h1, h2]
  omega
theorem pk_vb (z : Int32) : vp_nar .byte z.toInt8.toInt32 = z.toInt8.toInt32 := by rw [vp_nar_byte]; simp
theorem pk_vs (z : Int32) : vp_nar .short z.toInt16.toInt32 = z.toInt16.toInt32 := by rw [vp_nar_short]; simp
theorem pk_lT {n : Nat} (h : n < 2 ^ 63) : (lN n).toInt = (n : Int) := lg_ofNat_toInt h
theorem pk_lLT {a b : Nat} (ha : a < 2 ^ 63) (hb : b < 2 ^ 63) : lN a < lN b ↔ a < b := by
  rw [Int64.lt_iff_toInt_lt, pk_lT ha, pk_lT hb]; omega
theorem pk_lLE {a b : Nat} (ha : a < 2 ^ 63) (hb : b < 2 ^ 63) : lN a ≤ lN b ↔ a ≤ b := by
  rw [Int64.le_iff_toInt_le, pk_lT ha, pk_lT hb]; omega
theorem pk_lEQ {a b : Nat} (ha : a < 2 ^ 63) (hb : b < 2 ^ 63) : lN a = lN b ↔ a = b := by
  rw [← Int64.toInt_inj, pk_lT ha, pk_lT hb]; omega
theorem pk_loop {σ : Type} (W : Nat → Nat → σ → Prop) (I : Nat → σ → Prop) (e i0 : Nat) (s : σ) (hi : i0 ≤ e) (h0 : I i0 s) (hx : ∀ n s, I e s → W (n + 1) e s)
    (hs : ∀ n i s, i < e → I i s → (∀ s', I (i + 1) s' → W n (i + 1) s') → W (n + 1) i s) : ∃ n, W n i0 s :=
  ⟨e + 1, loop_i W I e hx hs (e + 1) i0 s hi (by omega) h0⟩
theorem pk_loopD {σ : Type} (W : Nat → Nat → σ → Prop) (I : Nat → σ → Prop) (hx : ∀ n s, I 0 s → W (n + 1) 0 s)
    (hs : ∀ n i s, I (i + 1) s → (∀ s', I i s' → W n i s') → W (n + 1) (i + 1) s) : ∀ (e : Nat) (s : σ), I e s → W (e + 1) e s := by
  intro e
  induction e with
  | zero => exact fun s h => hx 0 s h
  | succ e ih => exact fun s h => hs (e + 1) e s h (fun s' h' => ih s' h')
theorem lp1 {A1 : Type} (W : Nat → A1 → Prop) (I : A1 → Prop) (μ : A1 → Nat) (hs : ∀ (n : Nat) (a1 : A1), I a1 → (∀ (b1 : A1), I b1 → μ b1 < μ a1 → W n b1) → W (n + 1) a1) (a1 : A1) (h : I a1) : ∃ n, W n a1 :=
  loop_m (σ := A1) (fun n s => W n s) (fun s => I s) (fun s => μ s) (fun n s hI hk => hs n s hI (fun b1 h9 hm => hk b1 h9 hm)) a1 h
theorem lp2 {A1 A2 : Type} (W : Nat → A1 → A2 → Prop) (I : A1 → A2 → Prop) (μ : A1 → A2 → Nat) (hs : ∀ (n : Nat) (a1 : A1) (a2 : A2), I a1 a2 → (∀ (b1 : A1) (b2 : A2), I b1 b2 → μ b1 b2 < μ a1 a2 → W n b1 b2) → W (n + 1) a1 a2) (a1 : A1) (a2 : A2) (h : I a1 a2) : ∃ n, W n a1 a2 :=
  loop_m (σ := A1 × A2) (fun n s => W n s.1 s.2) (fun s => I s.1 s.2) (fun s => μ s.1 s.2) (fun n s hI hk => hs n s.1 s.2 hI (fun b1 b2 h9 hm => hk (b1, b2) h9 hm)) (a1, a2) h
theorem lp3 {A1 A2 A3 : Type} (W : Nat → A1 → A2 → A3 → Prop) (I : A1 → A2 → A3 → Prop) (μ : A1 → A2 → A3 → Nat) (hs : ∀ (n : Nat) (a1 : A1) (a2 : A2) (a3 : A3), I a1 a2 a3 → (∀ (b1 : A1) (b2 : A2) (b3 : A3), I b1 b2 b3 → μ b1 b2 b3 < μ a1 a2 a3 → W n b1 b2 b3) → W (n + 1) a1 a2 a3) (a1 : A1) (a2 : A2) (a3 : A3) (h : I a1 a2 a3) : ∃ n, W n a1 a2 a3 :=
  loop_m (σ := A1 × A2 × A3) (fun n s => W n s.1 s.2.1 s.2.2) (fun s => I s.1 s.2.1 s.2.2) (fun s => μ s.1 s.2.1 s.2.2) (fun n s hI hk => hs n s.1 s.2.1 s.2.2 hI (fun b1 b2 b3 h9 hm => hk (b1, b2, b3) h9 hm)) (a1, a2, a3) h
theorem lp4 {A1 A2 A3 A4 : Type} (W : Nat → A1 → A2 → A3 → A4 → Prop) (I : A1 → A2 → A3 → A4 → Prop) (μ : A1 → A2 → A3 → A4 → Nat) (hs : ∀ (n : Nat) (a1 : A1) (a2 : A2) (a3 : A3) (a4 : A4), I a1 a2 a3 a4 → (∀ (b1 : A1) (b2 : A2) (b3 : A3) (b4 : A4), I b1 b2 b3 b4 → μ b1 b2 b3 b4 < μ a1 a2 a3 a4 → W n b1 b2 b3 b4) → W (n + 1) a1 a2 a3 a4) (a1 : A1) (a2 : A2) (a3 : A3) (a4 : A4) (h : I a1 a2 a3 a4) : ∃ n, W n a1 a2 a3 a4 :=
  loop_m (σ := A1 × A2 × A3 × A4) (fun n s => W n s.1 s.2.1 s.2.2.1 s.2.2.2) (fun s => I s.1 s.2.1 s.2.2.1 s.2.2.2) (fun s => μ s.1 s.2.1 s.2.2.1 s.2.2.2) (fun n s hI hk => hs n s.1 s.2.1 s.2.2.1 s.2.2.2 hI (fun b1 b2 b3 b4 h9 hm => hk (b1, b2, b3, b4) h9 hm)) (a1, a2, a3, a4) h
theorem lp5 {A1 A2 A3 A4 A5 : Type} (W : Nat → A1 → A2 → A3 → A4 → A5 → Prop) (I : A1 → A2 → A3 → A4 → A5 → Prop) (μ : A1 → A2 → A3 → A4 → A5 → Nat) (hs : ∀ (n : Nat) (a1 : A1) (a2 : A2) (a3 : A3) (a4 : A4) (a5 : A5), I a1 a2 a3 a4 a5 → (∀ (b1 : A1) (b2 : A2) (b3 : A3) (b4 : A4) (b5 : A5), I b1 b2 b3 b4 b5 → μ b1 b2 b3 b4 b5 < μ a1 a2 a3 a4 a5 → W n b1 b2 b3 b4 b5) → W (n + 1) a1 a2 a3 a4 a5) (a1 : A1) (a2 : A2) (a3 : A3) (a4 : A4) (a5 : A5) (h : I a1 a2 a3 a4 a5) : ∃ n, W n a1 a2 a3 a4 a5 :=
  loop_m (σ := A1 × A2 × A3 × A4 × A5) (fun n s => W n s.1 s.2.1 s.2.2.1 s.2.2.2.1 s.2.2.2.2) (fun s => I s.1 s.2.1 s.2.2.1 s.2.2.2.1 s.2.2.2.2) (fun s => μ s.1 s.2.1 s.2.2.1 s.2.2.2.1 s.2.2.2.2) (fun n s hI hk => hs n s.1 s.2.1 s.2.2.1 s.2.2.2.1 s.2.2.2.2 hI (fun b1 b2 b3 b4 b5 h9 hm => hk (b1, b2, b3, b4, b5) h9 hm)) (a1, a2, a3, a4, a5) h
theorem lp6 {A1 A2 A3 A4 A5 A6 : Type} (W : Nat → A1 → A2 → A3 → A4 → A5 → A6 → Prop) (I : A1 → A2 → A3 → A4 → A5 → A6 → Prop) (μ : A1 → A2 → A3 → A4 → A5 → A6 → Nat) (hs : ∀ (n : Nat) (a1 : A1) (a2 : A2) (a3 : A3) (a4 : A4) (a5 : A5) (a6 : A6), I a1 a2 a3 a4 a5 a6 → (∀ (b1 : A1) (b2 : A2) (b3 : A3) (b4 : A4) (b5 : A5) (b6 : A6), I b1 b2 b3 b4 b5 b6 → μ b1 b2 b3 b4 b5 b6 < μ a1 a2 a3 a4 a5 a6 → W n b1 b2 b3 b4 b5 b6) → W (n + 1) a1 a2 a3 a4 a5 a6) (a1 : A1) (a2 : A2) (a3 : A3) (a4 : A4) (a5 : A5) (a6 : A6) (h : I a1 a2 a3 a4 a5 a6) : ∃ n, W n a1 a2 a3 a4 a5 a6 :=
  loop_m (σ := A1 × A2 × A3 × A4 × A5 × A6) (fun n s => W n s.1 s.2.1 s.2.2.1 s.2.2.2.1 s.2.2.2.2.1 s.2.2.2.2.2) (fun s => I s.1 s.2.1 s.2.2.1 s.2.2.2.1 s.2.2.2.2.1 s.2.2.2.2.2) (fun s => μ s.1 s.2.1 s.2.2.1 s.2.2.2.1 s.2.2.2.2.1 s.2.2.2.2.2) (fun n s hI hk => hs n s.1 s.2.1 s.2.2.1 s.2.2.2.1 s.2.2.2.2.1 s.2.2.2.2.2 hI (fun b1 b2 b3 b4 b5 b6 h9 hm => hk (b1, b2, b3, b4, b5, b6) h9 hm)) (a1, a2, a3, a4, a5, a6) h
end
section
/-! THE CHECK, PURE. Kinds: 0 unset, 1 number, 2 reference; a cell's bits: 1 number, 2 reference, 4 unset.
 Small steps: 1, 2 take a number, a reference; 3 take either; 4, 5 add a number, a reference; 6, 7 load a local; 8, 9 store into a local; 10 dup -/
def ck_un (f : Nat → Nat) (i v : Nat) : Nat → Nat := fun j => if j = i then v else f j
theorem ck_us {f : Nat → Nat} {i v : Nat} : ck_un f i v i = v := if_pos rfl
theorem ck_uo {f : Nat → Nat} {i v j : Nat} (h : j ≠ i) : ck_un f i v j = f j := if_neg h
abbrev ck_bit (c : Nat) : Nat := if c = 0 then 4 else c
abbrev ck_has (m c : Nat) : Prop := c < 3 ∧ m &&& ck_bit c ≠ 0
def ck_ok (p d : Nat) : Prop := if p ≤ 3 then 0 < d else if p ≤ 7 then d < 4 else if p ≤ 9 then 0 < d else (0 < d ∧ d < 4)
def ck_nd (p d : Nat) : Nat := if p ≤ 3 then d - 1 else if p ≤ 7 then d + 1 else if p ≤ 9 then d - 1 else d + 1
def ck_ce (p d : Nat) : Nat := if p ≤ 3 then d + 1 else if p ≤ 5 then 0 else if p ≤ 7 then p - 6 else d + 1
def ck_al (p c : Nat) : Prop := if p = 1 then c = 1 else if p = 2 then c = 2 else if p = 6 then c ≠ 0 else if p = 7 then c ≠ 0 else True
def ck_k (p d : Nat) (f : Nat → Nat) : Nat → Nat :=
  if p ≤ 3 then f else if p ≤ 5 then ck_un f (d + 2) (p - 3) else if p ≤ 7 then ck_un f (d + 2) (f (p - 6)) else if p ≤ 9 then ck_un f (p - 8) (f (d + 1)) else ck_un f (d + 2) (f (d + 1))
def ck_o1 (p d : Nat) (f : Nat → Nat) : Prop := ck_ok p d ∧ ck_al p (f (ck_ce p d))
def ck_b1 (p d : Nat) (K : Nat → Nat) : Prop := ck_ok p d ∧ ∀ c, ck_has (K (ck_ce p d)) c → ck_al p c
def ck_rd : List Nat → Nat → Nat
  | [], d => d
  | p :: L, d => ck_rd L (ck_nd p d)
def ck_rk : List Nat → Nat → (Nat → Nat) → (Nat → Nat)
  | [], _, f => f
  | p :: L, d, f => ck_rk L (ck_nd p d) (ck_k p d f)
def ck_os : List Nat → Nat → (Nat → Nat) → Prop
  | [], _, _ => True
  | p :: L, d, f => ck_o1 p d f ∧ ck_os L (ck_nd p d) (ck_k p d f)
def ck_bs : List Nat → Nat → (Nat → Nat) → Prop
  | [], _, _ => True
  | p :: L, d, f => ck_b1 p d f ∧ ck_bs L (ck_nd p d) (ck_k p d f)
def ck_in (d : Nat) (K f : Nat → Nat) : Prop := ∀ j, j < d + 2 → ck_has (K j) (f j)
def ck_wi (d : Nat) (K : Nat → Nat) (S : (Nat → Nat) → Prop) : Prop := ∀ j, j < d + 2 → ∀ c, ck_has (K j) c → ∃ f, S f ∧ f j = c
def ck_pr (L : List Nat) : Prop := ∀ p, p ∈ L → 1 ≤ p ∧ p ≤ 10
theorem ck_ce_lt {p d : Nat} (hp : 1 ≤ p ∧ p ≤ 10) (h : ck_ok p d) : ck_ce p d < d + 2 := by
  obtain ⟨h1, h10⟩ := hp
  unfold ck_ce
  repeat' split
  all_goals omega
theorem ck_s1 {p d : Nat} {K f : Nat → Nat} (hp : 1 ≤ p ∧ p ≤ 10) (hb : ck_b1 p d K) (hi : ck_in d K f) : ck_o1 p d f ∧ ck_in (ck_nd p d) (ck_k p d K) (ck_k p d f) := by
  refine ⟨⟨hb.1, hb.2 _ (hi _ (ck_ce_lt hp hb.1))⟩, ?_⟩
  have ho := hb.1
  intro j hj
  obtain ⟨p1, p10⟩ := hp
  unfold ck_ok at ho
  unfold ck_nd at hj
  unfold ck_k
  by_cases c3 : p ≤ 3
  · simp only [c3, ↓reduceIte] at ho hj ⊢
    exact hi j (by omega)
  · simp only [c3, ↓reduceIte] at ho hj ⊢
    by_cases c5 : p ≤ 5
    · have c7 : p ≤ 7 := by omega
      simp only [c5, c7, ↓reduceIte] at ho hj ⊢
      by_cases e : j = d + 2
      · subst e
        rw [ck_us, ck_us]
        obtain rfl | rfl : p = 4 ∨ p = 5 := by omega
        · decide
        · decide
      · rw [ck_uo e, ck_uo e]
        exact hi j (by omega)
    · simp only [c5, ↓reduceIte] at ho hj ⊢
      by_cases c7 : p ≤ 7
      · simp only [c7, ↓reduceIte] at ho hj ⊢
        by_cases e : j = d + 2
        · subst e
          rw [ck_us, ck_us]
          exact hi (p - 6) (by omega)
        · rw [ck_uo e, ck_uo e]
          exact hi j (by omega)
      · simp only [c7, ↓reduceIte] at ho hj ⊢
        by_cases c9 : p ≤ 9
        · simp only [c9, ↓reduceIte] at ho hj ⊢
          by_cases e : j = p - 8
          · subst e
            rw [ck_us, ck_us]
            exact hi (d + 1) (by omega)
          · rw [ck_uo e, ck_uo e]
            exact hi j (by omega)
        · simp only [c9, ↓reduceIte] at ho hj ⊢
          by_cases e : j = d + 2
          · subst e
            rw [ck_us, ck_us]
            exact hi (d + 1) (by omega)
          · rw [ck_uo e, ck_uo e]
            exact hi j (by omega)
theorem ck_hc {p c : Nat} (hp : p = 4 ∨ p = 5) (h : ck_has (p - 3) c) : c = p - 3 := by
  obtain ⟨h3, hx⟩ := h
  obtain rfl | rfl | rfl : c = 0 ∨ c = 1 ∨ c = 2 := by omega
  all_goals (rcases hp with rfl | rfl <;> first | rfl | exact absurd (by decide) hx)
theorem ck_w1 {p d : Nat} {K : Nat → Nat} {S : (Nat → Nat) → Prop} (hp : 1 ≤ p ∧ p ≤ 10) (hn : ∃ f, S f) (hw : ck_wi d K S) (ho : ∀ f, S f → ck_o1 p d f) : ck_b1 p d K ∧ ck_wi (ck_nd p d) (ck_k p d K) (fun g => ∃ f, S f ∧ g = ck_k p d f) := by
  obtain ⟨f0, h0⟩ := hn
  have hd : ck_ok p d := (ho f0 h0).1
  have hc := ck_ce_lt hp hd
  refine ⟨⟨hd, fun c hcc => ?_⟩, ?_⟩
  · obtain ⟨f, hf, e⟩ := hw _ hc c hcc
    rw [← e]
    exact (ho f hf).2
  · intro j hj c hcc
    suffices H : ∃ f, S f ∧ (ck_k p d f) j = c by
      obtain ⟨f, hf, e⟩ := H
      exact ⟨_, ⟨f, hf, rfl⟩, e⟩
    obtain ⟨p1, p10⟩ := hp
    unfold ck_ok at hd
    unfold ck_nd at hj
    unfold ck_k at hcc ⊢
    by_cases c3 : p ≤ 3
    · simp only [c3, ↓reduceIte] at hd hj hcc ⊢
      exact hw j (by omega) c hcc
    · simp only [c3, ↓reduceIte] at hd hj hcc ⊢
      by_cases c5 : p ≤ 5
      · have c7 : p ≤ 7 := by omega
        simp only [c5, c7, ↓reduceIte] at hd hj hcc ⊢
        by_cases e : j = d + 2
        · subst e
          rw [ck_us] at hcc
          exact ⟨f0, h0, by rw [ck_us, ck_hc (by omega) hcc]⟩
        · rw [ck_uo e] at hcc
          obtain ⟨f, hf, e'⟩ := hw j (by omega) c hcc
          exact ⟨f, hf, by rw [ck_uo e, e']⟩
      · simp only [c5, ↓reduceIte] at hd hj hcc ⊢
        by_cases c7 : p ≤ 7
        · simp only [c7, ↓reduceIte] at hd hj hcc ⊢
          by_cases e : j = d + 2
          · subst e
            rw [ck_us] at hcc
            obtain ⟨f, hf, e'⟩ := hw (p - 6) (by omega) c hcc
            exact ⟨f, hf, by rw [ck_us, e']⟩
          · rw [ck_uo e] at hcc
            obtain ⟨f, hf, e'⟩ := hw j (by omega) c hcc
            exact ⟨f, hf, by rw [ck_uo e, e']⟩
        · simp only [c7, ↓reduceIte] at hd hj hcc ⊢
          by_cases c9 : p ≤ 9
          · simp only [c9, ↓reduceIte] at hd hj hcc ⊢
            by_cases e : j = p - 8
            · subst e
              rw [ck_us] at hcc
              obtain ⟨f, hf, e'⟩ := hw (d + 1) (by omega) c hcc
              exact ⟨f, hf, by rw [ck_us, e']⟩
            · rw [ck_uo e] at hcc
              obtain ⟨f, hf, e'⟩ := hw j (by omega) c hcc
              exact ⟨f, hf, by rw [ck_uo e, e']⟩
          · simp only [c9, ↓reduceIte] at hd hj hcc ⊢
            by_cases e : j = d + 2
            · subst e
              rw [ck_us] at hcc
              obtain ⟨f, hf, e'⟩ := hw (d + 1) (by omega) c hcc
              exact ⟨f, hf, by rw [ck_us, e']⟩
            · rw [ck_uo e] at hcc
              obtain ⟨f, hf, e'⟩ := hw j (by omega) c hcc
              exact ⟨f, hf, by rw [ck_uo e, e']⟩
theorem ck_sL : ∀ (L : List Nat) (d : Nat) (K f : Nat → Nat), ck_pr L → ck_bs L d K → ck_in d K f → ck_os L d f ∧ ck_in (ck_rd L d) (ck_rk L d K) (ck_rk L d f)
  | [], _, _, _, _, _, hi => ⟨trivial, hi⟩
  | p :: L, d, K, f, hp, hb, hi => by
    obtain ⟨h1, h2⟩ := ck_s1 (hp p (List.mem_cons_self ..)) hb.1 hi
    obtain ⟨h3, h4⟩ := ck_sL L _ _ _ (fun q hq => hp q (List.mem_cons_of_mem _ hq)) hb.2 h2
    exact ⟨⟨h1, h3⟩, h4⟩
theorem ck_wL : ∀ (L : List Nat) (d : Nat) (K : Nat → Nat) (S : (Nat → Nat) → Prop), ck_pr L → (∃ f, S f) → ck_wi d K S → (∀ f, S f → ck_os L d f) → ck_bs L d K ∧ ck_wi (ck_rd L d) (ck_rk L d K) (fun g => ∃ f, S f ∧ g = ck_rk L d f)
  | [], _, _, _, _, _, hw, _ => ⟨trivial, fun j hj c hc => by
      obtain ⟨f, hf, e⟩ := hw j hj c hc
      exact ⟨f, ⟨f, hf, rfl⟩, e⟩⟩
  | p :: L, d, K, S, hp, hn, hw, ho => by
    obtain ⟨h1, h2⟩ := ck_w1 (hp p (List.mem_cons_self ..)) hn hw (fun f hf => (ho f hf).1)
    obtain ⟨f0, h0⟩ := hn
    obtain ⟨h3, h4⟩ := ck_wL L _ _ _ (fun q hq => hp q (List.mem_cons_of_mem _ hq)) ⟨_, f0, h0, rfl⟩ h2 (fun g hg => by
      obtain ⟨f, hf, e⟩ := hg
      rw [e]
      exact (ho f hf).2)
    refine ⟨⟨h1, h3⟩, fun j hj c hc => ?_⟩
    obtain ⟨g, ⟨f', ⟨f, hf, e1⟩, e2⟩, e⟩ := h4 j hj c hc
    subst e1
    exact ⟨g, ⟨f, hf, e2⟩, e⟩
/-! the instructions' small steps -/
def ck_pg (o b : Nat) : List Nat := match o with
  | 0 => [4]
  | 1 => [6 + b]
  | 2 => [8 + b]
  | 3 => [1, 1, 4]
  | 4 => [1, 1, 4]
  | 5 => [1, 1, 4]
  | 6 => [1, 1, 4]
  | 7 => []
  | 8 => [1]
  | 9 => [5]
  | 10 => [2]
  | 11 => [1, 5]
  | 12 => [1, 2, 4]
  | 13 => [1, 1, 2]
  | 14 => [2]
  | 15 => [2, 4]
  | 16 => [5]
  | 17 => [5]
  | 18 => [1, 4]
  | 19 => [1]
  | 20 => [10]
  | 21 => [3]
  | _ => []
theorem ck_25 {o : Nat} (h : o < 25) : o = 0 ∨ o = 1 ∨ o = 2 ∨ o = 3 ∨ o = 4 ∨ o = 5 ∨ o = 6 ∨ o = 7 ∨ o = 8 ∨ o = 9 ∨ o = 10 ∨ o = 11 ∨ o = 12 ∨ o = 13 ∨ o = 14 ∨ o = 15 ∨ o = 16 ∨ o = 17 ∨ o = 18 ∨ o = 19 ∨ o = 20 ∨ o = 21 ∨ o = 22 ∨ o = 23 ∨ o = 24 := by omega
theorem ck_pr_pg {o b : Nat} (h : o < 25) (hb : o = 1 ∨ o = 2 → b ≤ 1) : ck_pr (ck_pg o b) := by
  intro p hp
  rcases ck_25 h with rfl | rfl | rfl | rfl | rfl | rfl | rfl | rfl | rfl | rfl | rfl | rfl | rfl | rfl | rfl | rfl | rfl | rfl | rfl | rfl | rfl | rfl | rfl | rfl | rfl
  all_goals (simp only [ck_pg, List.mem_cons, List.not_mem_nil, or_false] at hp)
  all_goals first | omega | exact absurd hp (by simp)
/-! a closed set of states; a good code; a typed state -/
def ck_cl (op b : Nat → Nat) (n : Nat) (M : Nat → Nat → (Nat → Nat) → Prop) : Prop :=
  ∀ k d f, M k d f → k < n ∧ ck_os (ck_pg (op k) (b k)) d f ∧ ((op k = 7 ∨ op k = 8) → M (b k) (ck_rd (ck_pg (op k) (b k)) d) (ck_rk (ck_pg (op k) (b k)) d f)) ∧ ((op k ≠ 7 ∧ op k ≠ 19) → M (k + 1) (ck_rd (ck_pg (op k) (b k)) d) (ck_rk (ck_pg (op k) (b k)) d f))
def ck_f0 : Nat → Nat := fun j => if j = 0 then 1 else 0
def ck_good (op b : Nat → Nat) (n : Nat) : Prop :=
  ∃ M, M 0 0 ck_f0 ∧ ck_cl op b n M ∧ ∀ k d f d' f', M k d f → M k d' f' → d = d'
def ck_ty (op b : Nat → Nat) (n k d : Nat) (f : Nat → Nat) : Prop := ∃ M, ck_cl op b n M ∧ M k d f
theorem ck_ty0 {op b : Nat → Nat} {n : Nat} (h : ck_good op b n) : ck_ty op b n 0 0 ck_f0 := by
  obtain ⟨M, h0, hc, _⟩ := h
  exact ⟨M, hc, h0⟩
theorem ck_ty_s {op b : Nat → Nat} {n k d : Nat} {f : Nat → Nat} (h : ck_ty op b n k d f) : k < n ∧ ck_os (ck_pg (op k) (b k)) d f ∧ ((op k = 7 ∨ op k = 8) → ck_ty op b n (b k) (ck_rd (ck_pg (op k) (b k)) d) (ck_rk (ck_pg (op k) (b k)) d f)) ∧ ((op k ≠ 7 ∧ op k ≠ 19) → ck_ty op b n (k + 1) (ck_rd (ck_pg (op k) (b k)) d) (ck_rk (ck_pg (op k) (b k)) d f)) := by
  obtain ⟨M, hc, hM⟩ := h
  obtain ⟨h1, h2, h3, h4⟩ := hc k d f hM
  exact ⟨h1, h2, fun z => ⟨M, hc, h3 z⟩, fun z => ⟨M, hc, h4 z⟩⟩
/-! a table that is closed gives a good code -/
def ck_sub (n : Nat) (D W : Nat → Nat) (s d : Nat) (K : Nat → Nat) : Prop := s < n ∧ D s = d + 1 ∧ ∀ j, j < d + 2 → ∀ c, ck_has (K j) c → ck_has (W (6 * s + j)) c
theorem ck_xg {op b : Nat → Nat} {n : Nat} {D W : Nat → Nat} (hn : 0 < n) (hp : ∀ k, k < n → ck_pr (ck_pg (op k) (b k))) (h0 : D 0 = 1) (hw0 : ck_has (W 0) 1) (hw1 : ck_has (W 1) 0)
    (hc : ∀ k, k < n → ∀ d, D k = d + 1 → ck_bs (ck_pg (op k) (b k)) d (fun j => W (6 * k + j)) ∧ ((op k = 7 ∨ op k = 8) → ck_sub n D W (b k) (ck_rd (ck_pg (op k) (b k)) d) (ck_rk (ck_pg (op k) (b k)) d (fun j => W (6 * k + j)))) ∧ ((op k ≠ 7 ∧ op k ≠ 19) → ck_sub n D W (k + 1) (ck_rd (ck_pg (op k) (b k)) d) (ck_rk (ck_pg (op k) (b k)) d (fun j => W (6 * k + j))))) : ck_good op b n := by
  refine ⟨fun k d f => k < n ∧ D k = d + 1 ∧ ck_in d (fun j => W (6 * k + j)) f, ⟨hn, h0, ?_⟩, ?_, ?_⟩
  · intro j hj
    obtain rfl | rfl : j = 0 ∨ j = 1 := by omega
    · exact hw0
    · exact hw1
  · intro k d f hM
    obtain ⟨hk, hd, hi⟩ := hM
    obtain ⟨h1, h2, h3⟩ := hc k hk d hd
    obtain ⟨h4, h5⟩ := ck_sL _ _ _ _ (hp k hk) h1 hi
    refine ⟨hk, h4, fun z => ?_, fun z => ?_⟩
    · obtain ⟨a1, a2, a3⟩ := h2 z
      exact ⟨a1, a2, fun j hj => a3 j hj _ (h5 j hj)⟩
    · obtain ⟨a1, a2, a3⟩ := h3 z
      exact ⟨a1, a2, fun j hj => a3 j hj _ (h5 j hj)⟩
  · intro k d f d' f' h1 h2
    have e1 := h1.2.1
    have e2 := h2.2.1
    omega
end
section
/-! COUNTING: a pass that changes the table adds to a measure of at most 144 -/
def ck_sm (f : Nat → Nat) : Nat → Nat
  | 0 => 0
  | n + 1 => ck_sm f n + f n
theorem ck_sm_le {f g : Nat → Nat} : ∀ n, (∀ i, i < n → f i ≤ g i) → ck_sm f n ≤ ck_sm g n
  | 0, _ => Nat.le_refl 0
  | n + 1, h => Nat.add_le_add (ck_sm_le n (fun i hi => h i (by omega))) (h n (by omega))
theorem ck_sm_lt {f g : Nat → Nat} : ∀ n, (∀ i, i < n → f i ≤ g i) → ∀ i, i < n → f i < g i → ck_sm f n < ck_sm g n
  | 0, _, i, hi, _ => absurd hi (Nat.not_lt_zero i)
  | n + 1, h, i, hi, hl => by
    have hn := h n (by omega)
    by_cases e : i = n
    · subst e
      have := ck_sm_le (f := f) (g := g) i (fun j hj => h j (by omega))
      show ck_sm f i + f i < ck_sm g i + g i
      omega
    · have := ck_sm_lt (f := f) (g := g) n (fun j hj => h j (by omega)) i (by omega) hl
      show ck_sm f n + f n < ck_sm g n + g n
      omega
theorem ck_sm_eq {f g : Nat → Nat} : ∀ n, (∀ i, i < n → f i = g i) → ck_sm f n = ck_sm g n
  | 0, _ => rfl
  | n + 1, h => by
    show ck_sm f n + f n = ck_sm g n + g n
    rw [ck_sm_eq n (fun i hi => h i (by omega)), h n (by omega)]
def ck_pw (m : Nat) : Nat := if m = 3 ∨ m = 5 ∨ m = 6 then 1 else if m = 7 then 2 else 0
theorem ck_pw_or : ∀ a, a < 8 → ∀ b, b < 8 → ck_pw a ≤ ck_pw (a ||| b) ∧ (a ≠ 0 → a ||| b ≠ a → ck_pw a < ck_pw (a ||| b)) ∧ a ||| b < 8 := by decide +kernel
theorem ck_or4 : ∀ a, a < 4 → ∀ b, b < 4 → a ||| b < 4 := by decide +kernel
theorem ck_orn : ∀ a, a < 8 → ∀ b, b < 8 → b ≠ 0 → a ||| b ≠ 0 := by decide +kernel
theorem ck_pw8 : ∀ a, a < 8 → ck_pw a ≤ 2 := by decide +kernel
theorem ck_pw4 : ∀ a, a < 4 → ck_pw a ≤ 1 := by decide +kernel
def ck_mu (D W : Nat → Nat) : Nat := ck_sm (fun k => if D k = 0 then 0 else 1) 16 + ck_sm (fun i => ck_pw (W i)) 96
def ck_wb (W : Nat → Nat) : Prop := ∀ i, W i < 8 ∧ (2 ≤ i % 6 → W i < 4)
theorem ck_mu_le {D W : Nat → Nat} (h : ck_wb W) : ck_mu D W ≤ 144 := by
  have h1 : ck_sm (fun k => if D k = 0 then 0 else 1) 16 ≤ ck_sm (fun _ => 1) 16 := ck_sm_le 16 (fun i _ => by
    show (if D i = 0 then 0 else 1) ≤ 1
    split <;> omega)
  have h2 : ck_sm (fun i => ck_pw (W i)) 96 ≤ ck_sm (fun i => if i % 6 < 2 then 2 else 1) 96 := ck_sm_le 96 (fun i _ => by
    show ck_pw (W i) ≤ if i % 6 < 2 then 2 else 1
    split
    · exact ck_pw8 _ (h i).1
    · exact ck_pw4 _ ((h i).2 (by omega)))
  have e1 : ck_sm (fun _ => 1) 16 = 16 := by decide +kernel
  have e2 : ck_sm (fun i => if i % 6 < 2 then 2 else 1) 96 = 128 := by decide +kernel
  unfold ck_mu
  omega
/-- one arrival: the table after it, against the table before it -/
theorem ck_mu_mono {D D' W W' : Nat → Nat} (hD : ∀ k, k < 16 → D k ≠ 0 → D' k ≠ 0) (hW : ∀ i, i < 96 → ck_pw (W i) ≤ ck_pw (W' i)) : ck_mu D W ≤ ck_mu D' W' := by
  have h1 : ck_sm (fun k => if D k = 0 then 0 else 1) 16 ≤ ck_sm (fun k => if D' k = 0 then 0 else 1) 16 := ck_sm_le 16 (fun i hi => by
    show (if D i = 0 then 0 else 1) ≤ if D' i = 0 then 0 else 1
    by_cases e : D i = 0
    · rw [if_pos e]
      exact Nat.zero_le _
    · rw [if_neg e, if_neg (hD i hi e)]
      exact Nat.le_refl 1)
  have h2 : ck_sm (fun i => ck_pw (W i)) 96 ≤ ck_sm (fun i => ck_pw (W' i)) 96 := ck_sm_le 96 hW
  unfold ck_mu
  omega
theorem ck_mu_d {D D' W W' : Nat → Nat} (hD : ∀ k, k < 16 → D k ≠ 0 → D' k ≠ 0) (hW : ∀ i, i < 96 → ck_pw (W i) ≤ ck_pw (W' i)) {k : Nat} (hk : k < 16) (h0 : D k = 0) (h1 : D' k ≠ 0) : ck_mu D W < ck_mu D' W' := by
  have h2 : ck_sm (fun k => if D k = 0 then 0 else 1) 16 < ck_sm (fun k => if D' k = 0 then 0 else 1) 16 := ck_sm_lt 16 (fun i hi => by
    show (if D i = 0 then 0 else 1) ≤ if D' i = 0 then 0 else 1
    by_cases e : D i = 0
    · rw [if_pos e]
      exact Nat.zero_le _
    · rw [if_neg e, if_neg (hD i hi e)]
      exact Nat.le_refl 1) k hk (by
    show (if D k = 0 then 0 else 1) < if D' k = 0 then 0 else 1
    rw [if_pos h0, if_neg h1]
    exact Nat.zero_lt_one)
  have h3 : ck_sm (fun i => ck_pw (W i)) 96 ≤ ck_sm (fun i => ck_pw (W' i)) 96 := ck_sm_le 96 hW
  unfold ck_mu
  omega
theorem ck_mu_w {D W W' : Nat → Nat} (hW : ∀ i, i < 96 → ck_pw (W i) ≤ ck_pw (W' i)) {i : Nat} (hi : i < 96) (h : ck_pw (W i) < ck_pw (W' i)) : ck_mu D W < ck_mu D W' := by
  have h3 : ck_sm (fun i => ck_pw (W i)) 96 < ck_sm (fun i => ck_pw (W' i)) 96 := ck_sm_lt 96 hW i hi h
  unfold ck_mu
  omega
/-! THE REFERENCE'S NUMBERS: a stack as bits under a leading 1, the locals as two digits of base 3 -/
def ck_yo (p st lo : Nat) : Prop := if p = 1 then 2 ≤ st ∧ st % 2 = 0 else if p = 2 then 2 ≤ st ∧ st % 2 = 1 else if p = 3 then 2 ≤ st else if p ≤ 5 then st < 16 else if p = 6 then lo % 3 ≠ 0 ∧ st < 16 else if p = 7 then lo / 3 ≠ 0 ∧ st < 16 else if p ≤ 9 then 2 ≤ st else 2 ≤ st ∧ st < 16
def ck_ys (p st lo : Nat) : Nat := if p ≤ 3 then st / 2 else if p = 4 then 2 * st else if p = 5 then 2 * st + 1 else if p = 6 then 2 * st + (lo % 3 - 1) else if p = 7 then 2 * st + (lo / 3 - 1) else if p ≤ 9 then st / 2 else 2 * st + st % 2
def ck_yl (p st lo : Nat) : Nat := if p = 8 then lo / 3 * 3 + (st % 2 + 1) else if p = 9 then lo % 3 + 3 * (st % 2 + 1) else lo
def ck_yos : List Nat → Nat → Nat → Prop
  | [], _, _ => True
  | p :: L, st, lo => ck_yo p st lo ∧ ck_yos L (ck_ys p st lo) (ck_yl p st lo)
def ck_yrs : List Nat → Nat → Nat → Nat
  | [], st, _ => st
  | p :: L, st, lo => ck_yrs L (ck_ys p st lo) (ck_yl p st lo)
def ck_yrl : List Nat → Nat → Nat → Nat
  | [], _, lo => lo
  | p :: L, st, lo => ck_yrl L (ck_ys p st lo) (ck_yl p st lo)
def ck_va (d : Nat) (f : Nat → Nat) : Prop := d ≤ 4 ∧ f 0 < 3 ∧ f 1 < 3 ∧ ∀ j, 2 ≤ j → j < d + 2 → f j = 1 ∨ f j = 2
def ck_st (f : Nat → Nat) : Nat → Nat
  | 0 => 1
  | d + 1 => 2 * ck_st f d + (f (d + 2) - 1)
def ck_lo (f : Nat → Nat) : Nat := f 0 + 3 * f 1
theorem ck_st_un {f : Nat → Nat} {i v : Nat} : ∀ d, (d + 2 ≤ i ∨ i < 2) → ck_st (ck_un f i v) d = ck_st f d
  | 0, _ => rfl
  | d + 1, h => by
    show 2 * ck_st (ck_un f i v) d + (ck_un f i v (d + 2) - 1) = 2 * ck_st f d + (f (d + 2) - 1)
    rw [ck_st_un d (by omega), ck_uo (by omega)]
theorem ck_st_lt {f : Nat → Nat} : ∀ d, (∀ j, 2 ≤ j → j < d + 2 → f j = 1 ∨ f j = 2) → 2 ^ d ≤ ck_st f d ∧ ck_st f d < 2 ^ (d + 1)
  | 0, _ => ⟨Nat.le_refl 1, by show 1 < 2 ^ (0 + 1); decide⟩
  | d + 1, h => by
    obtain ⟨h1, h2⟩ := ck_st_lt (f := f) d (fun j a b => h j a (by omega))
    have h3 := h (d + 2) (by omega) (by omega)
    show 2 ^ (d + 1) ≤ 2 * ck_st f d + (f (d + 2) - 1) ∧ 2 * ck_st f d + (f (d + 2) - 1) < 2 ^ (d + 1 + 1)
    rw [Nat.pow_succ 2 (d + 1)]
    rw [Nat.pow_succ] at h2 ⊢
    omega
theorem ck_stb {d : Nat} {f : Nat → Nat} (h : ck_va d f) : 1 ≤ ck_st f d ∧ (2 ≤ ck_st f d ↔ 0 < d) ∧ (ck_st f d < 16 ↔ d < 4) ∧ ck_st f d < 32 := by
  obtain ⟨h4, _, _, hj⟩ := h
  obtain ⟨h1, h2⟩ := ck_st_lt d hj
  obtain rfl | rfl | rfl | rfl | rfl : d = 0 ∨ d = 1 ∨ d = 2 ∨ d = 3 ∨ d = 4 := by omega
  all_goals (simp only [Nat.reducePow, Nat.reduceAdd] at h1 h2; omega)
theorem ck_st_s {d : Nat} {f : Nat → Nat} (h : ck_va d f) (hd : 0 < d) : ck_st f d / 2 = ck_st f (d - 1) ∧ ck_st f d % 2 = f (d + 1) - 1 ∧ (f (d + 1) = 1 ∨ f (d + 1) = 2) := by
  obtain ⟨e, rfl⟩ : ∃ e, d = e + 1 := ⟨d - 1, by omega⟩
  have h3 := h.2.2.2 (e + 2) (by omega) (by omega)
  have e1 : ck_st f (e + 1) = 2 * ck_st f e + (f (e + 2) - 1) := rfl
  have e2 : e + 1 - 1 = e := by omega
  have e3 : e + 1 + 1 = e + 2 := rfl
  rw [e1, e2, e3]
  omega
theorem ck_st_p {d v : Nat} {f : Nat → Nat} : ck_st (ck_un f (d + 2) v) (d + 1) = 2 * ck_st f d + (v - 1) := by
  show 2 * ck_st (ck_un f (d + 2) v) d + (ck_un f (d + 2) v (d + 2) - 1) = _
  rw [ck_st_un d (by omega), ck_us]
theorem ck_lo_p {i v : Nat} {f : Nat → Nat} (h : 2 ≤ i) : ck_lo (ck_un f i v) = ck_lo f := by
  unfold ck_lo
  rw [ck_uo (by omega), ck_uo (by omega)]
theorem ck_va_p {d v : Nat} {f : Nat → Nat} (h : ck_va d f) (hd : d < 4) (hv : v = 1 ∨ v = 2) : ck_va (d + 1) (ck_un f (d + 2) v) := by
  refine ⟨by omega, by rw [ck_uo (by omega)]; exact h.2.1, by rw [ck_uo (by omega)]; exact h.2.2.1, fun j h2 hj => ?_⟩
  by_cases e : j = d + 2
  · rw [e, ck_us]; exact hv
  · rw [ck_uo e]; exact h.2.2.2 j h2 (by omega)
theorem ck_va_t {d : Nat} {f : Nat → Nat} (h : ck_va d f) : ck_va (d - 1) f := ⟨by have := h.1; omega, h.2.1, h.2.2.1, fun j h2 hj => by
  by_cases e : d = 0
  · omega
  · exact h.2.2.2 j h2 (by omega)⟩
/-- one small step: the kinds' rule and the numbers' rule say the same -/
theorem ck_y1 {p d : Nat} {f : Nat → Nat} (hp : 1 ≤ p ∧ p ≤ 10) (h : ck_va d f) : (ck_o1 p d f ↔ ck_yo p (ck_st f d) (ck_lo f)) ∧ (ck_o1 p d f → ck_va (ck_nd p d) (ck_k p d f) ∧ ck_st (ck_k p d f) (ck_nd p d) = ck_ys p (ck_st f d) (ck_lo f) ∧ ck_lo (ck_k p d f) = ck_yl p (ck_st f d) (ck_lo f)) := by
  obtain ⟨b1, b2, b3, b4⟩ := ck_stb h
  have l0 : ck_lo f % 3 = f 0 := by have := h.2.1; unfold ck_lo; omega
  have l1 : ck_lo f / 3 = f 1 := by have := h.2.1; unfold ck_lo; omega
  have hf0 := h.2.1
  have hf1 := h.2.2.1
  obtain rfl | rfl | rfl | rfl | rfl | rfl | rfl | rfl | rfl | rfl : p = 1 ∨ p = 2 ∨ p = 3 ∨ p = 4 ∨ p = 5 ∨ p = 6 ∨ p = 7 ∨ p = 8 ∨ p = 9 ∨ p = 10 := by omega
  · simp only [ck_o1, ck_ok, ck_al, ck_ce, ck_nd, ck_k, ck_yo, ck_ys, ck_yl, Nat.reduceLeDiff, Nat.reduceEqDiff, ↓reduceIte]
    refine ⟨⟨fun z => ?_, fun z => ?_⟩, fun z => ⟨ck_va_t h, (ck_st_s h z.1).1.symm, trivial⟩⟩
    · have := ck_st_s h z.1
      exact ⟨b2.mpr z.1, by omega⟩
    · have := ck_st_s h (b2.mp z.1)
      exact ⟨b2.mp z.1, by omega⟩
  · simp only [ck_o1, ck_ok, ck_al, ck_ce, ck_nd, ck_k, ck_yo, ck_ys, ck_yl, Nat.reduceLeDiff, Nat.reduceEqDiff, ↓reduceIte]
    refine ⟨⟨fun z => ?_, fun z => ?_⟩, fun z => ⟨ck_va_t h, (ck_st_s h z.1).1.symm, trivial⟩⟩
    · have := ck_st_s h z.1
      exact ⟨b2.mpr z.1, by omega⟩
    · have := ck_st_s h (b2.mp z.1)
      exact ⟨b2.mp z.1, by omega⟩
  · simp only [ck_o1, ck_ok, ck_al, ck_ce, ck_nd, ck_k, ck_yo, ck_ys, ck_yl, Nat.reduceLeDiff, Nat.reduceEqDiff, ↓reduceIte]
    exact ⟨⟨fun z => b2.mpr z.1, fun z => ⟨b2.mp z, trivial⟩⟩, fun z => ⟨ck_va_t h, (ck_st_s h z.1).1.symm, trivial⟩⟩
  · simp only [ck_o1, ck_ok, ck_al, ck_ce, ck_nd, ck_k, ck_yo, ck_ys, ck_yl, Nat.reduceLeDiff, Nat.reduceEqDiff, Nat.reduceSub, ↓reduceIte]
    exact ⟨⟨fun z => b3.mpr z.1, fun z => ⟨b3.mp z, trivial⟩⟩, fun z => ⟨ck_va_p h z.1 (Or.inl rfl), ck_st_p, ck_lo_p (by omega)⟩⟩
  · simp only [ck_o1, ck_ok, ck_al, ck_ce, ck_nd, ck_k, ck_yo, ck_ys, ck_yl, Nat.reduceLeDiff, Nat.reduceEqDiff, Nat.reduceSub, ↓reduceIte]
    exact ⟨⟨fun z => b3.mpr z.1, fun z => ⟨b3.mp z, trivial⟩⟩, fun z => ⟨ck_va_p h z.1 (Or.inr rfl), ck_st_p, ck_lo_p (by omega)⟩⟩
  · simp only [ck_o1, ck_ok, ck_al, ck_ce, ck_nd, ck_k, ck_yo, ck_ys, ck_yl, Nat.reduceLeDiff, Nat.reduceEqDiff, Nat.reduceSub, ↓reduceIte]
    rw [l0]
    exact ⟨⟨fun z => ⟨z.2, b3.mpr z.1⟩, fun z => ⟨b3.mp z.2, z.1⟩⟩, fun z => ⟨ck_va_p h z.1 (by have := z.2; omega), ck_st_p, ck_lo_p (by omega)⟩⟩
  · simp only [ck_o1, ck_ok, ck_al, ck_ce, ck_nd, ck_k, ck_yo, ck_ys, ck_yl, Nat.reduceLeDiff, Nat.reduceEqDiff, Nat.reduceSub, ↓reduceIte]
    rw [l1]
    exact ⟨⟨fun z => ⟨z.2, b3.mpr z.1⟩, fun z => ⟨b3.mp z.2, z.1⟩⟩, fun z => ⟨ck_va_p h z.1 (by have := z.2; omega), ck_st_p, ck_lo_p (by omega)⟩⟩
  · simp only [ck_o1, ck_ok, ck_al, ck_ce, ck_nd, ck_k, ck_yo, ck_ys, ck_yl, Nat.reduceLeDiff, Nat.reduceEqDiff, Nat.reduceSub, ↓reduceIte]
    refine ⟨⟨fun z => b2.mpr z.1, fun z => ⟨b2.mp z, trivial⟩⟩, fun z => ?_⟩
    obtain ⟨s1, s2, s3⟩ := ck_st_s h z.1
    refine ⟨⟨(ck_va_t h).1, ?_, ?_, fun j h2 hj => ?_⟩, ?_, ?_⟩
    · rw [ck_us]; omega
    · rw [ck_uo (by omega)]; exact hf1
    · rw [ck_uo (by omega)]; exact (ck_va_t h).2.2.2 j h2 hj
    · rw [ck_st_un _ (by omega), s1]
    · rw [l1, s2]
      unfold ck_lo
      rw [ck_us, ck_uo (by omega)]
      omega
  · simp only [ck_o1, ck_ok, ck_al, ck_ce, ck_nd, ck_k, ck_yo, ck_ys, ck_yl, Nat.reduceLeDiff, Nat.reduceEqDiff, Nat.reduceSub, ↓reduceIte]
    refine ⟨⟨fun z => b2.mpr z.1, fun z => ⟨b2.mp z, trivial⟩⟩, fun z => ?_⟩
    obtain ⟨s1, s2, s3⟩ := ck_st_s h z.1
    refine ⟨⟨(ck_va_t h).1, ?_, ?_, fun j h2 hj => ?_⟩, ?_, ?_⟩
    · rw [ck_uo (by omega)]; exact hf0
    · rw [ck_us]; omega
    · rw [ck_uo (by omega)]; exact (ck_va_t h).2.2.2 j h2 hj
    · rw [ck_st_un _ (by omega), s1]
    · rw [l0, s2]
      unfold ck_lo
      rw [ck_us, ck_uo (by omega)]
      omega
  · simp only [ck_o1, ck_ok, ck_al, ck_ce, ck_nd, ck_k, ck_yo, ck_ys, ck_yl, Nat.reduceLeDiff, Nat.reduceEqDiff, Nat.reduceSub, ↓reduceIte]
    refine ⟨⟨fun z => ⟨b2.mpr z.1.1, b3.mpr z.1.2⟩, fun z => ⟨⟨b2.mp z.1, b3.mp z.2⟩, trivial⟩⟩, fun z => ?_⟩
    obtain ⟨s1, s2, s3⟩ := ck_st_s h z.1.1
    exact ⟨ck_va_p h z.1.2 s3, by rw [ck_st_p, s2], ck_lo_p (by omega)⟩
theorem ck_yL : ∀ (L : List Nat) (d : Nat) (f : Nat → Nat), ck_pr L → ck_va d f → (ck_os L d f ↔ ck_yos L (ck_st f d) (ck_lo f)) ∧ (ck_os L d f → ck_va (ck_rd L d) (ck_rk L d f) ∧ ck_st (ck_rk L d f) (ck_rd L d) = ck_yrs L (ck_st f d) (ck_lo f) ∧ ck_lo (ck_rk L d f) = ck_yrl L (ck_st f d) (ck_lo f))
  | [], _, _, _, h => ⟨Iff.rfl, fun _ => ⟨h, rfl, rfl⟩⟩
  | p :: L, d, f, hp, h => by
    obtain ⟨h1, h2⟩ := ck_y1 (hp p (List.mem_cons_self ..)) h
    have hp' : ck_pr L := fun q hq => hp q (List.mem_cons_of_mem _ hq)
    refine ⟨⟨fun z => ?_, fun z => ?_⟩, fun z => ?_⟩
    · obtain ⟨a1, a2, a3⟩ := h2 z.1
      obtain ⟨h3, h4⟩ := ck_yL L _ _ hp' a1
      rw [a2, a3] at h3
      exact ⟨h1.mp z.1, h3.mp z.2⟩
    · have z1 := h1.mpr z.1
      obtain ⟨a1, a2, a3⟩ := h2 z1
      obtain ⟨h3, h4⟩ := ck_yL L _ _ hp' a1
      rw [a2, a3] at h3
      exact ⟨z1, h3.mpr z.2⟩
    · obtain ⟨a1, a2, a3⟩ := h2 z.1
      obtain ⟨h3, h4⟩ := ck_yL L _ _ hp' a1
      rw [a2, a3] at h4
      exact h4 z.2
def ck_en (k d : Nat) (f : Nat → Nat) : Nat := k * 288 + ck_st f d * 9 + ck_lo f
/-- what a state of the reference's list owes once it has been looked at -/
def ck_yp (op b : Nat → Nat) (n : Nat) (met : Nat → Prop) (k st lo : Nat) : Prop :=
  ck_yos (ck_pg (op k) (b k)) st lo ∧ ((op k = 7 ∨ op k = 8) → b k < n ∧ met (b k * 288 + ck_yrs (ck_pg (op k) (b k)) st lo * 9 + ck_yrl (ck_pg (op k) (b k)) st lo)) ∧ ((op k ≠ 7 ∧ op k ≠ 19) → k + 1 < n ∧ met ((k + 1) * 288 + ck_yrs (ck_pg (op k) (b k)) st lo * 9 + ck_yrl (ck_pg (op k) (b k)) st lo))
theorem ck_yg {op b : Nat → Nat} {n : Nat} {met : Nat → Prop} {H : Nat → Nat} (hn : 0 < n) (hp : ∀ k, k < n → ck_pr (ck_pg (op k) (b k))) (h0 : met 10)
    (hc : ∀ k st lo, k < n → st < 32 → lo < 9 → met (k * 288 + st * 9 + lo) → ck_yp op b n met k st lo)
    (hH : ∀ k d f, k < n → ck_va d f → met (ck_en k d f) → H k = d) : ck_good op b n := by
  refine ⟨fun k d f => k < n ∧ ck_va d f ∧ met (ck_en k d f), ⟨hn, ⟨by decide, by decide, by decide, fun j h2 hj => absurd hj (by omega)⟩, h0⟩, ?_, ?_⟩
  · intro k d f hM
    obtain ⟨hk, hv, hm⟩ := hM
    have hl : ck_lo f < 9 := by have := hv.2.1; have := hv.2.2.1; unfold ck_lo; omega
    obtain ⟨h1, h2, h3⟩ := hc k _ _ hk (ck_stb hv).2.2.2 hl hm
    obtain ⟨a1, a2⟩ := ck_yL _ d f (hp k hk) hv
    have h4 := a1.mpr h1
    obtain ⟨a3, a4, a5⟩ := a2 h4
    refine ⟨hk, h4, fun z => ?_, fun z => ?_⟩
    · obtain ⟨c1, c2⟩ := h2 z
      refine ⟨c1, a3, ?_⟩
      unfold ck_en
      rw [a4, a5]
      exact c2
    · obtain ⟨c1, c2⟩ := h3 z
      refine ⟨c1, a3, ?_⟩
      unfold ck_en
      rw [a4, a5]
      exact c2
  · intro k d f d' f' h1 h2
    rw [← hH k d f h1.1 h1.2.1 h1.2.2, ← hH k d' f' h2.1 h2.2.1 h2.2.2]
end
section
/-! THE RELATION'S PARTS -/
def rl_sv (x : Int32) : Prop := x.toInt16.toInt32 = x
abbrev rl_b (x : Int32) : Prop := x = 0 ∨ x = 1
/-- a reference: the component's number and the reference's -/
def rl_rf (x y : Int32) : Prop := ∃ o : Nat, o ≤ 8 ∧ x = nI o ∧ y = nI o - 1
def rl_ce (c : Nat) (xv xr yv yk : Int32) : Prop := (c = 0 ∧ xr = 0 ∧ yk = 0) ∨ (c = 1 ∧ xr = 0 ∧ yk = 1 ∧ xv = yv ∧ rl_sv yv) ∨ (c = 2 ∧ xr = 1 ∧ yk = 2 ∧ rl_rf xv yv)
def rl_nn (a : Nat → Int32) (m : Nat) : Nat → Nat := fun k => (a (16 * m + k)).toNatClampNeg
def rl_fb (o : Nat) (b : Int32) (n : Nat) : Prop := (o = 0 → -128 ≤ b ∧ b ≤ 127) ∧ ((o = 1 ∨ o = 2 ∨ o = 9 ∨ o = 10 ∨ o = 11) → b = 0 ∨ b = 1) ∧ ((o = 7 ∨ o = 8) → 0 ≤ b ∧ b < nI n) ∧ ((o = 16 ∨ o = 18) → 0 ≤ b ∧ b < 6)
/-- a code that was taken in -/
def rl_cd (ops bs : Nat → Int32) (m n : Nat) : Prop := n ≤ 16 ∧ (∀ k, k < n → ∃ o, o < 25 ∧ ops (16 * m + k) = nI o ∧ rl_fb o (bs (16 * m + k)) n) ∧ ck_good (rl_nn ops m) (rl_nn bs m) n
def rl_M (co cb ml me ops bs sz ex : Nat → Int32) : Prop := ∀ m, m < 6 → ∃ n, n ≤ 16 ∧ ml m = nI n ∧ sz m = nI n ∧ me m = ex m ∧ rl_b (ex m) ∧ (∀ k, k < n → co (16 * m + k) = ops (16 * m + k) ∧ cb (16 * m + k) = bs (16 * m + k)) ∧ (0 < n → rl_cd ops bs m n)
def rl_P (po pb : Nat → Int32) (pc : Int32) (ops bs sz : Nat → Int32) : Prop := ∃ p, p ≤ 16 ∧ pc = nI p ∧ sz 6 = nI p ∧ ∀ i, i < p → po i = ops (96 + i) ∧ pb i = bs (96 + i) ∧ ∃ o, o < 25 ∧ ops (96 + i) = nI o
def rl_O (ro ow ol la sh oe yro yow yle yla ysh yel : Nat → Int32) : Prop :=
  (∀ r, r < 6 → rl_rf (ro r) (yro r)) ∧ (∀ o, o < 8 → ow (o + 1) = yow o ∧ ol (o + 1) = yle o ∧ la (o + 1) = yla o ∧ sh (o + 1) = ysh o ∧ rl_b (yla o) ∧ rl_b (ysh o) ∧ (∃ a, a < 3 ∧ yow o = nI a) ∧ (∃ l, l ≤ 4 ∧ yle o = nI l)) ∧ (∀ i, i < 32 → oe (4 + i) = yel i ∧ rl_sv (yel i))
def rl_T (B : Nat) (it : Int32) (sr ss se ms : Nat → Int32) (yop : Int32) (oro osh oel : Nat → Int32) (stp ost : Nat → Int64) (made : Int64) : Prop :=
  it = yop ∧ rl_b yop ∧ (∃ m, m ≤ B ∧ made = lN m ∧ (∀ o, o < 8 → ∃ s, s ≤ m ∧ stp o = lN s) ∧ (yop = 1 → ∀ o, o < 8 → ∃ s, s ≤ m ∧ ost o = lN s)) ∧ (yop = 1 → (∀ r, r < 6 → rl_rf (sr r) (oro r)) ∧ (∀ o, o < 8 → ss (o + 1) = osh o ∧ rl_b (osh o) ∧ (ms (o + 1) = 0 ↔ stp o = ost o)) ∧ (∀ i, i < 32 → se (4 + i) = oel i ∧ rl_sv (oel i)))
def rl_W (wt aw : Int32) : Prop := wt = aw ∧ (aw = -1 ∨ ∃ a, a ≤ 100 ∧ aw = nI a)
def rl_L (lx ly : Int32) : Prop := ∃ l, l ≤ 250 ∧ lx = nI l ∧ ly = nI l
/-! frames -/
def rl_ty (ops bs sz : Nat → Int32) (m k d : Nat) (f : Nat → Nat) : Prop := ck_ty (rl_nn ops m) (rl_nn bs m) (sz m).toNatClampNeg k d f
def rl_cs (t d : Nat) (f : Nat → Nat) (cv cr pl kd : Nat → Int32) : Prop := ∀ j, j < d + 2 → rl_ce (f j) (cv (6 * t + j)) (cr (6 * t + j)) (pl (8 * t + j)) (kd (8 * t + j))
/-- the frames below the top: each waits at a CALL -/
def rl_lo (ops bs sz : Nat → Int32) (t : Nat) (fm fa fd cv cr rows nx dp pl kd : Nat → Int32) : Prop := ∀ g, g < t → ∃ m k d f, m < 6 ∧ k < 16 ∧ d ≤ 3 ∧ 0 < (sz m).toNatClampNeg ∧ fm g = nI m ∧ rows g = nI m ∧ fa g = nI (k + 1) ∧ nx g = nI k ∧ fd g = nI d ∧ dp g = nI d ∧ rl_ty ops bs sz m (k + 1) (d + 1) (ck_un f (d + 2) 1) ∧ rl_cs g d f cv cr pl kd
def rl_tp (ops bs sz : Nat → Int32) (t m k d : Nat) (f : Nat → Nat) (fm fa fd cv cr rows nx dp pl kd : Nat → Int32) : Prop := m < 6 ∧ k < 16 ∧ d ≤ 4 ∧ 0 < (sz m).toNatClampNeg ∧ fm t = nI m ∧ rows t = nI m ∧ fa t = nI k ∧ nx t = nI k ∧ fd t = nI d ∧ dp t = nI d ∧ rl_ty ops bs sz m k d f ∧ rl_cs t d f cv cr pl kd
/-! small facts -/
theorem rl_uu {f : Nat → Int32} {k : Nat} {x y : Int32} : upd (upd f k x) k y = upd f k y := by
  funext j
  unfold upd
  split <;> rfl
theorem rl_sv_n {x : Int32} (h : rl_sv x) : vp_nar .short x = x := by rw [vp_nar_short]; exact h
theorem rl_sv_c (x : Int32) : rl_sv x.toInt16.toInt32 := by
  unfold rl_sv
  simp
theorem rl_sv_i {x : Int32} (h1 : -32768 ≤ x.toInt) (h2 : x.toInt < 32768) : rl_sv x := by
  unfold rl_sv
  exact lg_i2s_small h1 h2
theorem rl_sv_N {n : Nat} (h : n < 32768) : rl_sv (nI n) := rl_sv_i (by rw [nI_toInt (by omega)]; omega) (by rw [nI_toInt (by omega)]; omega)
theorem rl_b_n {x : Int32} (h : rl_b x) : vp_nar .boolean x = x := by
  rcases h with rfl | rfl
  · decide
  · decide
theorem rl_b_ne {x : Int32} (h : rl_b x) (h0 : ¬ x = 0) : x = 1 := h.resolve_left h0
theorem rl_m1 : nI 0 - 1 = -1 := by decide
theorem rl_s1 (o : Nat) : nI (o + 1) - 1 = nI o := nI_pred o
theorem rl_rf0 : rl_rf 0 (-1) := ⟨0, by omega, rfl, rl_m1.symm⟩
theorem rl_rfS {o : Nat} (h : o < 8) : rl_rf (nI (o + 1)) (nI o) := ⟨o + 1, h, rfl, (rl_s1 o).symm⟩
/-- null, or an object -/
theorem rl_rf_c {x y : Int32} (h : rl_rf x y) : (x = 0 ∧ y = -1) ∨ ∃ o, o < 8 ∧ x = nI (o + 1) ∧ y = nI o := by
  obtain ⟨o, ho, rfl, rfl⟩ := h
  cases o with
  | zero => exact Or.inl ⟨rfl, rl_m1⟩
  | succ o => exact Or.inr ⟨o, ho, rfl, rl_s1 o⟩
theorem rl_lo_up {ops bs sz : Nat → Int32} {t : Nat} {fm fa fd cv cr rows nx dp pl kd fm' fa' fd' cv' cr' rows' nx' dp' pl' kd' : Nat → Int32} (h : rl_lo ops bs sz t fm fa fd cv cr rows nx dp pl kd)
    (h1 : ∀ g, g < t → fm' g = fm g) (h2 : ∀ g, g < t → fa' g = fa g) (h3 : ∀ g, g < t → fd' g = fd g) (h4 : ∀ i, i < 6 * t → cv' i = cv i) (h5 : ∀ i, i < 6 * t → cr' i = cr i)
    (h6 : ∀ g, g < t → rows' g = rows g) (h7 : ∀ g, g < t → nx' g = nx g) (h8 : ∀ g, g < t → dp' g = dp g) (h9 : ∀ i, i < 8 * t → pl' i = pl i) (h10 : ∀ i, i < 8 * t → kd' i = kd i) : rl_lo ops bs sz t fm' fa' fd' cv' cr' rows' nx' dp' pl' kd' := by
  intro g hg
  obtain ⟨m, k, d, f, a1, a2, a3, a4, a5, a6, a7, a8, a9, a10, a11, a12⟩ := h g hg
  refine ⟨m, k, d, f, a1, a2, a3, a4, by rw [h1 g hg, a5], by rw [h6 g hg, a6], by rw [h2 g hg, a7], by rw [h7 g hg, a8], by rw [h3 g hg, a9], by rw [h8 g hg, a10], a11, fun j hj => ?_⟩
  rw [h4 _ (by omega), h5 _ (by omega), h9 _ (by omega), h10 _ (by omega)]
  exact a12 j hj
/-- one cell of the top frame is stored into -/
theorem rl_cs_up {t d d' c v : Nat} {f : Nat → Nat} {cv cr pl kd : Nat → Int32} {xv xr yv yk : Int32} (h : rl_cs t d f cv cr pl kd) (hc : rl_ce v xv xr yv yk) (hc6 : c < 6) (hd4 : d' ≤ 4) (hd : ∀ j, j < d' + 2 → j ≠ c → j < d + 2) :
    rl_cs t d' (ck_un f c v) (upd cv (6 * t + c) xv) (upd cr (6 * t + c) xr) (upd pl (8 * t + c) yv) (upd kd (8 * t + c) yk) := by
  intro j hj
  by_cases e : j = c
  · subst e
    rw [ck_us, pk_us, pk_us, pk_us, pk_us]
    exact hc
  · rw [ck_uo e, pk_un (by omega), pk_un (by omega), pk_un (by omega), pk_un (by omega)]
    exact h j (hd j hj e)
theorem rl_cs_dn {t d d' : Nat} {f : Nat → Nat} {cv cr pl kd : Nat → Int32} (h : rl_cs t d f cv cr pl kd) (hd : d' ≤ d) : rl_cs t d' f cv cr pl kd := fun j hj => h j (by omega)
theorem rl_ce1 {xv xr yv yk : Int32} (h : rl_ce 1 xv xr yv yk) : xr = 0 ∧ yk = 1 ∧ xv = yv ∧ rl_sv yv := by
  rcases h with ⟨h, _⟩ | ⟨_, h⟩ | ⟨h, _⟩
  · exact absurd h (by decide)
  · exact h
  · exact absurd h (by decide)
theorem rl_ce2 {xv xr yv yk : Int32} (h : rl_ce 2 xv xr yv yk) : xr = 1 ∧ yk = 2 ∧ rl_rf xv yv := by
  rcases h with ⟨h, _⟩ | ⟨h, _⟩ | ⟨_, h⟩
  · exact absurd h (by decide)
  · exact absurd h (by decide)
  · exact h
theorem rl_n1 {x : Int32} (h : rl_sv x) : rl_ce 1 x 0 x 1 := Or.inr (Or.inl ⟨rfl, rfl, rfl, rfl, h⟩)
theorem rl_n2 {x y : Int32} (h : rl_rf x y) : rl_ce 2 x 1 y 2 := Or.inr (Or.inr ⟨rfl, rfl, rfl, h⟩)
end
section
/-! THE COMPONENT'S CHECK: one instruction on the kinds -/
section XK
variable {xlim xpc xnd xwc xit xfc xwt xan xlp : Int32}
variable {xpo xpb xwd xwk xnk xco xcb xml xme xro xow xol xla xsh xoe xoh xsr xss xse xms xfm xfa xfd xcv xcr : Nat → Int32}
theorem xk_2 (d : Nat) : (2 : Int32) + nI d = nI (d + 2) := by rw [Nat.add_comm]; exact nI_add 2 d
theorem xk_c2 {d : Nat} (h : d ≤ 4) : ((2 : Int32) + nI d).toNatClampNeg = d + 2 := pk_cl (d + 2) (xk_2 d)
theorem xk_b1 : ∀ K, K < 8 → ((nI K &&& ((1 : Int32) ^^^ (-1))) = 0 ↔ ∀ c, c < 3 → K &&& ck_bit c ≠ 0 → c = 1) := by decide +kernel
theorem xk_b2 : ∀ K, K < 8 → ((nI K &&& ((2 : Int32) ^^^ (-1))) = 0 ↔ ∀ c, c < 3 → K &&& ck_bit c ≠ 0 → c = 2) := by decide +kernel
theorem xk_b3 : ∀ K, K < 4 → (nI K &&& ((3 : Int32) ^^^ (-1))) = 0 := by decide +kernel
theorem xk_b4 : ∀ K, K < 8 → ((nI K &&& (4 : Int32)) = 0 ↔ ∀ c, c < 3 → K &&& ck_bit c ≠ 0 → c ≠ 0) := by decide +kernel
/-- the kinds now, as naturals -/
def xk_K (nk : Nat → Int32) (K : Nat → Nat) : Prop := ∀ j, j < 6 → nk j = nI (K j) ∧ K j < 8 ∧ (2 ≤ j → K j < 4)
theorem xk_Kp {nk : Nat → Int32} {K : Nat → Nat} {i v : Nat} (h : xk_K nk K) (h8 : v < 8) (h4 : 2 ≤ i → v < 4) : xk_K (upd nk i (nI v)) (ck_un K i v) := by
  intro j hj
  by_cases e : j = i
  · subst e
    rw [pk_us, ck_us]
    exact ⟨rfl, h8, h4⟩
  · rw [pk_un e, ck_uo e]
    exact h j hj
theorem xk_add (post : Int32 → SX → Prop) {d a : Nat} {K : Nat → Nat} (hd : d ≤ 4) (hK : xk_K xnk K) (ha : a < 4)
    (h1 : d < 4 → ∀ nk, xk_K nk (ck_un K (d + 2) a) → post 1 (xlim, xpc, nI (d + 1), xwc, xit, xfc, xwt, xan, xlp, xpo, xpb, xwd, xwk, nk, xco, xcb, xml, xme, xro, xow, xol, xla, xsh, xoe, xoh, xsr, xss, xse, xms, xfm, xfa, xfd, xcv, xcr)) (h0 : ¬ d < 4 → ∀ nd nk, post 0 (xlim, xpc, nd, xwc, xit, xfc, xwt, xan, xlp, xpo, xpb, xwd, xwk, nk, xco, xcb, xml, xme, xro, xow, xol, xla, xsh, xoe, xoh, xsr, xss, xse, xms, xfm, xfa, xfd, xcv, xcr)) : wpX_addKind post (xlim, xpc, nI d, xwc, xit, xfc, xwt, xan, xlp, xpo, xpb, xwd, xwk, xnk, xco, xcb, xml, xme, xro, xow, xol, xla, xsh, xoe, xoh, xsr, xss, xse, xms, xfm, xfa, xfd, xcv, xcr) (nI a) := by
  refine pk_lt d 4 (fun z => ⟨pk_in (d + 2) 6 (by omega) (xk_2 d), nm_e (nm_r (nI_1 d) (h1 z _ ?_))⟩) (fun z => h0 (by omega) _ _)
  rw [xk_c2 hd]
  exact xk_Kp hK (by omega) (fun _ => ha)
theorem xk_take (post : Int32 → SX → Prop) {d : Nat} {w : Int32} {K : Nat → Nat} (hd : d ≤ 4) (hK : xk_K xnk K)
    (h1 : 0 < d → (nI (K (d + 1)) &&& (w ^^^ (-1))) = 0 → post 1 (xlim, xpc, nI (d - 1), xwc, xit, xfc, xwt, xan, xlp, xpo, xpb, xwd, xwk, xnk, xco, xcb, xml, xme, xro, xow, xol, xla, xsh, xoe, xoh, xsr, xss, xse, xms, xfm, xfa, xfd, xcv, xcr)) (h0 : ¬ (0 < d ∧ (nI (K (d + 1)) &&& (w ^^^ (-1))) = 0) → ∀ nd nk, post 0 (xlim, xpc, nd, xwc, xit, xfc, xwt, xan, xlp, xpo, xpb, xwd, xwk, nk, xco, xcb, xml, xme, xro, xow, xol, xla, xsh, xoe, xoh, xsr, xss, xse, xms, xfm, xfa, xfd, xcv, xcr)) : wpX_takeKind post (xlim, xpc, nI d, xwc, xit, xfc, xwt, xan, xlp, xpo, xpb, xwd, xwk, xnk, xco, xcb, xml, xme, xro, xow, xol, xla, xsh, xoe, xoh, xsr, xss, xse, xms, xfm, xfa, xfd, xcv, xcr) w := by
  cases d with
  | zero => exact br_t rfl (h0 (fun z => absurd z.1 (by omega)) _ _)
  | succ d =>
    have e : ((2 : Int32) + nI d).toNatClampNeg = d + 2 := xk_c2 (by omega)
    have e2 : xnk (((2 : Int32) + nI d).toNatClampNeg) = nI (K (d + 2)) := by rw [e]; exact (hK (d + 2) (by omega)).1
    refine br_f (nI_ne0 (by omega) (by omega)) (nm_r (nI_pred d) ⟨pk_in (d + 2) 6 (by omega) (xk_2 d), br_c (fun z => h1 (by omega) ?_) (fun z => h0 (fun y => z ?_) _ _)⟩)
    · rw [e2] at z
      exact z
    · rw [e2]
      exact y.2
theorem xk_t1 (post : Int32 → SX → Prop) {d : Nat} {K : Nat → Nat} (hd : d ≤ 4) (hK : xk_K xnk K)
    (h1 : ck_b1 1 d K → post 1 (xlim, xpc, nI (d - 1), xwc, xit, xfc, xwt, xan, xlp, xpo, xpb, xwd, xwk, xnk, xco, xcb, xml, xme, xro, xow, xol, xla, xsh, xoe, xoh, xsr, xss, xse, xms, xfm, xfa, xfd, xcv, xcr)) (h0 : ¬ ck_b1 1 d K → ∀ nd nk, post 0 (xlim, xpc, nd, xwc, xit, xfc, xwt, xan, xlp, xpo, xpb, xwd, xwk, nk, xco, xcb, xml, xme, xro, xow, xol, xla, xsh, xoe, xoh, xsr, xss, xse, xms, xfm, xfa, xfd, xcv, xcr)) : wpX_takeKind post (xlim, xpc, nI d, xwc, xit, xfc, xwt, xan, xlp, xpo, xpb, xwd, xwk, xnk, xco, xcb, xml, xme, xro, xow, xol, xla, xsh, xoe, xoh, xsr, xss, xse, xms, xfm, xfa, xfd, xcv, xcr) 1 := by
  refine xk_take post hd hK (fun z y => h1 ⟨z, fun c hc => (xk_b1 _ (hK (d + 1) (by omega)).2.1).mp y c hc.1 hc.2⟩) (fun z => h0 (fun y => z ⟨y.1, (xk_b1 _ (hK (d + 1) ?_).2.1).mpr (fun c h3 hc => y.2 c ⟨h3, hc⟩)⟩))
  omega
theorem xk_t2 (post : Int32 → SX → Prop) {d : Nat} {K : Nat → Nat} (hd : d ≤ 4) (hK : xk_K xnk K)
    (h1 : ck_b1 2 d K → post 1 (xlim, xpc, nI (d - 1), xwc, xit, xfc, xwt, xan, xlp, xpo, xpb, xwd, xwk, xnk, xco, xcb, xml, xme, xro, xow, xol, xla, xsh, xoe, xoh, xsr, xss, xse, xms, xfm, xfa, xfd, xcv, xcr)) (h0 : ¬ ck_b1 2 d K → ∀ nd nk, post 0 (xlim, xpc, nd, xwc, xit, xfc, xwt, xan, xlp, xpo, xpb, xwd, xwk, nk, xco, xcb, xml, xme, xro, xow, xol, xla, xsh, xoe, xoh, xsr, xss, xse, xms, xfm, xfa, xfd, xcv, xcr)) : wpX_takeKind post (xlim, xpc, nI d, xwc, xit, xfc, xwt, xan, xlp, xpo, xpb, xwd, xwk, xnk, xco, xcb, xml, xme, xro, xow, xol, xla, xsh, xoe, xoh, xsr, xss, xse, xms, xfm, xfa, xfd, xcv, xcr) 2 := by
  refine xk_take post hd hK (fun z y => h1 ⟨z, fun c hc => (xk_b2 _ (hK (d + 1) (by omega)).2.1).mp y c hc.1 hc.2⟩) (fun z => h0 (fun y => z ⟨y.1, (xk_b2 _ (hK (d + 1) ?_).2.1).mpr (fun c h3 hc => y.2 c ⟨h3, hc⟩)⟩))
  omega
theorem xk_t3 (post : Int32 → SX → Prop) {d : Nat} {K : Nat → Nat} (hd : d ≤ 4) (hK : xk_K xnk K)
    (h1 : 0 < d → post 1 (xlim, xpc, nI (d - 1), xwc, xit, xfc, xwt, xan, xlp, xpo, xpb, xwd, xwk, xnk, xco, xcb, xml, xme, xro, xow, xol, xla, xsh, xoe, xoh, xsr, xss, xse, xms, xfm, xfa, xfd, xcv, xcr)) (h0 : ¬ 0 < d → ∀ nd nk, post 0 (xlim, xpc, nd, xwc, xit, xfc, xwt, xan, xlp, xpo, xpb, xwd, xwk, nk, xco, xcb, xml, xme, xro, xow, xol, xla, xsh, xoe, xoh, xsr, xss, xse, xms, xfm, xfa, xfd, xcv, xcr)) : wpX_takeKind post (xlim, xpc, nI d, xwc, xit, xfc, xwt, xan, xlp, xpo, xpb, xwd, xwk, xnk, xco, xcb, xml, xme, xro, xow, xol, xla, xsh, xoe, xoh, xsr, xss, xse, xms, xfm, xfa, xfd, xcv, xcr) 3 :=
  xk_take post hd hK (fun z _ => h1 z) (fun z => h0 (fun y => z ⟨y, xk_b3 _ ((hK (d + 1) (by omega)).2.2 (by omega))⟩))
theorem xk_a (post : Int32 → SX → Prop) {d p : Nat} {K : Nat → Nat} (hp : p = 4 ∨ p = 5) (hd : d ≤ 4) (hK : xk_K xnk K)
    (h1 : ck_b1 p d K → ∀ nk, xk_K nk (ck_k p d K) → post 1 (xlim, xpc, nI (d + 1), xwc, xit, xfc, xwt, xan, xlp, xpo, xpb, xwd, xwk, nk, xco, xcb, xml, xme, xro, xow, xol, xla, xsh, xoe, xoh, xsr, xss, xse, xms, xfm, xfa, xfd, xcv, xcr)) (h0 : ¬ ck_b1 p d K → ∀ nd nk, post 0 (xlim, xpc, nd, xwc, xit, xfc, xwt, xan, xlp, xpo, xpb, xwd, xwk, nk, xco, xcb, xml, xme, xro, xow, xol, xla, xsh, xoe, xoh, xsr, xss, xse, xms, xfm, xfa, xfd, xcv, xcr)) : wpX_addKind post (xlim, xpc, nI d, xwc, xit, xfc, xwt, xan, xlp, xpo, xpb, xwd, xwk, xnk, xco, xcb, xml, xme, xro, xow, xol, xla, xsh, xoe, xoh, xsr, xss, xse, xms, xfm, xfa, xfd, xcv, xcr) (nI (p - 3)) := by
  rcases hp with rfl | rfl
  · exact xk_add post (a := 1) hd hK (by decide) (fun z => h1 ⟨z, fun _ _ => trivial⟩) (fun z => h0 (fun y => z y.1))
  · exact xk_add post (a := 2) hd hK (by decide) (fun z => h1 ⟨z, fun _ _ => trivial⟩) (fun z => h0 (fun y => z y.1))
theorem xk_op_0 (post : Int32 → SX → Prop) {d : Nat} {B : Int32} {K : Nat → Nat} (hd : d ≤ 4) (hK : xk_K xnk K)
    (h1 : ck_bs [4] d K → ∀ nk, xk_K nk (ck_rk [4] d K) → post 1 (xlim, xpc, nI (ck_rd [4] d), xwc, xit, xfc, xwt, xan, xlp, xpo, xpb, xwd, xwk, nk, xco, xcb, xml, xme, xro, xow, xol, xla, xsh, xoe, xoh, xsr, xss, xse, xms, xfm, xfa, xfd, xcv, xcr)) (h0 : ¬ ck_bs [4] d K → ∀ nd nk, post 0 (xlim, xpc, nd, xwc, xit, xfc, xwt, xan, xlp, xpo, xpb, xwd, xwk, nk, xco, xcb, xml, xme, xro, xow, xol, xla, xsh, xoe, xoh, xsr, xss, xse, xms, xfm, xfa, xfd, xcv, xcr)) : wpX_changesKinds post (xlim, xpc, nI d, xwc, xit, xfc, xwt, xan, xlp, xpo, xpb, xwd, xwk, xnk, xco, xcb, xml, xme, xro, xow, xol, xla, xsh, xoe, xoh, xsr, xss, xse, xms, xfm, xfa, xfd, xcv, xcr) 0 B := by
  refine br_f (by decide) <| br_f (by decide) <|  br_t rfl <| xk_a _ (Or.inl rfl) hd hK (fun b nk hk => ⟨rfl, h1 ⟨b, trivial⟩ nk hk⟩) (fun b nd nk => ⟨rfl, h0 (fun z => b z.1) nd nk⟩)
theorem xk_b5 : ∀ K, K < 8 → (nI K &&& (4 : Int32)) = 0 → K < 4 := by decide +kernel
theorem xk_op_1_0 (post : Int32 → SX → Prop) {d : Nat} {K : Nat → Nat} (hd : d ≤ 4) (hK : xk_K xnk K)
    (h1 : ck_bs [6 + 0] d K → ∀ nk, xk_K nk (ck_rk [6 + 0] d K) → post 1 (xlim, xpc, nI (ck_rd [6 + 0] d), xwc, xit, xfc, xwt, xan, xlp, xpo, xpb, xwd, xwk, nk, xco, xcb, xml, xme, xro, xow, xol, xla, xsh, xoe, xoh, xsr, xss, xse, xms, xfm, xfa, xfd, xcv, xcr)) (h0 : ¬ ck_bs [6 + 0] d K → ∀ nd nk, post 0 (xlim, xpc, nd, xwc, xit, xfc, xwt, xan, xlp, xpo, xpb, xwd, xwk, nk, xco, xcb, xml, xme, xro, xow, xol, xla, xsh, xoe, xoh, xsr, xss, xse, xms, xfm, xfa, xfd, xcv, xcr)) : wpX_changesKinds post (xlim, xpc, nI d, xwc, xit, xfc, xwt, xan, xlp, xpo, xpb, xwd, xwk, xnk, xco, xcb, xml, xme, xro, xow, xol, xla, xsh, xoe, xoh, xsr, xss, xse, xms, xfm, xfa, xfd, xcv, xcr) 1 (nI 0) := by
  have e2 : xnk (nI 0).toNatClampNeg = nI (K 0) := (hK 0 (by decide)).1
  have h8 := (hK 0 (by decide)).2.1
  refine br_f (by decide) <| br_f (by decide) <| br_f (by decide) <| br_t rfl <|  ⟨pk_in 0 6 (by decide), ?_⟩
  rw [e2]
  refine br_c (fun z => ⟨pk_in 0 6 (by decide), ?_⟩) (fun z => h0 (fun y => z ((xk_b4 _ h8).mpr (fun c h3 hc => y.1.2 c ⟨h3, hc⟩))) _ _)
  exact xk_add _ hd hK (xk_b5 _ h8 z) (fun y nk hk => br_f (by decide) <|  h1 ⟨⟨y, fun c hc => (xk_b4 _ h8).mp z c hc.1 hc.2⟩, trivial⟩ nk hk) (fun y nd nk => br_t rfl (h0 (fun x => y x.1.1) nd nk))
theorem xk_store_0 (post : Int32 → SX → Prop) {d : Nat} {K : Nat → Nat} (hd : d ≤ 4) (hK : xk_K xnk K)
    (h1 : ck_bs [8 + 0] d K → ∀ nk, xk_K nk (ck_rk [8 + 0] d K) → post 1 (xlim, xpc, nI (ck_rd [8 + 0] d), xwc, xit, xfc, xwt, xan, xlp, xpo, xpb, xwd, xwk, nk, xco, xcb, xml, xme, xro, xow, xol, xla, xsh, xoe, xoh, xsr, xss, xse, xms, xfm, xfa, xfd, xcv, xcr)) (h0 : ¬ ck_bs [8 + 0] d K → ∀ nd nk, post 0 (xlim, xpc, nd, xwc, xit, xfc, xwt, xan, xlp, xpo, xpb, xwd, xwk, nk, xco, xcb, xml, xme, xro, xow, xol, xla, xsh, xoe, xoh, xsr, xss, xse, xms, xfm, xfa, xfd, xcv, xcr)) : wpX_storeKind post (xlim, xpc, nI d, xwc, xit, xfc, xwt, xan, xlp, xpo, xpb, xwd, xwk, xnk, xco, xcb, xml, xme, xro, xow, xol, xla, xsh, xoe, xoh, xsr, xss, xse, xms, xfm, xfa, xfd, xcv, xcr) (nI 0) := by
  unfold wpX_storeKind
  refine xk_t3 _ hd hK (fun z => ?_) (fun z nd nk => br_t rfl ⟨rfl, h0 (fun y => z y.1.1) nd nk⟩)
  have e3 : d - 1 + 2 = d + 1 := by omega
  have e : ((2 : Int32) + nI (d - 1)).toNatClampNeg = d + 1 := by rw [xk_c2 (by omega), e3]
  have e2 : xnk (((2 : Int32) + nI (d - 1)).toNatClampNeg) = nI (K (d + 1)) := by rw [e]; exact (hK (d + 1) (by omega)).1
  refine br_f (by decide) <|  ⟨pk_in (d + 1) 6 (by omega) (by rw [xk_2, e3]), pk_in 0 6 (by decide), nm_r ?_ ⟨rfl, h1 ⟨⟨z, fun _ _ => trivial⟩, trivial⟩ (upd xnk 0 (nI (K (d + 1)))) ?_⟩⟩
  · rw [e2]
    rfl
  · exact xk_Kp hK (hK (d + 1) (by omega)).2.1 (fun q => absurd q (by decide))
theorem xk_op_2_0 (post : Int32 → SX → Prop) {d : Nat} {K : Nat → Nat} (hd : d ≤ 4) (hK : xk_K xnk K)
    (h1 : ck_bs [8 + 0] d K → ∀ nk, xk_K nk (ck_rk [8 + 0] d K) → post 1 (xlim, xpc, nI (ck_rd [8 + 0] d), xwc, xit, xfc, xwt, xan, xlp, xpo, xpb, xwd, xwk, nk, xco, xcb, xml, xme, xro, xow, xol, xla, xsh, xoe, xoh, xsr, xss, xse, xms, xfm, xfa, xfd, xcv, xcr)) (h0 : ¬ ck_bs [8 + 0] d K → ∀ nd nk, post 0 (xlim, xpc, nd, xwc, xit, xfc, xwt, xan, xlp, xpo, xpb, xwd, xwk, nk, xco, xcb, xml, xme, xro, xow, xol, xla, xsh, xoe, xoh, xsr, xss, xse, xms, xfm, xfa, xfd, xcv, xcr)) : wpX_changesKinds post (xlim, xpc, nI d, xwc, xit, xfc, xwt, xan, xlp, xpo, xpb, xwd, xwk, xnk, xco, xcb, xml, xme, xro, xow, xol, xla, xsh, xoe, xoh, xsr, xss, xse, xms, xfm, xfa, xfd, xcv, xcr) 2 (nI 0) := by
  exact br_f (by decide) <| br_f (by decide) <| br_f (by decide) <| br_f (by decide) <| br_t rfl <|  xk_store_0 _ hd hK (fun z nk hk => ⟨rfl, h1 z nk hk⟩) (fun z nd nk => ⟨rfl, h0 z nd nk⟩)
theorem xk_op_1_1 (post : Int32 → SX → Prop) {d : Nat} {K : Nat → Nat} (hd : d ≤ 4) (hK : xk_K xnk K)
    (h1 : ck_bs [6 + 1] d K → ∀ nk, xk_K nk (ck_rk [6 + 1] d K) → post 1 (xlim, xpc, nI (ck_rd [6 + 1] d), xwc, xit, xfc, xwt, xan, xlp, xpo, xpb, xwd, xwk, nk, xco, xcb, xml, xme, xro, xow, xol, xla, xsh, xoe, xoh, xsr, xss, xse, xms, xfm, xfa, xfd, xcv, xcr)) (h0 : ¬ ck_bs [6 + 1] d K → ∀ nd nk, post 0 (xlim, xpc, nd, xwc, xit, xfc, xwt, xan, xlp, xpo, xpb, xwd, xwk, nk, xco, xcb, xml, xme, xro, xow, xol, xla, xsh, xoe, xoh, xsr, xss, xse, xms, xfm, xfa, xfd, xcv, xcr)) : wpX_changesKinds post (xlim, xpc, nI d, xwc, xit, xfc, xwt, xan, xlp, xpo, xpb, xwd, xwk, xnk, xco, xcb, xml, xme, xro, xow, xol, xla, xsh, xoe, xoh, xsr, xss, xse, xms, xfm, xfa, xfd, xcv, xcr) 1 (nI 1) := by
  have e2 : xnk (nI 1).toNatClampNeg = nI (K 1) := (hK 1 (by decide)).1
  have h8 := (hK 1 (by decide)).2.1
  refine br_f (by decide) <| br_f (by decide) <| br_f (by decide) <| br_t rfl <|  ⟨pk_in 1 6 (by decide), ?_⟩
  rw [e2]
  refine br_c (fun z => ⟨pk_in 1 6 (by decide), ?_⟩) (fun z => h0 (fun y => z ((xk_b4 _ h8).mpr (fun c h3 hc => y.1.2 c ⟨h3, hc⟩))) _ _)
  exact xk_add _ hd hK (xk_b5 _ h8 z) (fun y nk hk => br_f (by decide) <|  h1 ⟨⟨y, fun c hc => (xk_b4 _ h8).mp z c hc.1 hc.2⟩, trivial⟩ nk hk) (fun y nd nk => br_t rfl (h0 (fun x => y x.1.1) nd nk))
theorem xk_store_1 (post : Int32 → SX → Prop) {d : Nat} {K : Nat → Nat} (hd : d ≤ 4) (hK : xk_K xnk K)
    (h1 : ck_bs [8 + 1] d K → ∀ nk, xk_K nk (ck_rk [8 + 1] d K) → post 1 (xlim, xpc, nI (ck_rd [8 + 1] d), xwc, xit, xfc, xwt, xan, xlp, xpo, xpb, xwd, xwk, nk, xco, xcb, xml, xme, xro, xow, xol, xla, xsh, xoe, xoh, xsr, xss, xse, xms, xfm, xfa, xfd, xcv, xcr)) (h0 : ¬ ck_bs [8 + 1] d K → ∀ nd nk, post 0 (xlim, xpc, nd, xwc, xit, xfc, xwt, xan, xlp, xpo, xpb, xwd, xwk, nk, xco, xcb, xml, xme, xro, xow, xol, xla, xsh, xoe, xoh, xsr, xss, xse, xms, xfm, xfa, xfd, xcv, xcr)) : wpX_storeKind post (xlim, xpc, nI d, xwc, xit, xfc, xwt, xan, xlp, xpo, xpb, xwd, xwk, xnk, xco, xcb, xml, xme, xro, xow, xol, xla, xsh, xoe, xoh, xsr, xss, xse, xms, xfm, xfa, xfd, xcv, xcr) (nI 1) := by
  unfold wpX_storeKind
  refine xk_t3 _ hd hK (fun z => ?_) (fun z nd nk => br_t rfl ⟨rfl, h0 (fun y => z y.1.1) nd nk⟩)
  have e3 : d - 1 + 2 = d + 1 := by omega
  have e : ((2 : Int32) + nI (d - 1)).toNatClampNeg = d + 1 := by rw [xk_c2 (by omega), e3]
  have e2 : xnk (((2 : Int32) + nI (d - 1)).toNatClampNeg) = nI (K (d + 1)) := by rw [e]; exact (hK (d + 1) (by omega)).1
  refine br_f (by decide) <|  ⟨pk_in (d + 1) 6 (by omega) (by rw [xk_2, e3]), pk_in 1 6 (by decide), nm_r ?_ ⟨rfl, h1 ⟨⟨z, fun _ _ => trivial⟩, trivial⟩ (upd xnk 1 (nI (K (d + 1)))) ?_⟩⟩
  · rw [e2]
    rfl
  · exact xk_Kp hK (hK (d + 1) (by omega)).2.1 (fun q => absurd q (by decide))
theorem xk_op_2_1 (post : Int32 → SX → Prop) {d : Nat} {K : Nat → Nat} (hd : d ≤ 4) (hK : xk_K xnk K)
    (h1 : ck_bs [8 + 1] d K → ∀ nk, xk_K nk (ck_rk [8 + 1] d K) → post 1 (xlim, xpc, nI (ck_rd [8 + 1] d), xwc, xit, xfc, xwt, xan, xlp, xpo, xpb, xwd, xwk, nk, xco, xcb, xml, xme, xro, xow, xol, xla, xsh, xoe, xoh, xsr, xss, xse, xms, xfm, xfa, xfd, xcv, xcr)) (h0 : ¬ ck_bs [8 + 1] d K → ∀ nd nk, post 0 (xlim, xpc, nd, xwc, xit, xfc, xwt, xan, xlp, xpo, xpb, xwd, xwk, nk, xco, xcb, xml, xme, xro, xow, xol, xla, xsh, xoe, xoh, xsr, xss, xse, xms, xfm, xfa, xfd, xcv, xcr)) : wpX_changesKinds post (xlim, xpc, nI d, xwc, xit, xfc, xwt, xan, xlp, xpo, xpb, xwd, xwk, xnk, xco, xcb, xml, xme, xro, xow, xol, xla, xsh, xoe, xoh, xsr, xss, xse, xms, xfm, xfa, xfd, xcv, xcr) 2 (nI 1) := by
  exact br_f (by decide) <| br_f (by decide) <| br_f (by decide) <| br_f (by decide) <| br_t rfl <|  xk_store_1 _ hd hK (fun z nk hk => ⟨rfl, h1 z nk hk⟩) (fun z nd nk => ⟨rfl, h0 z nd nk⟩)
theorem xk_op_3 (post : Int32 → SX → Prop) {d : Nat} {B : Int32} {K : Nat → Nat} (hd : d ≤ 4) (hK : xk_K xnk K)
    (h1 : ck_bs [1, 1, 4] d K → ∀ nk, xk_K nk (ck_rk [1, 1, 4] d K) → post 1 (xlim, xpc, nI (ck_rd [1, 1, 4] d), xwc, xit, xfc, xwt, xan, xlp, xpo, xpb, xwd, xwk, nk, xco, xcb, xml, xme, xro, xow, xol, xla, xsh, xoe, xoh, xsr, xss, xse, xms, xfm, xfa, xfd, xcv, xcr)) (h0 : ¬ ck_bs [1, 1, 4] d K → ∀ nd nk, post 0 (xlim, xpc, nd, xwc, xit, xfc, xwt, xan, xlp, xpo, xpb, xwd, xwk, nk, xco, xcb, xml, xme, xro, xow, xol, xla, xsh, xoe, xoh, xsr, xss, xse, xms, xfm, xfa, xfd, xcv, xcr)) : wpX_changesKinds post (xlim, xpc, nI d, xwc, xit, xfc, xwt, xan, xlp, xpo, xpb, xwd, xwk, xnk, xco, xcb, xml, xme, xro, xow, xol, xla, xsh, xoe, xoh, xsr, xss, xse, xms, xfm, xfa, xfd, xcv, xcr) 3 B := by
  exact br_f (by decide) <| br_f (by decide) <| br_f (by decide) <| br_f (by decide) <| br_f (by decide) <| br_t rfl <|  xk_t1 _ (by omega) hK (fun b0 => br_f (by decide) <|  xk_t1 _ (by omega) hK (fun b1 => br_f (by decide) <|  xk_a _ (p := 4) (Or.inl rfl) (by omega) hK (fun b2 nk hk => br_f (by decide) <|  h1 ⟨b0, b1, b2, trivial⟩ nk hk) (fun b2 nd nk => br_t rfl (h0 (fun z => b2 (z.2.2.1)) nd nk))) (fun b1 nd nk => br_t rfl (h0 (fun z => b1 (z.2.1)) nd nk))) (fun b0 nd nk => br_t rfl (h0 (fun z => b0 (z.1)) nd nk))
theorem xk_op_4 (post : Int32 → SX → Prop) {d : Nat} {B : Int32} {K : Nat → Nat} (hd : d ≤ 4) (hK : xk_K xnk K)
    (h1 : ck_bs [1, 1, 4] d K → ∀ nk, xk_K nk (ck_rk [1, 1, 4] d K) → post 1 (xlim, xpc, nI (ck_rd [1, 1, 4] d), xwc, xit, xfc, xwt, xan, xlp, xpo, xpb, xwd, xwk, nk, xco, xcb, xml, xme, xro, xow, xol, xla, xsh, xoe, xoh, xsr, xss, xse, xms, xfm, xfa, xfd, xcv, xcr)) (h0 : ¬ ck_bs [1, 1, 4] d K → ∀ nd nk, post 0 (xlim, xpc, nd, xwc, xit, xfc, xwt, xan, xlp, xpo, xpb, xwd, xwk, nk, xco, xcb, xml, xme, xro, xow, xol, xla, xsh, xoe, xoh, xsr, xss, xse, xms, xfm, xfa, xfd, xcv, xcr)) : wpX_changesKinds post (xlim, xpc, nI d, xwc, xit, xfc, xwt, xan, xlp, xpo, xpb, xwd, xwk, xnk, xco, xcb, xml, xme, xro, xow, xol, xla, xsh, xoe, xoh, xsr, xss, xse, xms, xfm, xfa, xfd, xcv, xcr) 4 B := by
  exact br_f (by decide) <| br_f (by decide) <| br_f (by decide) <| br_f (by decide) <| br_f (by decide) <| br_f (by decide) <| br_t rfl <|  xk_t1 _ (by omega) hK (fun b0 => br_f (by decide) <|  xk_t1 _ (by omega) hK (fun b1 => br_f (by decide) <|  xk_a _ (p := 4) (Or.inl rfl) (by omega) hK (fun b2 nk hk => br_f (by decide) <|  h1 ⟨b0, b1, b2, trivial⟩ nk hk) (fun b2 nd nk => br_t rfl (h0 (fun z => b2 (z.2.2.1)) nd nk))) (fun b1 nd nk => br_t rfl (h0 (fun z => b1 (z.2.1)) nd nk))) (fun b0 nd nk => br_t rfl (h0 (fun z => b0 (z.1)) nd nk))
theorem xk_op_5 (post : Int32 → SX → Prop) {d : Nat} {B : Int32} {K : Nat → Nat} (hd : d ≤ 4) (hK : xk_K xnk K)
    (h1 : ck_bs [1, 1, 4] d K → ∀ nk, xk_K nk (ck_rk [1, 1, 4] d K) → post 1 (xlim, xpc, nI (ck_rd [1, 1, 4] d), xwc, xit, xfc, xwt, xan, xlp, xpo, xpb, xwd, xwk, nk, xco, xcb, xml, xme, xro, xow, xol, xla, xsh, xoe, xoh, xsr, xss, xse, xms, xfm, xfa, xfd, xcv, xcr)) (h0 : ¬ ck_bs [1, 1, 4] d K → ∀ nd nk, post 0 (xlim, xpc, nd, xwc, xit, xfc, xwt, xan, xlp, xpo, xpb, xwd, xwk, nk, xco, xcb, xml, xme, xro, xow, xol, xla, xsh, xoe, xoh, xsr, xss, xse, xms, xfm, xfa, xfd, xcv, xcr)) : wpX_changesKinds post (xlim, xpc, nI d, xwc, xit, xfc, xwt, xan, xlp, xpo, xpb, xwd, xwk, xnk, xco, xcb, xml, xme, xro, xow, xol, xla, xsh, xoe, xoh, xsr, xss, xse, xms, xfm, xfa, xfd, xcv, xcr) 5 B := by
  exact br_f (by decide) <| br_f (by decide) <| br_f (by decide) <| br_f (by decide) <| br_f (by decide) <| br_f (by decide) <| br_f (by decide) <| br_t rfl <|  xk_t1 _ (by omega) hK (fun b0 => br_f (by decide) <|  xk_t1 _ (by omega) hK (fun b1 => br_f (by decide) <|  xk_a _ (p := 4) (Or.inl rfl) (by omega) hK (fun b2 nk hk => br_f (by decide) <|  h1 ⟨b0, b1, b2, trivial⟩ nk hk) (fun b2 nd nk => br_t rfl (h0 (fun z => b2 (z.2.2.1)) nd nk))) (fun b1 nd nk => br_t rfl (h0 (fun z => b1 (z.2.1)) nd nk))) (fun b0 nd nk => br_t rfl (h0 (fun z => b0 (z.1)) nd nk))
theorem xk_op_6 (post : Int32 → SX → Prop) {d : Nat} {B : Int32} {K : Nat → Nat} (hd : d ≤ 4) (hK : xk_K xnk K)
    (h1 : ck_bs [1, 1, 4] d K → ∀ nk, xk_K nk (ck_rk [1, 1, 4] d K) → post 1 (xlim, xpc, nI (ck_rd [1, 1, 4] d), xwc, xit, xfc, xwt, xan, xlp, xpo, xpb, xwd, xwk, nk, xco, xcb, xml, xme, xro, xow, xol, xla, xsh, xoe, xoh, xsr, xss, xse, xms, xfm, xfa, xfd, xcv, xcr)) (h0 : ¬ ck_bs [1, 1, 4] d K → ∀ nd nk, post 0 (xlim, xpc, nd, xwc, xit, xfc, xwt, xan, xlp, xpo, xpb, xwd, xwk, nk, xco, xcb, xml, xme, xro, xow, xol, xla, xsh, xoe, xoh, xsr, xss, xse, xms, xfm, xfa, xfd, xcv, xcr)) : wpX_changesKinds post (xlim, xpc, nI d, xwc, xit, xfc, xwt, xan, xlp, xpo, xpb, xwd, xwk, xnk, xco, xcb, xml, xme, xro, xow, xol, xla, xsh, xoe, xoh, xsr, xss, xse, xms, xfm, xfa, xfd, xcv, xcr) 6 B := by
  exact br_f (by decide) <| br_f (by decide) <| br_f (by decide) <| br_f (by decide) <| br_f (by decide) <| br_f (by decide) <| br_f (by decide) <| br_f (by decide) <| br_t rfl <|  xk_t1 _ (by omega) hK (fun b0 => br_f (by decide) <|  xk_t1 _ (by omega) hK (fun b1 => br_f (by decide) <|  xk_a _ (p := 4) (Or.inl rfl) (by omega) hK (fun b2 nk hk => br_f (by decide) <|  h1 ⟨b0, b1, b2, trivial⟩ nk hk) (fun b2 nd nk => br_t rfl (h0 (fun z => b2 (z.2.2.1)) nd nk))) (fun b1 nd nk => br_t rfl (h0 (fun z => b1 (z.2.1)) nd nk))) (fun b0 nd nk => br_t rfl (h0 (fun z => b0 (z.1)) nd nk))
theorem xk_op_8 (post : Int32 → SX → Prop) {d : Nat} {B : Int32} {K : Nat → Nat} (hd : d ≤ 4) (hK : xk_K xnk K)
    (h1 : ck_bs [1] d K → ∀ nk, xk_K nk (ck_rk [1] d K) → post 1 (xlim, xpc, nI (ck_rd [1] d), xwc, xit, xfc, xwt, xan, xlp, xpo, xpb, xwd, xwk, nk, xco, xcb, xml, xme, xro, xow, xol, xla, xsh, xoe, xoh, xsr, xss, xse, xms, xfm, xfa, xfd, xcv, xcr)) (h0 : ¬ ck_bs [1] d K → ∀ nd nk, post 0 (xlim, xpc, nd, xwc, xit, xfc, xwt, xan, xlp, xpo, xpb, xwd, xwk, nk, xco, xcb, xml, xme, xro, xow, xol, xla, xsh, xoe, xoh, xsr, xss, xse, xms, xfm, xfa, xfd, xcv, xcr)) : wpX_changesKinds post (xlim, xpc, nI d, xwc, xit, xfc, xwt, xan, xlp, xpo, xpb, xwd, xwk, xnk, xco, xcb, xml, xme, xro, xow, xol, xla, xsh, xoe, xoh, xsr, xss, xse, xms, xfm, xfa, xfd, xcv, xcr) 8 B := by
  exact br_f (by decide) <| br_f (by decide) <| br_f (by decide) <| br_f (by decide) <| br_f (by decide) <| br_f (by decide) <| br_f (by decide) <| br_f (by decide) <| br_f (by decide) <| br_f (by decide) <| br_t rfl <|  xk_t1 _ (by omega) hK (fun b0 => ⟨rfl, h1 ⟨b0, trivial⟩ _ hK⟩) (fun b0 nd nk => ⟨rfl, h0 (fun z => b0 (z.1)) nd nk⟩)
theorem xk_op_9 (post : Int32 → SX → Prop) {d : Nat} {B : Int32} {K : Nat → Nat} (hd : d ≤ 4) (hK : xk_K xnk K)
    (h1 : ck_bs [5] d K → ∀ nk, xk_K nk (ck_rk [5] d K) → post 1 (xlim, xpc, nI (ck_rd [5] d), xwc, xit, xfc, xwt, xan, xlp, xpo, xpb, xwd, xwk, nk, xco, xcb, xml, xme, xro, xow, xol, xla, xsh, xoe, xoh, xsr, xss, xse, xms, xfm, xfa, xfd, xcv, xcr)) (h0 : ¬ ck_bs [5] d K → ∀ nd nk, post 0 (xlim, xpc, nd, xwc, xit, xfc, xwt, xan, xlp, xpo, xpb, xwd, xwk, nk, xco, xcb, xml, xme, xro, xow, xol, xla, xsh, xoe, xoh, xsr, xss, xse, xms, xfm, xfa, xfd, xcv, xcr)) : wpX_changesKinds post (xlim, xpc, nI d, xwc, xit, xfc, xwt, xan, xlp, xpo, xpb, xwd, xwk, xnk, xco, xcb, xml, xme, xro, xow, xol, xla, xsh, xoe, xoh, xsr, xss, xse, xms, xfm, xfa, xfd, xcv, xcr) 9 B := by
  exact br_f (by decide) <| br_f (by decide) <| br_f (by decide) <| br_f (by decide) <| br_f (by decide) <| br_f (by decide) <| br_f (by decide) <| br_f (by decide) <| br_f (by decide) <| br_f (by decide) <| br_f (by decide) <| br_t rfl <|  xk_a _ (p := 5) (Or.inr rfl) (by omega) hK (fun b0 nk hk => ⟨rfl, h1 ⟨b0, trivial⟩ nk hk⟩) (fun b0 nd nk => ⟨rfl, h0 (fun z => b0 (z.1)) nd nk⟩)
theorem xk_op_10 (post : Int32 → SX → Prop) {d : Nat} {B : Int32} {K : Nat → Nat} (hd : d ≤ 4) (hK : xk_K xnk K)
    (h1 : ck_bs [2] d K → ∀ nk, xk_K nk (ck_rk [2] d K) → post 1 (xlim, xpc, nI (ck_rd [2] d), xwc, xit, xfc, xwt, xan, xlp, xpo, xpb, xwd, xwk, nk, xco, xcb, xml, xme, xro, xow, xol, xla, xsh, xoe, xoh, xsr, xss, xse, xms, xfm, xfa, xfd, xcv, xcr)) (h0 : ¬ ck_bs [2] d K → ∀ nd nk, post 0 (xlim, xpc, nd, xwc, xit, xfc, xwt, xan, xlp, xpo, xpb, xwd, xwk, nk, xco, xcb, xml, xme, xro, xow, xol, xla, xsh, xoe, xoh, xsr, xss, xse, xms, xfm, xfa, xfd, xcv, xcr)) : wpX_changesKinds post (xlim, xpc, nI d, xwc, xit, xfc, xwt, xan, xlp, xpo, xpb, xwd, xwk, xnk, xco, xcb, xml, xme, xro, xow, xol, xla, xsh, xoe, xoh, xsr, xss, xse, xms, xfm, xfa, xfd, xcv, xcr) 10 B := by
  exact br_f (by decide) <| br_f (by decide) <| br_f (by decide) <| br_f (by decide) <| br_f (by decide) <| br_f (by decide) <| br_f (by decide) <| br_f (by decide) <| br_f (by decide) <| br_f (by decide) <| br_f (by decide) <| br_f (by decide) <| br_t rfl <|  xk_t2 _ (by omega) hK (fun b0 => ⟨rfl, h1 ⟨b0, trivial⟩ _ hK⟩) (fun b0 nd nk => ⟨rfl, h0 (fun z => b0 (z.1)) nd nk⟩)
theorem xk_op_11 (post : Int32 → SX → Prop) {d : Nat} {B : Int32} {K : Nat → Nat} (hd : d ≤ 4) (hK : xk_K xnk K)
    (h1 : ck_bs [1, 5] d K → ∀ nk, xk_K nk (ck_rk [1, 5] d K) → post 1 (xlim, xpc, nI (ck_rd [1, 5] d), xwc, xit, xfc, xwt, xan, xlp, xpo, xpb, xwd, xwk, nk, xco, xcb, xml, xme, xro, xow, xol, xla, xsh, xoe, xoh, xsr, xss, xse, xms, xfm, xfa, xfd, xcv, xcr)) (h0 : ¬ ck_bs [1, 5] d K → ∀ nd nk, post 0 (xlim, xpc, nd, xwc, xit, xfc, xwt, xan, xlp, xpo, xpb, xwd, xwk, nk, xco, xcb, xml, xme, xro, xow, xol, xla, xsh, xoe, xoh, xsr, xss, xse, xms, xfm, xfa, xfd, xcv, xcr)) : wpX_changesKinds post (xlim, xpc, nI d, xwc, xit, xfc, xwt, xan, xlp, xpo, xpb, xwd, xwk, xnk, xco, xcb, xml, xme, xro, xow, xol, xla, xsh, xoe, xoh, xsr, xss, xse, xms, xfm, xfa, xfd, xcv, xcr) 11 B := by
  exact br_f (by decide) <| br_f (by decide) <| br_f (by decide) <| br_f (by decide) <| br_f (by decide) <| br_f (by decide) <| br_f (by decide) <| br_f (by decide) <| br_f (by decide) <| br_f (by decide) <| br_f (by decide) <| br_f (by decide) <| br_f (by decide) <| br_t rfl <|  xk_t1 _ (by omega) hK (fun b0 => br_f (by decide) <|  xk_a _ (p := 5) (Or.inr rfl) (by omega) hK (fun b1 nk hk => br_f (by decide) <|  h1 ⟨b0, b1, trivial⟩ nk hk) (fun b1 nd nk => br_t rfl (h0 (fun z => b1 (z.2.1)) nd nk))) (fun b0 nd nk => br_t rfl (h0 (fun z => b0 (z.1)) nd nk))
theorem xk_op_12 (post : Int32 → SX → Prop) {d : Nat} {B : Int32} {K : Nat → Nat} (hd : d ≤ 4) (hK : xk_K xnk K)
    (h1 : ck_bs [1, 2, 4] d K → ∀ nk, xk_K nk (ck_rk [1, 2, 4] d K) → post 1 (xlim, xpc, nI (ck_rd [1, 2, 4] d), xwc, xit, xfc, xwt, xan, xlp, xpo, xpb, xwd, xwk, nk, xco, xcb, xml, xme, xro, xow, xol, xla, xsh, xoe, xoh, xsr, xss, xse, xms, xfm, xfa, xfd, xcv, xcr)) (h0 : ¬ ck_bs [1, 2, 4] d K → ∀ nd nk, post 0 (xlim, xpc, nd, xwc, xit, xfc, xwt, xan, xlp, xpo, xpb, xwd, xwk, nk, xco, xcb, xml, xme, xro, xow, xol, xla, xsh, xoe, xoh, xsr, xss, xse, xms, xfm, xfa, xfd, xcv, xcr)) : wpX_changesKinds post (xlim, xpc, nI d, xwc, xit, xfc, xwt, xan, xlp, xpo, xpb, xwd, xwk, xnk, xco, xcb, xml, xme, xro, xow, xol, xla, xsh, xoe, xoh, xsr, xss, xse, xms, xfm, xfa, xfd, xcv, xcr) 12 B := by
  exact br_f (by decide) <| br_f (by decide) <| br_f (by decide) <| br_f (by decide) <| br_f (by decide) <| br_f (by decide) <| br_f (by decide) <| br_f (by decide) <| br_f (by decide) <| br_f (by decide) <| br_f (by decide) <| br_f (by decide) <| br_f (by decide) <| br_f (by decide) <| br_t rfl <|  xk_t1 _ (by omega) hK (fun b0 => br_f (by decide) <|  xk_t2 _ (by omega) hK (fun b1 => br_f (by decide) <|  xk_a _ (p := 4) (Or.inl rfl) (by omega) hK (fun b2 nk hk => br_f (by decide) <|  h1 ⟨b0, b1, b2, trivial⟩ nk hk) (fun b2 nd nk => br_t rfl (h0 (fun z => b2 (z.2.2.1)) nd nk))) (fun b1 nd nk => br_t rfl (h0 (fun z => b1 (z.2.1)) nd nk))) (fun b0 nd nk => br_t rfl (h0 (fun z => b0 (z.1)) nd nk))
theorem xk_op_13 (post : Int32 → SX → Prop) {d : Nat} {B : Int32} {K : Nat → Nat} (hd : d ≤ 4) (hK : xk_K xnk K)
    (h1 : ck_bs [1, 1, 2] d K → ∀ nk, xk_K nk (ck_rk [1, 1, 2] d K) → post 1 (xlim, xpc, nI (ck_rd [1, 1, 2] d), xwc, xit, xfc, xwt, xan, xlp, xpo, xpb, xwd, xwk, nk, xco, xcb, xml, xme, xro, xow, xol, xla, xsh, xoe, xoh, xsr, xss, xse, xms, xfm, xfa, xfd, xcv, xcr)) (h0 : ¬ ck_bs [1, 1, 2] d K → ∀ nd nk, post 0 (xlim, xpc, nd, xwc, xit, xfc, xwt, xan, xlp, xpo, xpb, xwd, xwk, nk, xco, xcb, xml, xme, xro, xow, xol, xla, xsh, xoe, xoh, xsr, xss, xse, xms, xfm, xfa, xfd, xcv, xcr)) : wpX_changesKinds post (xlim, xpc, nI d, xwc, xit, xfc, xwt, xan, xlp, xpo, xpb, xwd, xwk, xnk, xco, xcb, xml, xme, xro, xow, xol, xla, xsh, xoe, xoh, xsr, xss, xse, xms, xfm, xfa, xfd, xcv, xcr) 13 B := by
  exact br_f (by decide) <| br_f (by decide) <| br_f (by decide) <| br_f (by decide) <| br_f (by decide) <| br_f (by decide) <| br_f (by decide) <| br_f (by decide) <| br_f (by decide) <| br_f (by decide) <| br_f (by decide) <| br_f (by decide) <| br_f (by decide) <| br_f (by decide) <| br_f (by decide) <| br_t rfl <|  xk_t1 _ (by omega) hK (fun b0 => br_f (by decide) <|  xk_t1 _ (by omega) hK (fun b1 => br_f (by decide) <|  xk_t2 _ (by omega) hK (fun b2 => br_f (by decide) <|  h1 ⟨b0, b1, b2, trivial⟩ _ hK) (fun b2 nd nk => br_t rfl (h0 (fun z => b2 (z.2.2.1)) nd nk))) (fun b1 nd nk => br_t rfl (h0 (fun z => b1 (z.2.1)) nd nk))) (fun b0 nd nk => br_t rfl (h0 (fun z => b0 (z.1)) nd nk))
theorem xk_op_14 (post : Int32 → SX → Prop) {d : Nat} {B : Int32} {K : Nat → Nat} (hd : d ≤ 4) (hK : xk_K xnk K)
    (h1 : ck_bs [2] d K → ∀ nk, xk_K nk (ck_rk [2] d K) → post 1 (xlim, xpc, nI (ck_rd [2] d), xwc, xit, xfc, xwt, xan, xlp, xpo, xpb, xwd, xwk, nk, xco, xcb, xml, xme, xro, xow, xol, xla, xsh, xoe, xoh, xsr, xss, xse, xms, xfm, xfa, xfd, xcv, xcr)) (h0 : ¬ ck_bs [2] d K → ∀ nd nk, post 0 (xlim, xpc, nd, xwc, xit, xfc, xwt, xan, xlp, xpo, xpb, xwd, xwk, nk, xco, xcb, xml, xme, xro, xow, xol, xla, xsh, xoe, xoh, xsr, xss, xse, xms, xfm, xfa, xfd, xcv, xcr)) : wpX_changesKinds post (xlim, xpc, nI d, xwc, xit, xfc, xwt, xan, xlp, xpo, xpb, xwd, xwk, xnk, xco, xcb, xml, xme, xro, xow, xol, xla, xsh, xoe, xoh, xsr, xss, xse, xms, xfm, xfa, xfd, xcv, xcr) 14 B := by
  exact br_f (by decide) <| br_f (by decide) <| br_f (by decide) <| br_f (by decide) <| br_f (by decide) <| br_f (by decide) <| br_f (by decide) <| br_f (by decide) <| br_f (by decide) <| br_f (by decide) <| br_f (by decide) <| br_f (by decide) <| br_f (by decide) <| br_f (by decide) <| br_f (by decide) <| br_f (by decide) <| br_t rfl <|  xk_t2 _ (by omega) hK (fun b0 => ⟨rfl, h1 ⟨b0, trivial⟩ _ hK⟩) (fun b0 nd nk => ⟨rfl, h0 (fun z => b0 (z.1)) nd nk⟩)
theorem xk_op_15 (post : Int32 → SX → Prop) {d : Nat} {B : Int32} {K : Nat → Nat} (hd : d ≤ 4) (hK : xk_K xnk K)
    (h1 : ck_bs [2, 4] d K → ∀ nk, xk_K nk (ck_rk [2, 4] d K) → post 1 (xlim, xpc, nI (ck_rd [2, 4] d), xwc, xit, xfc, xwt, xan, xlp, xpo, xpb, xwd, xwk, nk, xco, xcb, xml, xme, xro, xow, xol, xla, xsh, xoe, xoh, xsr, xss, xse, xms, xfm, xfa, xfd, xcv, xcr)) (h0 : ¬ ck_bs [2, 4] d K → ∀ nd nk, post 0 (xlim, xpc, nd, xwc, xit, xfc, xwt, xan, xlp, xpo, xpb, xwd, xwk, nk, xco, xcb, xml, xme, xro, xow, xol, xla, xsh, xoe, xoh, xsr, xss, xse, xms, xfm, xfa, xfd, xcv, xcr)) : wpX_changesKinds post (xlim, xpc, nI d, xwc, xit, xfc, xwt, xan, xlp, xpo, xpb, xwd, xwk, xnk, xco, xcb, xml, xme, xro, xow, xol, xla, xsh, xoe, xoh, xsr, xss, xse, xms, xfm, xfa, xfd, xcv, xcr) 15 B := by
  exact br_f (by decide) <| br_f (by decide) <| br_f (by decide) <| br_f (by decide) <| br_f (by decide) <| br_f (by decide) <| br_f (by decide) <| br_f (by decide) <| br_f (by decide) <| br_f (by decide) <| br_f (by decide) <| br_f (by decide) <| br_f (by decide) <| br_f (by decide) <| br_f (by decide) <| br_f (by decide) <| br_f (by decide) <| br_t rfl <|  xk_t2 _ (by omega) hK (fun b0 => br_f (by decide) <|  xk_a _ (p := 4) (Or.inl rfl) (by omega) hK (fun b1 nk hk => br_f (by decide) <|  h1 ⟨b0, b1, trivial⟩ nk hk) (fun b1 nd nk => br_t rfl (h0 (fun z => b1 (z.2.1)) nd nk))) (fun b0 nd nk => br_t rfl (h0 (fun z => b0 (z.1)) nd nk))
theorem xk_op_16 (post : Int32 → SX → Prop) {d : Nat} {B : Int32} {K : Nat → Nat} (hd : d ≤ 4) (hK : xk_K xnk K)
    (h1 : ck_bs [5] d K → ∀ nk, xk_K nk (ck_rk [5] d K) → post 1 (xlim, xpc, nI (ck_rd [5] d), xwc, xit, xfc, xwt, xan, xlp, xpo, xpb, xwd, xwk, nk, xco, xcb, xml, xme, xro, xow, xol, xla, xsh, xoe, xoh, xsr, xss, xse, xms, xfm, xfa, xfd, xcv, xcr)) (h0 : ¬ ck_bs [5] d K → ∀ nd nk, post 0 (xlim, xpc, nd, xwc, xit, xfc, xwt, xan, xlp, xpo, xpb, xwd, xwk, nk, xco, xcb, xml, xme, xro, xow, xol, xla, xsh, xoe, xoh, xsr, xss, xse, xms, xfm, xfa, xfd, xcv, xcr)) : wpX_changesKinds post (xlim, xpc, nI d, xwc, xit, xfc, xwt, xan, xlp, xpo, xpb, xwd, xwk, xnk, xco, xcb, xml, xme, xro, xow, xol, xla, xsh, xoe, xoh, xsr, xss, xse, xms, xfm, xfa, xfd, xcv, xcr) 16 B := by
  exact br_f (by decide) <| br_f (by decide) <| br_f (by decide) <| br_f (by decide) <| br_f (by decide) <| br_f (by decide) <| br_f (by decide) <| br_f (by decide) <| br_f (by decide) <| br_f (by decide) <| br_f (by decide) <| br_f (by decide) <| br_f (by decide) <| br_f (by decide) <| br_f (by decide) <| br_f (by decide) <| br_f (by decide) <| br_f (by decide) <| br_t rfl <|  xk_a _ (p := 5) (Or.inr rfl) (by omega) hK (fun b0 nk hk => ⟨rfl, h1 ⟨b0, trivial⟩ nk hk⟩) (fun b0 nd nk => ⟨rfl, h0 (fun z => b0 (z.1)) nd nk⟩)
theorem xk_op_17 (post : Int32 → SX → Prop) {d : Nat} {B : Int32} {K : Nat → Nat} (hd : d ≤ 4) (hK : xk_K xnk K)
    (h1 : ck_bs [5] d K → ∀ nk, xk_K nk (ck_rk [5] d K) → post 1 (xlim, xpc, nI (ck_rd [5] d), xwc, xit, xfc, xwt, xan, xlp, xpo, xpb, xwd, xwk, nk, xco, xcb, xml, xme, xro, xow, xol, xla, xsh, xoe, xoh, xsr, xss, xse, xms, xfm, xfa, xfd, xcv, xcr)) (h0 : ¬ ck_bs [5] d K → ∀ nd nk, post 0 (xlim, xpc, nd, xwc, xit, xfc, xwt, xan, xlp, xpo, xpb, xwd, xwk, nk, xco, xcb, xml, xme, xro, xow, xol, xla, xsh, xoe, xoh, xsr, xss, xse, xms, xfm, xfa, xfd, xcv, xcr)) : wpX_changesKinds post (xlim, xpc, nI d, xwc, xit, xfc, xwt, xan, xlp, xpo, xpb, xwd, xwk, xnk, xco, xcb, xml, xme, xro, xow, xol, xla, xsh, xoe, xoh, xsr, xss, xse, xms, xfm, xfa, xfd, xcv, xcr) 17 B := by
  exact br_f (by decide) <| br_f (by decide) <| br_f (by decide) <| br_f (by decide) <| br_f (by decide) <| br_f (by decide) <| br_f (by decide) <| br_f (by decide) <| br_f (by decide) <| br_f (by decide) <| br_f (by decide) <| br_f (by decide) <| br_f (by decide) <| br_f (by decide) <| br_f (by decide) <| br_f (by decide) <| br_f (by decide) <| br_f (by decide) <| br_f (by decide) <| br_t rfl <|  xk_a _ (p := 5) (Or.inr rfl) (by omega) hK (fun b0 nk hk => ⟨rfl, h1 ⟨b0, trivial⟩ nk hk⟩) (fun b0 nd nk => ⟨rfl, h0 (fun z => b0 (z.1)) nd nk⟩)
theorem xk_op_18 (post : Int32 → SX → Prop) {d : Nat} {B : Int32} {K : Nat → Nat} (hd : d ≤ 4) (hK : xk_K xnk K)
    (h1 : ck_bs [1, 4] d K → ∀ nk, xk_K nk (ck_rk [1, 4] d K) → post 1 (xlim, xpc, nI (ck_rd [1, 4] d), xwc, xit, xfc, xwt, xan, xlp, xpo, xpb, xwd, xwk, nk, xco, xcb, xml, xme, xro, xow, xol, xla, xsh, xoe, xoh, xsr, xss, xse, xms, xfm, xfa, xfd, xcv, xcr)) (h0 : ¬ ck_bs [1, 4] d K → ∀ nd nk, post 0 (xlim, xpc, nd, xwc, xit, xfc, xwt, xan, xlp, xpo, xpb, xwd, xwk, nk, xco, xcb, xml, xme, xro, xow, xol, xla, xsh, xoe, xoh, xsr, xss, xse, xms, xfm, xfa, xfd, xcv, xcr)) : wpX_changesKinds post (xlim, xpc, nI d, xwc, xit, xfc, xwt, xan, xlp, xpo, xpb, xwd, xwk, xnk, xco, xcb, xml, xme, xro, xow, xol, xla, xsh, xoe, xoh, xsr, xss, xse, xms, xfm, xfa, xfd, xcv, xcr) 18 B := by
  exact br_f (by decide) <| br_f (by decide) <| br_f (by decide) <| br_f (by decide) <| br_f (by decide) <| br_f (by decide) <| br_f (by decide) <| br_f (by decide) <| br_f (by decide) <| br_f (by decide) <| br_f (by decide) <| br_f (by decide) <| br_f (by decide) <| br_f (by decide) <| br_f (by decide) <| br_f (by decide) <| br_f (by decide) <| br_f (by decide) <| br_f (by decide) <| br_f (by decide) <| br_t rfl <|  xk_t1 _ (by omega) hK (fun b0 => br_f (by decide) <|  xk_a _ (p := 4) (Or.inl rfl) (by omega) hK (fun b1 nk hk => br_f (by decide) <|  h1 ⟨b0, b1, trivial⟩ nk hk) (fun b1 nd nk => br_t rfl (h0 (fun z => b1 (z.2.1)) nd nk))) (fun b0 nd nk => br_t rfl (h0 (fun z => b0 (z.1)) nd nk))
theorem xk_op_19 (post : Int32 → SX → Prop) {d : Nat} {B : Int32} {K : Nat → Nat} (hd : d ≤ 4) (hK : xk_K xnk K)
    (h1 : ck_bs [1] d K → ∀ nk, xk_K nk (ck_rk [1] d K) → post 1 (xlim, xpc, nI (ck_rd [1] d), xwc, xit, xfc, xwt, xan, xlp, xpo, xpb, xwd, xwk, nk, xco, xcb, xml, xme, xro, xow, xol, xla, xsh, xoe, xoh, xsr, xss, xse, xms, xfm, xfa, xfd, xcv, xcr)) (h0 : ¬ ck_bs [1] d K → ∀ nd nk, post 0 (xlim, xpc, nd, xwc, xit, xfc, xwt, xan, xlp, xpo, xpb, xwd, xwk, nk, xco, xcb, xml, xme, xro, xow, xol, xla, xsh, xoe, xoh, xsr, xss, xse, xms, xfm, xfa, xfd, xcv, xcr)) : wpX_changesKinds post (xlim, xpc, nI d, xwc, xit, xfc, xwt, xan, xlp, xpo, xpb, xwd, xwk, xnk, xco, xcb, xml, xme, xro, xow, xol, xla, xsh, xoe, xoh, xsr, xss, xse, xms, xfm, xfa, xfd, xcv, xcr) 19 B := by
  exact br_f (by decide) <| br_f (by decide) <| br_f (by decide) <| br_f (by decide) <| br_f (by decide) <| br_f (by decide) <| br_f (by decide) <| br_f (by decide) <| br_f (by decide) <| br_f (by decide) <| br_f (by decide) <| br_f (by decide) <| br_f (by decide) <| br_f (by decide) <| br_f (by decide) <| br_f (by decide) <| br_f (by decide) <| br_f (by decide) <| br_f (by decide) <| br_f (by decide) <| br_f (by decide) <| br_t rfl <|  xk_t1 _ (by omega) hK (fun b0 => ⟨rfl, h1 ⟨b0, trivial⟩ _ hK⟩) (fun b0 nd nk => ⟨rfl, h0 (fun z => b0 (z.1)) nd nk⟩)
theorem xk_op_21 (post : Int32 → SX → Prop) {d : Nat} {B : Int32} {K : Nat → Nat} (hd : d ≤ 4) (hK : xk_K xnk K)
    (h1 : ck_bs [3] d K → ∀ nk, xk_K nk (ck_rk [3] d K) → post 1 (xlim, xpc, nI (ck_rd [3] d), xwc, xit, xfc, xwt, xan, xlp, xpo, xpb, xwd, xwk, nk, xco, xcb, xml, xme, xro, xow, xol, xla, xsh, xoe, xoh, xsr, xss, xse, xms, xfm, xfa, xfd, xcv, xcr)) (h0 : ¬ ck_bs [3] d K → ∀ nd nk, post 0 (xlim, xpc, nd, xwc, xit, xfc, xwt, xan, xlp, xpo, xpb, xwd, xwk, nk, xco, xcb, xml, xme, xro, xow, xol, xla, xsh, xoe, xoh, xsr, xss, xse, xms, xfm, xfa, xfd, xcv, xcr)) : wpX_changesKinds post (xlim, xpc, nI d, xwc, xit, xfc, xwt, xan, xlp, xpo, xpb, xwd, xwk, xnk, xco, xcb, xml, xme, xro, xow, xol, xla, xsh, xoe, xoh, xsr, xss, xse, xms, xfm, xfa, xfd, xcv, xcr) 21 B := by
  exact br_f (by decide) <| br_f (by decide) <| br_f (by decide) <| br_f (by decide) <| br_f (by decide) <| br_f (by decide) <| br_f (by decide) <| br_f (by decide) <| br_f (by decide) <| br_f (by decide) <| br_f (by decide) <| br_f (by decide) <| br_f (by decide) <| br_f (by decide) <| br_f (by decide) <| br_f (by decide) <| br_f (by decide) <| br_f (by decide) <| br_f (by decide) <| br_f (by decide) <| br_f (by decide) <| br_f (by decide) <| br_f (by decide) <| br_t rfl <|  xk_t3 _ hd hK (fun b0 => ⟨rfl, h1 ⟨⟨b0, fun _ _ => trivial⟩, trivial⟩ _ hK⟩) (fun b0 nd nk => ⟨rfl, h0 (fun z => b0 z.1.1) nd nk⟩)
theorem xk_op_7 (post : Int32 → SX → Prop) {d : Nat} {B : Int32} {K : Nat → Nat} (hd : d ≤ 4) (hK : xk_K xnk K)
    (h1 : ck_bs [] d K → ∀ nk, xk_K nk (ck_rk [] d K) → post 1 (xlim, xpc, nI (ck_rd [] d), xwc, xit, xfc, xwt, xan, xlp, xpo, xpb, xwd, xwk, nk, xco, xcb, xml, xme, xro, xow, xol, xla, xsh, xoe, xoh, xsr, xss, xse, xms, xfm, xfa, xfd, xcv, xcr)) (h0 : ¬ ck_bs [] d K → ∀ nd nk, post 0 (xlim, xpc, nd, xwc, xit, xfc, xwt, xan, xlp, xpo, xpb, xwd, xwk, nk, xco, xcb, xml, xme, xro, xow, xol, xla, xsh, xoe, xoh, xsr, xss, xse, xms, xfm, xfa, xfd, xcv, xcr)) : wpX_changesKinds post (xlim, xpc, nI d, xwc, xit, xfc, xwt, xan, xlp, xpo, xpb, xwd, xwk, xnk, xco, xcb, xml, xme, xro, xow, xol, xla, xsh, xoe, xoh, xsr, xss, xse, xms, xfm, xfa, xfd, xcv, xcr) 7 B := by
  exact br_f (by decide) <| br_f (by decide) <| br_f (by decide) <| br_f (by decide) <| br_f (by decide) <| br_f (by decide) <| br_f (by decide) <| br_f (by decide) <| br_f (by decide) <| br_t rfl <|  h1 trivial _ hK
theorem xk_op_22 (post : Int32 → SX → Prop) {d : Nat} {B : Int32} {K : Nat → Nat} (hd : d ≤ 4) (hK : xk_K xnk K)
    (h1 : ck_bs [] d K → ∀ nk, xk_K nk (ck_rk [] d K) → post 1 (xlim, xpc, nI (ck_rd [] d), xwc, xit, xfc, xwt, xan, xlp, xpo, xpb, xwd, xwk, nk, xco, xcb, xml, xme, xro, xow, xol, xla, xsh, xoe, xoh, xsr, xss, xse, xms, xfm, xfa, xfd, xcv, xcr)) (h0 : ¬ ck_bs [] d K → ∀ nd nk, post 0 (xlim, xpc, nd, xwc, xit, xfc, xwt, xan, xlp, xpo, xpb, xwd, xwk, nk, xco, xcb, xml, xme, xro, xow, xol, xla, xsh, xoe, xoh, xsr, xss, xse, xms, xfm, xfa, xfd, xcv, xcr)) : wpX_changesKinds post (xlim, xpc, nI d, xwc, xit, xfc, xwt, xan, xlp, xpo, xpb, xwd, xwk, xnk, xco, xcb, xml, xme, xro, xow, xol, xla, xsh, xoe, xoh, xsr, xss, xse, xms, xfm, xfa, xfd, xcv, xcr) 22 B := by
  exact br_f (by decide) <| br_t (by decide) <| h1 trivial _ hK
theorem xk_op_23 (post : Int32 → SX → Prop) {d : Nat} {B : Int32} {K : Nat → Nat} (hd : d ≤ 4) (hK : xk_K xnk K)
    (h1 : ck_bs [] d K → ∀ nk, xk_K nk (ck_rk [] d K) → post 1 (xlim, xpc, nI (ck_rd [] d), xwc, xit, xfc, xwt, xan, xlp, xpo, xpb, xwd, xwk, nk, xco, xcb, xml, xme, xro, xow, xol, xla, xsh, xoe, xoh, xsr, xss, xse, xms, xfm, xfa, xfd, xcv, xcr)) (h0 : ¬ ck_bs [] d K → ∀ nd nk, post 0 (xlim, xpc, nd, xwc, xit, xfc, xwt, xan, xlp, xpo, xpb, xwd, xwk, nk, xco, xcb, xml, xme, xro, xow, xol, xla, xsh, xoe, xoh, xsr, xss, xse, xms, xfm, xfa, xfd, xcv, xcr)) : wpX_changesKinds post (xlim, xpc, nI d, xwc, xit, xfc, xwt, xan, xlp, xpo, xpb, xwd, xwk, xnk, xco, xcb, xml, xme, xro, xow, xol, xla, xsh, xoe, xoh, xsr, xss, xse, xms, xfm, xfa, xfd, xcv, xcr) 23 B := by
  exact br_f (by decide) <| br_t (by decide) <| h1 trivial _ hK
theorem xk_op_24 (post : Int32 → SX → Prop) {d : Nat} {B : Int32} {K : Nat → Nat} (hd : d ≤ 4) (hK : xk_K xnk K)
    (h1 : ck_bs [] d K → ∀ nk, xk_K nk (ck_rk [] d K) → post 1 (xlim, xpc, nI (ck_rd [] d), xwc, xit, xfc, xwt, xan, xlp, xpo, xpb, xwd, xwk, nk, xco, xcb, xml, xme, xro, xow, xol, xla, xsh, xoe, xoh, xsr, xss, xse, xms, xfm, xfa, xfd, xcv, xcr)) (h0 : ¬ ck_bs [] d K → ∀ nd nk, post 0 (xlim, xpc, nd, xwc, xit, xfc, xwt, xan, xlp, xpo, xpb, xwd, xwk, nk, xco, xcb, xml, xme, xro, xow, xol, xla, xsh, xoe, xoh, xsr, xss, xse, xms, xfm, xfa, xfd, xcv, xcr)) : wpX_changesKinds post (xlim, xpc, nI d, xwc, xit, xfc, xwt, xan, xlp, xpo, xpb, xwd, xwk, xnk, xco, xcb, xml, xme, xro, xow, xol, xla, xsh, xoe, xoh, xsr, xss, xse, xms, xfm, xfa, xfd, xcv, xcr) 24 B := by
  exact br_f (by decide) <| br_t (by decide) <| h1 trivial _ hK
theorem xk_op_20 (post : Int32 → SX → Prop) {d : Nat} {B : Int32} {K : Nat → Nat} (hd : d ≤ 4) (hK : xk_K xnk K)
    (h1 : ck_bs [10] d K → ∀ nk, xk_K nk (ck_rk [10] d K) → post 1 (xlim, xpc, nI (ck_rd [10] d), xwc, xit, xfc, xwt, xan, xlp, xpo, xpb, xwd, xwk, nk, xco, xcb, xml, xme, xro, xow, xol, xla, xsh, xoe, xoh, xsr, xss, xse, xms, xfm, xfa, xfd, xcv, xcr)) (h0 : ¬ ck_bs [10] d K → ∀ nd nk, post 0 (xlim, xpc, nd, xwc, xit, xfc, xwt, xan, xlp, xpo, xpb, xwd, xwk, nk, xco, xcb, xml, xme, xro, xow, xol, xla, xsh, xoe, xoh, xsr, xss, xse, xms, xfm, xfa, xfd, xcv, xcr)) : wpX_changesKinds post (xlim, xpc, nI d, xwc, xit, xfc, xwt, xan, xlp, xpo, xpb, xwd, xwk, xnk, xco, xcb, xml, xme, xro, xow, xol, xla, xsh, xoe, xoh, xsr, xss, xse, xms, xfm, xfa, xfd, xcv, xcr) 20 B := by
  have e : ((2 : Int32) + nI d) - 1 = nI (d + 1) := by rw [xk_2]; exact nI_pred (d + 1)
  refine br_f (by decide) <| br_f (by decide) <| br_f (by decide) <| br_f (by decide) <| br_f (by decide) <| br_f (by decide) <| br_f (by decide) <| br_f (by decide) <| br_f (by decide) <| br_f (by decide) <| br_f (by decide) <| br_f (by decide) <| br_f (by decide) <| br_f (by decide) <| br_f (by decide) <| br_f (by decide) <| br_f (by decide) <| br_f (by decide) <| br_f (by decide) <| br_f (by decide) <| br_f (by decide) <| br_f (by decide) <| br_t rfl <|  pk_le d 0 (fun z => h0 (fun y => absurd y.1.1.1 (by omega)) _ _) (fun z => ?_)
  rw [e]
  refine ⟨pk_in (d + 1) 6 (by omega), ?_⟩
  rw [nI_clamp (by omega), (hK (d + 1) (by omega)).1]
  exact xk_add _ hd hK ((hK (d + 1) (by omega)).2.2 (by omega)) (fun y nk hk => br_f (by decide) <|  h1 ⟨⟨⟨z, y⟩, fun _ _ => trivial⟩, trivial⟩ nk hk) (fun y nd nk => br_t rfl (h0 (fun x => y x.1.1.2) nd nk))
theorem xk_op (post : Int32 → SX → Prop) {o b d : Nat} {B : Int32} {K : Nat → Nat} (ho : o < 25) (hb : o = 1 ∨ o = 2 → b ≤ 1 ∧ B = nI b) (hd : d ≤ 4) (hK : xk_K xnk K)
    (h1 : ck_bs (ck_pg o b) d K → ∀ nk, xk_K nk (ck_rk (ck_pg o b) d K) → post 1 (xlim, xpc, nI (ck_rd (ck_pg o b) d), xwc, xit, xfc, xwt, xan, xlp, xpo, xpb, xwd, xwk, nk, xco, xcb, xml, xme, xro, xow, xol, xla, xsh, xoe, xoh, xsr, xss, xse, xms, xfm, xfa, xfd, xcv, xcr)) (h0 : ¬ ck_bs (ck_pg o b) d K → ∀ nd nk, post 0 (xlim, xpc, nd, xwc, xit, xfc, xwt, xan, xlp, xpo, xpb, xwd, xwk, nk, xco, xcb, xml, xme, xro, xow, xol, xla, xsh, xoe, xoh, xsr, xss, xse, xms, xfm, xfa, xfd, xcv, xcr)) : wpX_changesKinds post (xlim, xpc, nI d, xwc, xit, xfc, xwt, xan, xlp, xpo, xpb, xwd, xwk, xnk, xco, xcb, xml, xme, xro, xow, xol, xla, xsh, xoe, xoh, xsr, xss, xse, xms, xfm, xfa, xfd, xcv, xcr) (nI o) B := by
  rcases ck_25 ho with rfl | rfl | rfl | rfl | rfl | rfl | rfl | rfl | rfl | rfl | rfl | rfl | rfl | rfl | rfl | rfl | rfl | rfl | rfl | rfl | rfl | rfl | rfl | rfl | rfl
  · exact xk_op_0 post hd hK h1 h0
  · obtain ⟨hb1, rfl⟩ := hb (Or.inl rfl)
    obtain rfl | rfl : b = 0 ∨ b = 1 := by omega
    · exact xk_op_1_0 post hd hK h1 h0
    · exact xk_op_1_1 post hd hK h1 h0
  · obtain ⟨hb1, rfl⟩ := hb (Or.inr rfl)
    obtain rfl | rfl : b = 0 ∨ b = 1 := by omega
    · exact xk_op_2_0 post hd hK h1 h0
    · exact xk_op_2_1 post hd hK h1 h0
  · exact xk_op_3 post hd hK h1 h0
  · exact xk_op_4 post hd hK h1 h0
  · exact xk_op_5 post hd hK h1 h0
  · exact xk_op_6 post hd hK h1 h0
  · exact xk_op_7 post hd hK h1 h0
  · exact xk_op_8 post hd hK h1 h0
  · exact xk_op_9 post hd hK h1 h0
  · exact xk_op_10 post hd hK h1 h0
  · exact xk_op_11 post hd hK h1 h0
  · exact xk_op_12 post hd hK h1 h0
  · exact xk_op_13 post hd hK h1 h0
  · exact xk_op_14 post hd hK h1 h0
  · exact xk_op_15 post hd hK h1 h0
  · exact xk_op_16 post hd hK h1 h0
  · exact xk_op_17 post hd hK h1 h0
  · exact xk_op_18 post hd hK h1 h0
  · exact xk_op_19 post hd hK h1 h0
  · exact xk_op_20 post hd hK h1 h0
  · exact xk_op_21 post hd hK h1 h0
  · exact xk_op_22 post hd hK h1 h0
  · exact xk_op_23 post hd hK h1 h0
  · exact xk_op_24 post hd hK h1 h0
end XK
end
section
/-! THE COMPONENT'S CHECK: the table of kinds -/
theorem xw_has : ∀ a, a < 8 → ∀ b, b < 8 → ∀ c, c < 3 → ((a ||| b) &&& ck_bit c ≠ 0 ↔ (a &&& ck_bit c ≠ 0 ∨ b &&& ck_bit c ≠ 0)) := by decide +kernel
theorem xw_orI : ∀ a, a < 8 → ∀ b, b < 8 → nI a ||| nI b = nI (a ||| b) := by decide +kernel
def xw_T (wd wk : Nat → Int32) (D W : Nat → Nat) : Prop := (∀ k, k < 16 → wd k = nI (D k) - 1 ∧ D k ≤ 5) ∧ (∀ i, i < 96 → wk i = nI (W i)) ∧ ck_wb W ∧ (∀ k, k < 16 → ∀ d, D k = d + 1 → ∀ j, j < d + 2 → W (6 * k + j) ≠ 0) ∧ (∀ k, k < 16 → D k = 0 → ∀ j, j < 6 → W (6 * k + j) = 0)
def xw_or (W K : Nat → Nat) (s m : Nat) : Nat → Nat := fun i => if 6 * s ≤ i ∧ i < 6 * s + m then W i ||| K (i - 6 * s) else W i
theorem xw_or_i {W K : Nat → Nat} {s m j : Nat} (h : j < m) : xw_or W K s m (6 * s + j) = W (6 * s + j) ||| K j := by
  unfold xw_or
  rw [if_pos (by omega), show 6 * s + j - 6 * s = j by omega]
theorem xw_or_o {W K : Nat → Nat} {s m i : Nat} (h : ¬ (6 * s ≤ i ∧ i < 6 * s + m)) : xw_or W K s m i = W i := if_neg h
theorem xw_or_0 {W K : Nat → Nat} {s : Nat} : xw_or W K s 0 = W := by
  funext i
  exact xw_or_o (by omega)
theorem xw_or_s {W K : Nat → Nat} {s m : Nat} : xw_or W K s (m + 1) = ck_un (xw_or W K s m) (6 * s + m) (W (6 * s + m) ||| K m) := by
  funext i
  by_cases e : i = 6 * s + m
  · subst e
    rw [ck_us, xw_or_i (by omega)]
  · rw [ck_uo e]
    by_cases h : 6 * s ≤ i ∧ i < 6 * s + m
    · obtain ⟨j, rfl⟩ : ∃ j, i = 6 * s + j := ⟨i - 6 * s, by omega⟩
      rw [xw_or_i (by omega), xw_or_i (by omega)]
    · rw [xw_or_o h, xw_or_o (by omega)]
/-- the table grows; the flag tells it -/
def xw_A (D W D' W' : Nat → Nat) (wc wc' : Int32) : Prop := (∀ k, k < 16 → D k ≠ 0 → D' k = D k) ∧ (∀ i, i < 96 → ∀ c, ck_has (W i) c → ck_has (W' i) c) ∧ ((D' = D ∧ W' = W ∧ wc' = wc) ∨ (wc' = 1 ∧ ck_mu D W < ck_mu D' W'))
theorem xw_A_rf {D W : Nat → Nat} {wc : Int32} : xw_A D W D W wc wc := ⟨fun _ _ _ => rfl, fun _ _ _ h => h, Or.inl ⟨rfl, rfl, rfl⟩⟩
theorem xw_A_tr {D W D1 W1 D2 W2 : Nat → Nat} {a b c : Int32} (h : xw_A D W D1 W1 a b) (g : xw_A D1 W1 D2 W2 b c) : xw_A D W D2 W2 a c := by
  obtain ⟨h1, h2, h3⟩ := h
  obtain ⟨g1, g2, g3⟩ := g
  refine ⟨fun k hk h0 => ?_, fun i hi c hc => g2 i hi c (h2 i hi c hc), ?_⟩
  · rw [g1 k hk (by rw [h1 k hk h0]; exact h0), h1 k hk h0]
  · rcases h3 with ⟨rfl, rfl, rfl⟩ | ⟨rfl, hm⟩
    · exact g3
    · rcases g3 with ⟨rfl, rfl, rfl⟩ | ⟨rfl, gm⟩
      · exact Or.inr ⟨rfl, hm⟩
      · exact Or.inr ⟨rfl, by omega⟩
theorem xw_sub_up {n s d : Nat} {D W D' W' K : Nat → Nat} {a b : Int32} (hn : n ≤ 16) (hd : d ≤ 4) (h : xw_A D W D' W' a b) (g : ck_sub n D W s d K) : ck_sub n D' W' s d K := by
  obtain ⟨g1, g2, g3⟩ := g
  exact ⟨g1, by rw [h.1 s (by omega) (by omega)]; exact g2, fun j hj c hc => h.2.1 _ (by omega) c (g3 j hj c hc)⟩
/-- what the flag tells of the cells so far -/
def xw_F (W K : Nat → Nat) (s m : Nat) (a b : Int32) : Prop := (b = 0 ∧ a = 0 ∧ ∀ j, j < m → W (6 * s + j) ||| K j = W (6 * s + j)) ∨ (b = 1 ∧ (a = 1 ∨ ∃ j, j < m ∧ W (6 * s + j) ||| K j ≠ W (6 * s + j)))
/-- an arrival's table -/
theorem xw_new {wd wk wd' wk' : Nat → Int32} {D W K : Nat → Nat} {s d : Nat} {a b : Int32} (hs : s < 16) (hd : d ≤ 4) (hT : xw_T wd wk D W) (hK : ∀ j, j < 6 → K j < 8 ∧ (2 ≤ j → K j < 4)) (hK0 : ∀ j, j < d + 2 → K j ≠ 0) (hD : D s = 0 ∨ D s = d + 1)
    (hwd : ∀ k, k < 16 → wd' k = nI (ck_un D s (d + 1) k) - 1) (hwk : ∀ i, i < 96 → wk' i = nI (xw_or W K s (d + 2) i)) (hf : xw_F W K s (d + 2) (if D s = 0 then 1 else a) b) (ha : rl_b a) :
    xw_T wd' wk' (ck_un D s (d + 1)) (xw_or W K s (d + 2)) ∧ rl_b b ∧ xw_A D W (ck_un D s (d + 1)) (xw_or W K s (d + 2)) a b := by
  obtain ⟨t1, t2, t3, t4, t5⟩ := hT
  have hwb : ck_wb (xw_or W K s (d + 2)) := fun i => by
    by_cases h : 6 * s ≤ i ∧ i < 6 * s + (d + 2)
    · obtain ⟨j, rfl⟩ : ∃ j, i = 6 * s + j := ⟨i - 6 * s, by omega⟩
      rw [xw_or_i (by omega)]
      have hk := hK j (by omega)
      exact ⟨(ck_pw_or _ (t3 _).1 _ hk.1).2.2, fun h2 => ck_or4 _ ((t3 _).2 h2) _ (hk.2 (by omega))⟩
    · rw [xw_or_o h]
      exact t3 i
  have hpw : ∀ i, i < 96 → ck_pw (W i) ≤ ck_pw (xw_or W K s (d + 2) i) := fun i _ => by
    by_cases h : 6 * s ≤ i ∧ i < 6 * s + (d + 2)
    · obtain ⟨j, rfl⟩ : ∃ j, i = 6 * s + j := ⟨i - 6 * s, by omega⟩
      rw [xw_or_i (by omega)]
      exact (ck_pw_or _ (t3 _).1 _ (hK j (by omega)).1).1
    · rw [xw_or_o h]
      exact Nat.le_refl _
  have hDD : ∀ k, k < 16 → D k ≠ 0 → ck_un D s (d + 1) k = D k := fun k _ h0 => by
    by_cases e : k = s
    · subst e
      rw [ck_us]
      omega
    · exact ck_uo e
  refine ⟨⟨fun k hk => ⟨hwd k hk, ?_⟩, hwk, hwb, fun k hk d' hd' j hj => ?_, fun k hk h0 j hj => ?_⟩, ?_, hDD, fun i hi c hc => ?_, ?_⟩
  · by_cases e : k = s
    · rw [e, ck_us]
      omega
    · rw [ck_uo e]
      exact (t1 k hk).2
  · by_cases e : k = s
    · subst e
      rw [ck_us] at hd'
      rw [xw_or_i (by omega)]
      exact ck_orn _ (t3 _).1 _ (hK j (by omega)).1 (hK0 j (by omega))
    · rw [ck_uo e] at hd'
      have h5 := (t1 k hk).2
      rw [xw_or_o (by omega)]
      exact t4 k hk d' hd' j hj
  · by_cases e : k = s
    · rw [e, ck_us] at h0
      omega
    · rw [ck_uo e] at h0
      rw [xw_or_o (by omega)]
      exact t5 k hk h0 j hj
  · rcases hf with h | h
    · exact Or.inl h.1
    · exact Or.inr h.1
  · by_cases h : 6 * s ≤ i ∧ i < 6 * s + (d + 2)
    · obtain ⟨j, rfl⟩ : ∃ j, i = 6 * s + j := ⟨i - 6 * s, by omega⟩
      rw [xw_or_i (by omega)]
      exact ⟨hc.1, (xw_has _ (t3 _).1 _ (hK j (by omega)).1 c hc.1).mpr (Or.inl hc.2)⟩
    · rw [xw_or_o h]
      exact hc
  · by_cases h0 : D s = 0
    · rw [if_pos h0] at hf
      have hb : b = 1 := by
        rcases hf with h | h
        · exact absurd h.2.1 (by decide)
        · exact h.1
      exact Or.inr ⟨hb, ck_mu_d (fun k hk h => by rw [hDD k hk h]; exact h) hpw hs h0 (by rw [ck_us]; omega)⟩
    · rw [if_neg h0] at hf
      have hd1 : D s = d + 1 := by omega
      have e1 : ck_un D s (d + 1) = D := by
        funext k
        by_cases e : k = s
        · rw [e, ck_us, hd1]
        · exact ck_uo e
      rcases hf with ⟨rfl, rfl, hq⟩ | ⟨rfl, h | ⟨j, hj, hq⟩⟩
      · refine Or.inl ⟨e1, ?_, rfl⟩
        funext i
        by_cases h : 6 * s ≤ i ∧ i < 6 * s + (d + 2)
        · obtain ⟨j, rfl⟩ : ∃ j, i = 6 * s + j := ⟨i - 6 * s, by omega⟩
          rw [xw_or_i (by omega), hq j (by omega)]
        · exact xw_or_o h
      · by_cases hq : ∀ j, j < d + 2 → W (6 * s + j) ||| K j = W (6 * s + j)
        · refine Or.inl ⟨e1, ?_, h.symm⟩
          funext i
          by_cases h' : 6 * s ≤ i ∧ i < 6 * s + (d + 2)
          · obtain ⟨j, rfl⟩ : ∃ j, i = 6 * s + j := ⟨i - 6 * s, by omega⟩
            rw [xw_or_i (by omega), hq j (by omega)]
          · exact xw_or_o h'
        · have hx : ∃ j, j < d + 2 ∧ W (6 * s + j) ||| K j ≠ W (6 * s + j) := Classical.byContradiction fun q => hq fun j hj => Classical.byContradiction fun q' => q ⟨j, hj, q'⟩
          obtain ⟨j, hj, hq⟩ := hx
          rw [e1]
          exact Or.inr ⟨rfl, ck_mu_w hpw (i := 6 * s + j) (by omega) (by rw [xw_or_i hj]; exact (ck_pw_or _ (t3 _).1 _ (hK j (by omega)).1).2.1 (t4 s hs d hd1 j hj) hq)⟩
      · rw [e1]
        exact Or.inr ⟨rfl, ck_mu_w hpw (i := 6 * s + j) (by omega) (by rw [xw_or_i hj]; exact (ck_pw_or _ (t3 _).1 _ (hK j (by omega)).1).2.1 (t4 s hs d hd1 j hj) hq)⟩
theorem xw_sub_new {D W K : Nat → Nat} {n s d : Nat} (hs : s < n) (hW : ck_wb W) (hK : ∀ j, j < 6 → K j < 8 ∧ (2 ≤ j → K j < 4)) (hd : d ≤ 4) : ck_sub n (ck_un D s (d + 1)) (xw_or W K s (d + 2)) s d K :=
  ⟨hs, ck_us, fun j hj c hc => by
    rw [xw_or_i hj]
    exact ⟨hc.1, (xw_has _ (hW _).1 _ (hK j (by omega)).1 c hc.1).mpr (Or.inr hc.2)⟩⟩
/-- every kind in the table comes by a way -/
def xw_C (M : Nat → Nat → (Nat → Nat) → Prop) (D W : Nat → Nat) : Prop := ∀ k d, k < 16 → D k = d + 1 → (∃ f, M k d f) ∧ ck_wi d (fun j => W (6 * k + j)) (M k d)
theorem xw_C_new {M : Nat → Nat → (Nat → Nat) → Prop} {D W K : Nat → Nat} {s d : Nat} (h : xw_C M D W) (h5 : ∀ k, k < 16 → D k ≤ 5) (hW : ck_wb W) (hK : ∀ j, j < 6 → K j < 8 ∧ (2 ≤ j → K j < 4)) (hd : d ≤ 4) (hD : D s = 0 ∨ D s = d + 1) (hz : D s = 0 → ∀ j, j < 6 → W (6 * s + j) = 0) (hf : ∃ f, M s d f) (hw : ck_wi d K (M s d)) : xw_C M (ck_un D s (d + 1)) (xw_or W K s (d + 2)) := by
  intro k d' hk hd'
  by_cases e : k = s
  · subst e
    rw [ck_us] at hd'
    obtain rfl : d' = d := by omega
    refine ⟨hf, fun j hj c hc => ?_⟩
    dsimp only at hc
    rw [xw_or_i hj] at hc
    rcases (xw_has _ (hW _).1 _ (hK j (by omega)).1 c hc.1).mp hc.2 with q | q
    · rcases hD with h0 | h1
      · rw [hz h0 j (by omega)] at q
        exact absurd (Nat.zero_and _) q
      · exact (h k d' hk h1).2 j hj c ⟨hc.1, q⟩
    · exact hw j hj c ⟨hc.1, q⟩
  · rw [ck_uo e] at hd'
    obtain ⟨a1, a2⟩ := h k d' hk hd'
    refine ⟨a1, fun j hj c hc => ?_⟩
    dsimp only at hc
    have := h5 k hk
    rw [xw_or_o (by omega)] at hc
    exact a2 j hj c hc
section XW
variable {xlim xpc xnd xwc xit xfc xwt xan xlp : Int32}
variable {xpo xpb xwd xwk xnk xco xcb xml xme xro xow xol xla xsh xoe xoh xsr xss xse xms xfm xfa xfd xcv xcr : Nat → Int32}
theorem xw_6 (s c : Nat) : (6 : Int32) * nI s + nI c = nI (6 * s + c) := by rw [show (6 : Int32) * nI s = nI (6 * s) from pk_mul 6 s, nI_add]
theorem xw_l49 (post : Int32 → SX → Prop) {s d : Nat} {K W : Nat → Nat} {a : Int32} (hs : s < 16) (hd : d ≤ 4) (hK : xk_K xnk K) (hW : ck_wb W)
    (hp : ∀ wk wc, (∀ i, i < 96 → wk i = nI (xw_or W K s (d + 2) i)) → xw_F W K s (d + 2) a wc → post 1 (xlim, xpc, nI d, wc, xit, xfc, xwt, xan, xlp, xpo, xpb, xwd, wk, xnk, xco, xcb, xml, xme, xro, xow, xol, xla, xsh, xoe, xoh, xsr, xss, xse, xms, xfm, xfa, xfd, xcv, xcr)) :
    ∀ e c n wk wc, c + e = d + 2 → e < n → (∀ i, i < 96 → wk i = nI (xw_or W K s c i)) → xw_F W K s c a wc → wX_arrives_49 post (nI s) xlim xpc (nI d) xit xfc xwt xan xlp n (nI c) wc xpo xpb xwd wk xnk xco xcb xml xme xro xow xol xla xsh xoe xoh xsr xss xse xms xfm xfa xfd xcv xcr := by
  intro e
  induction e with
  | zero =>
    intro c n wk wc hc hn hw hf
    obtain ⟨n, rfl⟩ : ∃ m, n = m + 1 := ⟨n - 1, by omega⟩
    obtain rfl : c = d + 2 := by omega
    exact br_t (by rw [xk_2]; exact nI_le (Nat.le_refl _) (by omega)) (hp wk wc hw hf)
  | succ e ih =>
    intro c n wk wc hc hn hw hf
    obtain ⟨n, rfl⟩ : ∃ m, n = m + 1 := ⟨n - 1, by omega⟩
    have i0 := xw_6 s c
    have e0 : ((6 : Int32) * nI s + nI c).toNatClampNeg = 6 * s + c := pk_cl _ i0
    have hk := hK c (by omega)
    have ew : wk (((6 : Int32) * nI s + nI c).toNatClampNeg) = nI (W (6 * s + c)) := by
      rw [e0, hw _ (by omega), xw_or_o (by omega)]
    have ek : nI (W (6 * s + c)) ||| xnk (nI c).toNatClampNeg = nI (W (6 * s + c) ||| K c) := by
      rw [nI_clamp (by omega), hk.1, xw_orI _ (hW _).1 _ hk.2.1]
    have hw' : ∀ i, i < 96 → upd wk (((6 : Int32) * nI s + nI c).toNatClampNeg) (nI (W (6 * s + c) ||| K c)) i = nI (xw_or W K s (c + 1) i) := fun i hi => by
      rw [xw_or_s, e0]
      by_cases q : i = 6 * s + c
      · rw [q, pk_us, ck_us]
      · rw [pk_un q, ck_uo q, hw i hi]
    have hlt : W (6 * s + c) ||| K c < 8 := (ck_pw_or _ (hW _).1 _ hk.2.1).2.2
    refine br_f (by rw [xk_2]; exact nI_ge (by omega) (by omega)) ⟨pk_in (6 * s + c) 96 (by omega) i0, nm_r ew ⟨pk_in c 6 (by omega), nm_r ek ⟨pk_in (6 * s + c) 96 (by omega) i0, nm_e (br_c (fun z => br_c (fun y => nm_r (nI_1 c) (ih (c + 1) n _ 0 (by omega) (by omega) hw' ?_)) (fun y => nm_r (nI_1 c) (ih (c + 1) n _ 1 (by omega) (by omega) hw' ?_))) (fun z => nm_r (nI_1 c) (ih (c + 1) n _ 1 (by omega) (by omega) hw' ?_)))⟩⟩⟩
    · have y' := (nI_eq (by omega) (by have := (hW (6 * s + c)).1; omega)).mp y
      rcases hf with ⟨_, h2, h3⟩ | ⟨h1, _⟩
      · refine Or.inl ⟨rfl, h2, fun j hj => ?_⟩
        by_cases q : j = c
        · rw [q]; exact y'
        · exact h3 j (by omega)
      · rw [h1] at z
        exact absurd z (by decide)
    · exact Or.inr ⟨rfl, Or.inr ⟨c, by omega, fun q => y (by rw [q])⟩⟩
    · rcases hf with ⟨h1, _⟩ | ⟨_, h2⟩
      · exact absurd h1 z
      · refine Or.inr ⟨rfl, ?_⟩
        rcases h2 with h2 | ⟨j, hj, hq⟩
        · exact Or.inl h2
        · exact Or.inr ⟨j, by omega, hq⟩
theorem xw_arr (post : Int32 → SX → Prop) {s n d : Nat} {D W K : Nat → Nat} (hs : s ≤ 16) (hn : n ≤ 16) (hd : d ≤ 4) (hK : xk_K xnk K) (hK0 : ∀ j, j < d + 2 → K j ≠ 0) (hT : xw_T xwd xwk D W) (ha : rl_b xwc)
    (h1 : s < n → (D s = 0 ∨ D s = d + 1) → ∀ wd wk wc, xw_T wd wk (ck_un D s (d + 1)) (xw_or W K s (d + 2)) → rl_b wc → xw_A D W (ck_un D s (d + 1)) (xw_or W K s (d + 2)) xwc wc → post 1 (xlim, xpc, nI d, wc, xit, xfc, xwt, xan, xlp, xpo, xpb, wd, wk, xnk, xco, xcb, xml, xme, xro, xow, xol, xla, xsh, xoe, xoh, xsr, xss, xse, xms, xfm, xfa, xfd, xcv, xcr))
    (h0 : ¬ (s < n ∧ (D s = 0 ∨ D s = d + 1)) → post 0 (xlim, xpc, nI d, xwc, xit, xfc, xwt, xan, xlp, xpo, xpb, xwd, xwk, xnk, xco, xcb, xml, xme, xro, xow, xol, xla, xsh, xoe, xoh, xsr, xss, xse, xms, xfm, xfa, xfd, xcv, xcr)) : wpX_arrives post (xlim, xpc, nI d, xwc, xit, xfc, xwt, xan, xlp, xpo, xpb, xwd, xwk, xnk, xco, xcb, xml, xme, xro, xow, xol, xla, xsh, xoe, xoh, xsr, xss, xse, xms, xfm, xfa, xfd, xcv, xcr) (nI s) (nI n) := by
  have hK' : ∀ j, j < 6 → K j < 8 ∧ (2 ≤ j → K j < 4) := fun j hj => (hK j hj).2
  refine pk_lt s n (fun z => ⟨pk_in s 16 (by omega), ?_⟩) (fun z => h0 (by omega))
  have hT2 := hT
  obtain ⟨t1, t2, t3, t4, t5⟩ := hT2
  have e0 : (nI s).toNatClampNeg = s := nI_clamp (by omega)
  have ed := (t1 s (by omega)).1
  have h5 := (t1 s (by omega)).2
  rw [e0, ed]
  refine br_c (fun y => ⟨pk_in s 16 (by omega), nm_e ⟨pk_in s 16 (by omega), ?_⟩⟩) (fun y => ⟨pk_in s 16 (by omega), ?_⟩)
  · have y0 : D s = 0 := by
      cases hq : D s with
      | zero => rfl
      | succ q =>
        rw [hq, rl_s1] at y
        have := nI_pos (n := q) (by omega)
        rw [y] at this
        exact absurd (by decide) this
    rw [e0, pk_us]
    refine br_t rfl ⟨d + 2 + 1, xw_l49 post (K := K) (W := W) (a := 1) (by omega) hd hK t3 (fun wk wc hwk hf => ?_) (d + 2) 0 _ _ _ (by omega) (by omega) (by rw [xw_or_0]; exact t2) (Or.inr ⟨rfl, Or.inl rfl⟩)⟩
    obtain ⟨q1, q2, q3⟩ := xw_new (wd' := upd xwd s (nI d)) (wk' := wk) (a := xwc) (b := wc) (by omega) hd hT hK' hK0 (Or.inl y0) (fun k hk => by
      by_cases e : k = s
      · rw [e, pk_us, ck_us, rl_s1]
      · rw [pk_un e, ck_uo e]
        exact (t1 k hk).1) hwk (by rw [if_pos y0]; exact hf) ha
    exact h1 z (Or.inl y0) _ _ _ q1 q2 q3
  · have y0 : D s ≠ 0 := fun q => y (by rw [q]; exact rl_m1)
    obtain ⟨q, hq⟩ : ∃ q, D s = q + 1 := ⟨D s - 1, by omega⟩
    rw [e0, ed, hq, rl_s1]
    refine br_c (fun x => ?_) (fun x => ?_)
    · have x' : q = d := (nI_eq (by omega) (by omega)).mp x
      rw [x'] at hq
      refine ⟨d + 2 + 1, xw_l49 post (K := K) (W := W) (a := xwc) (by omega) hd hK t3 (fun wk wc hwk hf => ?_) (d + 2) 0 _ _ _ (by omega) (by omega) (by rw [xw_or_0]; exact t2) ?_⟩
      · obtain ⟨q1, q2, q3⟩ := xw_new (wd' := xwd) (wk' := wk) (a := xwc) (b := wc) (by omega) hd hT hK' hK0 (Or.inr hq) (fun k hk => by
          by_cases e : k = s
          · rw [e, ck_us, ed, hq]
          · rw [ck_uo e]
            exact (t1 k hk).1) hwk (by rw [if_neg y0]; exact hf) ha
        exact h1 z (Or.inr hq) _ _ _ q1 q2 q3
      · rcases ha with h | h
        · exact Or.inl ⟨h, h, fun j hj => absurd hj (by omega)⟩
        · exact Or.inr ⟨h, Or.inl h⟩
    · exact h0 (fun w => x (by
        have : q = d := by omega
        rw [this]))
end XW
end
section
/-! THE COMPONENT'S CHECK: the passes -/
/-- the code's numbers, as the component holds them while it checks -/
def xw_code (po pb : Nat → Int32) (op b : Nat → Nat) (n : Nat) : Prop := n ≤ 16 ∧ ∀ k, k < n → op k < 25 ∧ po k = nI (op k) ∧ rl_fb (op k) (pb k) n ∧ b k = (pb k).toNatClampNeg
theorem xw_code_b {po pb : Nat → Int32} {op b : Nat → Nat} {n k : Nat} (h : xw_code po pb op b n) (hk : k < n) : (op k = 1 ∨ op k = 2 → b k ≤ 1 ∧ pb k = nI (b k)) ∧ (op k = 7 ∨ op k = 8 → b k < n ∧ pb k = nI (b k)) := by
  obtain ⟨hn, h⟩ := h
  obtain ⟨_, _, hf, hb⟩ := h k hk
  refine ⟨fun z => ?_, fun z => ?_⟩
  · rcases hf.2.1 (by omega) with e | e
    · rw [hb, e]
      exact ⟨by decide, by decide⟩
    · rw [hb, e]
      exact ⟨by decide, by decide⟩
  · obtain ⟨e1, e2⟩ := hf.2.2.1 z
    obtain ⟨j, hj, e⟩ := nI_of (x := pb k) (Int32.not_lt.mpr e1)
    rw [e] at e2
    have := (nI_ltI hj (by omega)).mp e2
    rw [hb, e, nI_clamp hj]
    exact ⟨this, rfl⟩
theorem xw_code_p {po pb : Nat → Int32} {op b : Nat → Nat} {n : Nat} (h : xw_code po pb op b n) : ∀ k, k < n → ck_pr (ck_pg (op k) (b k)) := fun k hk => ck_pr_pg (h.2 k hk).1 (fun z => ((xw_code_b h hk).1 z).1)
theorem xw_rd4 : ∀ (L : List Nat) (d : Nat) (f : Nat → Nat), ck_pr L → d ≤ 4 → ck_bs L d f → ck_rd L d ≤ 4
  | [], _, _, _, hd, _ => hd
  | p :: L, d, f, hp, hd, hb => by
    refine xw_rd4 L _ _ (fun q hq => hp q (List.mem_cons_of_mem _ hq)) ?_ hb.2
    have h1 := hb.1.1
    unfold ck_ok at h1
    unfold ck_nd
    by_cases c3 : p ≤ 3
    · simp only [c3, ↓reduceIte] at h1 ⊢
      omega
    · by_cases c7 : p ≤ 7
      · simp only [c3, c7, ↓reduceIte] at h1 ⊢
        omega
      · by_cases c9 : p ≤ 9
        · simp only [c3, c7, c9, ↓reduceIte] at h1 ⊢
          omega
        · simp only [c3, c7, c9, ↓reduceIte] at h1 ⊢
          omega
/-- no cell of the stack or of the locals becomes empty -/
theorem xw_k0 {p d : Nat} {K : Nat → Nat} (hp : 1 ≤ p ∧ p ≤ 10) (ho : ck_ok p d) (h : ∀ j, j < d + 2 → K j ≠ 0) : ∀ j, j < ck_nd p d + 2 → ck_k p d K j ≠ 0 := by
  intro j hj
  obtain ⟨p1, p10⟩ := hp
  unfold ck_ok at ho
  unfold ck_nd at hj
  unfold ck_k
  by_cases c3 : p ≤ 3
  · simp only [c3, ↓reduceIte] at ho hj ⊢
    exact h j (by omega)
  · by_cases c5 : p ≤ 5
    · have c7 : p ≤ 7 := by omega
      simp only [c3, c5, c7, ↓reduceIte] at ho hj ⊢
      by_cases e : j = d + 2
      · rw [e, ck_us]; omega
      · rw [ck_uo e]; exact h j (by omega)
    · by_cases c7 : p ≤ 7
      · simp only [c3, c5, c7, ↓reduceIte] at ho hj ⊢
        by_cases e : j = d + 2
        · rw [e, ck_us]; exact h _ (by omega)
        · rw [ck_uo e]; exact h j (by omega)
      · by_cases c9 : p ≤ 9
        · simp only [c3, c5, c7, c9, ↓reduceIte] at ho hj ⊢
          by_cases e : j = p - 8
          · rw [e, ck_us]; exact h _ (by omega)
          · rw [ck_uo e]; exact h j (by omega)
        · simp only [c3, c5, c7, c9, ↓reduceIte] at ho hj ⊢
          by_cases e : j = d + 2
          · rw [e, ck_us]; exact h _ (by omega)
          · rw [ck_uo e]; exact h j (by omega)
theorem xw_rk0 : ∀ (L : List Nat) (d : Nat) (K : Nat → Nat), ck_pr L → ck_bs L d K → (∀ j, j < d + 2 → K j ≠ 0) → ∀ j, j < ck_rd L d + 2 → ck_rk L d K j ≠ 0
  | [], _, _, _, _, h => h
  | p :: L, d, K, hp, hb, h => xw_rk0 L _ _ (fun q hq => hp q (List.mem_cons_of_mem _ hq)) hb.2 (xw_k0 (hp p (List.mem_cons_self ..)) hb.1.1 h)
/-- what an instruction owes to the table, once it has been looked at -/
def xw_Q (op b : Nat → Nat) (n : Nat) (D W D' W' : Nat → Nat) (k d : Nat) : Prop :=
  ck_bs (ck_pg (op k) (b k)) d (fun j => W (6 * k + j)) ∧ ((op k = 7 ∨ op k = 8) → ck_sub n D' W' (b k) (ck_rd (ck_pg (op k) (b k)) d) (ck_rk (ck_pg (op k) (b k)) d (fun j => W (6 * k + j)))) ∧ ((op k ≠ 7 ∧ op k ≠ 19) → ck_sub n D' W' (k + 1) (ck_rd (ck_pg (op k) (b k)) d) (ck_rk (ck_pg (op k) (b k)) d (fun j => W (6 * k + j))))
def xw_Ce (op b : Nat → Nat) (n : Nat) (M : Nat → Nat → (Nat → Nat) → Prop) : Prop := ck_cl op b n M ∧ ∀ k d f d' f', M k d f → M k d' f' → d = d'
/-- where the table comes by ways of M, the step is good, and what it brings comes by ways of M too -/
theorem xw_good {op b : Nat → Nat} {n : Nat} {M : Nat → Nat → (Nat → Nat) → Prop} {D W : Nat → Nat} {k d : Nat} (hp : ck_pr (ck_pg (op k) (b k))) (hM : xw_Ce op b n M) (hC : xw_C M D W) (hk : k < 16) (hD : D k = d + 1) :
    ck_bs (ck_pg (op k) (b k)) d (fun j => W (6 * k + j)) ∧ (∀ s, (∀ f, M k d f → M s (ck_rd (ck_pg (op k) (b k)) d) (ck_rk (ck_pg (op k) (b k)) d f)) → s < n ∧ (s < 16 → D s = 0 ∨ D s = ck_rd (ck_pg (op k) (b k)) d + 1) ∧ (∃ f, M s (ck_rd (ck_pg (op k) (b k)) d) f) ∧ ck_wi (ck_rd (ck_pg (op k) (b k)) d) (ck_rk (ck_pg (op k) (b k)) d (fun j => W (6 * k + j))) (M s (ck_rd (ck_pg (op k) (b k)) d))) := by
  obtain ⟨⟨f0, hf0⟩, hw⟩ := hC k d hk hD
  obtain ⟨h1, h2⟩ := ck_wL _ d _ _ hp ⟨f0, hf0⟩ hw (fun f hf => (hM.1 k d f hf).2.1)
  refine ⟨h1, fun s hs => ⟨(hM.1 s _ _ (hs f0 hf0)).1, fun hs6 => ?_, ⟨_, hs f0 hf0⟩, fun j hj c hc => ?_⟩⟩
  · by_cases e : D s = 0
    · exact Or.inl e
    · obtain ⟨q, hq⟩ : ∃ q, D s = q + 1 := ⟨D s - 1, by omega⟩
      obtain ⟨⟨g, hg⟩, _⟩ := hC s q hs6 hq
      have := hM.2 s q g _ _ hg (hs f0 hf0)
      exact Or.inr (by omega)
  · obtain ⟨g, ⟨f, hf, rfl⟩, e⟩ := h2 j hj c hc
    exact ⟨_, hs f hf, e⟩
section XP
variable {xlim xpc xnd xwc xit xfc xwt xan xlp : Int32}
variable {xpo xpb xwd xwk xnk xco xcb xml xme xro xow xol xla xsh xoe xoh xsr xss xse xms xfm xfa xfd xcv xcr : Nat → Int32}
variable {op b : Nat → Nat} {n : Nat} {M : Nat → Nat → (Nat → Nat) → Prop}
/-- one arrival, with all that is kept -/
theorem xw_arrM (post : Int32 → SX → Prop) {s k d : Nat} {D0 W0 D W : Nat → Nat} {a : Int32} (hn : n ≤ 16) (hs : s ≤ 16) (hk : k < 16) (hp : ck_pr (ck_pg (op k) (b k))) (hd : ck_rd (ck_pg (op k) (b k)) d ≤ 4) (hK : xk_K xnk (ck_rk (ck_pg (op k) (b k)) d (fun j => W0 (6 * k + j)))) (hK0 : ∀ j, j < ck_rd (ck_pg (op k) (b k)) d + 2 → ck_rk (ck_pg (op k) (b k)) d (fun j => W0 (6 * k + j)) j ≠ 0)
    (hT : xw_T xwd xwk D W) (ha : rl_b xwc) (hA : xw_A D0 W0 D W a xwc) (hD : D0 k = d + 1) (hC0 : xw_Ce op b n M → xw_C M D0 W0) (hC : xw_Ce op b n M → xw_C M D W) (hMs : xw_Ce op b n M → ∀ f, M k d f → M s (ck_rd (ck_pg (op k) (b k)) d) (ck_rk (ck_pg (op k) (b k)) d f))
    (h1 : ∀ wd wk wc D' W', xw_T wd wk D' W' → rl_b wc → xw_A D W D' W' xwc wc → ck_sub n D' W' s (ck_rd (ck_pg (op k) (b k)) d) (ck_rk (ck_pg (op k) (b k)) d (fun j => W0 (6 * k + j))) → (xw_Ce op b n M → xw_C M D' W') → post 1 (xlim, xpc, nI (ck_rd (ck_pg (op k) (b k)) d), wc, xit, xfc, xwt, xan, xlp, xpo, xpb, wd, wk, xnk, xco, xcb, xml, xme, xro, xow, xol, xla, xsh, xoe, xoh, xsr, xss, xse, xms, xfm, xfa, xfd, xcv, xcr))
    (h0 : ¬ xw_Ce op b n M → post 0 (xlim, xpc, nI (ck_rd (ck_pg (op k) (b k)) d), xwc, xit, xfc, xwt, xan, xlp, xpo, xpb, xwd, xwk, xnk, xco, xcb, xml, xme, xro, xow, xol, xla, xsh, xoe, xoh, xsr, xss, xse, xms, xfm, xfa, xfd, xcv, xcr)) : wpX_arrives post (xlim, xpc, nI (ck_rd (ck_pg (op k) (b k)) d), xwc, xit, xfc, xwt, xan, xlp, xpo, xpb, xwd, xwk, xnk, xco, xcb, xml, xme, xro, xow, xol, xla, xsh, xoe, xoh, xsr, xss, xse, xms, xfm, xfa, xfd, xcv, xcr) (nI s) (nI n) := by
  have hK' : ∀ j, j < 6 → ck_rk (ck_pg (op k) (b k)) d (fun j => W0 (6 * k + j)) j < 8 ∧ (2 ≤ j → ck_rk (ck_pg (op k) (b k)) d (fun j => W0 (6 * k + j)) j < 4) := fun j hj => (hK j hj).2
  refine xw_arr post hs hn hd hK hK0 hT ha (fun z y wd wk wc q1 q2 q3 => h1 wd wk wc _ _ q1 q2 q3 (xw_sub_new z hT.2.2.1 hK' hd) (fun hM => ?_)) (fun z => h0 (fun hM => z ?_))
  · obtain ⟨_, g2⟩ := xw_good hp hM (hC0 hM) hk hD
    obtain ⟨_, _, g3, g4⟩ := g2 s (hMs hM)
    exact xw_C_new (hC hM) (fun k hk => (hT.1 k hk).2) hT.2.2.1 hK' hd y (hT.2.2.2.2 s (by omega)) g3 g4
  · obtain ⟨_, g2⟩ := xw_good hp hM (hC0 hM) hk hD
    obtain ⟨g5, _, g3, g4⟩ := g2 s (hMs hM)
    refine ⟨g5, ?_⟩
    by_cases e : D s = 0
    · exact Or.inl e
    · obtain ⟨q, hq⟩ : ∃ q, D s = q + 1 := ⟨D s - 1, by omega⟩
      obtain ⟨⟨g, hg⟩, _⟩ := hC hM s q (by omega) hq
      obtain ⟨g', hg'⟩ := g3
      have := hM.2 s q g _ _ hg hg'
      exact Or.inr (by omega)
theorem xw_123 (post : Int32 → SX → Prop) {k d : Nat} {D0 W0 D W : Nat → Nat} {a : Int32} (hn : n ≤ 16) (hk : k < 16) (hp : ck_pr (ck_pg (op k) (b k))) (hd : ck_rd (ck_pg (op k) (b k)) d ≤ 4) (hK : xk_K xnk (ck_rk (ck_pg (op k) (b k)) d (fun j => W0 (6 * k + j)))) (hK0 : ∀ j, j < ck_rd (ck_pg (op k) (b k)) d + 2 → ck_rk (ck_pg (op k) (b k)) d (fun j => W0 (6 * k + j)) j ≠ 0)
    (hT : xw_T xwd xwk D W) (ha : rl_b xwc) (hA : xw_A D0 W0 D W a xwc) (hD : D0 k = d + 1) (hC0 : xw_Ce op b n M → xw_C M D0 W0) (hC : xw_Ce op b n M → xw_C M D W) (hgo : op k ≠ 7 ∧ op k ≠ 19)
    (hbs : ck_bs (ck_pg (op k) (b k)) d (fun j => W0 (6 * k + j))) (hj : (op k = 7 ∨ op k = 8) → ck_sub n D W (b k) (ck_rd (ck_pg (op k) (b k)) d) (ck_rk (ck_pg (op k) (b k)) d (fun j => W0 (6 * k + j))))
    (h1 : ∀ wd wk wc nk nd D' W', xw_T wd wk D' W' → rl_b wc → xw_A D0 W0 D' W' a wc → xw_Q op b n D0 W0 D' W' k d → (xw_Ce op b n M → xw_C M D' W') → post 1 (xlim, xpc, nd, wc, xit, xfc, xwt, xan, xlp, xpo, xpb, wd, wk, nk, xco, xcb, xml, xme, xro, xow, xol, xla, xsh, xoe, xoh, xsr, xss, xse, xms, xfm, xfa, xfd, xcv, xcr))
    (h0 : ¬ xw_Ce op b n M → ∀ wd wk wc nk nd, post 0 (xlim, xpc, nd, wc, xit, xfc, xwt, xan, xlp, xpo, xpb, wd, wk, nk, xco, xcb, xml, xme, xro, xow, xol, xla, xsh, xoe, xoh, xsr, xss, xse, xms, xfm, xfa, xfd, xcv, xcr)) : wX_goesWellFrom_123 post (nI k) (nI n) 1 xlim xpc (nI (ck_rd (ck_pg (op k) (b k)) d)) xwc xit xfc xwt xan xlp xpo xpb xwd xwk xnk xco xcb xml xme xro xow xol xla xsh xoe xoh xsr xss xse xms xfm xfa xfd xcv xcr := by
  refine br_f (by decide) ?_
  rw [nI_1]
  refine xw_arrM (M := M) _ hn (by omega) hk hp hd hK hK0 hT ha hA hD hC0 hC (fun hM f hf => (hM.1 k d f hf).2.2.2 hgo) (fun wd wk wc D' W' q1 q2 q3 q4 q5 => ?_) (fun z => br_t rfl (h0 z _ _ _ _ _))
  exact br_f (by decide) (h1 _ _ _ _ _ D' W' q1 q2 (xw_A_tr hA q3) ⟨hbs, fun z => xw_sub_up hn hd q3 (hj z), fun _ => q4⟩ q5)
theorem xw_rest (post : Int32 → SX → Prop) {k d m : Nat} {D W : Nat → Nat} (hc : xw_code xpo xpb op b n) (hk : k < n) (hT : xw_T xwd xwk D W) (ha : rl_b xwc) (hD : D k = d + 1) (hC : xw_Ce op b n M → xw_C M D W) (hK : xk_K xnk (fun j => W (6 * k + j)))
    (h1 : ∀ wd wk wc nk nd D' W', xw_T wd wk D' W' → rl_b wc → xw_A D W D' W' xwc wc → xw_Q op b n D W D' W' k d → (xw_Ce op b n M → xw_C M D' W') → post 1 (xlim, xpc, nd, wc, xit, xfc, xwt, xan, xlp, xpo, xpb, wd, wk, nk, xco, xcb, xml, xme, xro, xow, xol, xla, xsh, xoe, xoh, xsr, xss, xse, xms, xfm, xfa, xfd, xcv, xcr))
    (h0 : ¬ xw_Ce op b n M → ∀ wd wk wc nk nd, post 0 (xlim, xpc, nd, wc, xit, xfc, xwt, xan, xlp, xpo, xpb, wd, wk, nk, xco, xcb, xml, xme, xro, xow, xol, xla, xsh, xoe, xoh, xsr, xss, xse, xms, xfm, xfa, xfd, xcv, xcr)) : wX_goesWellFrom_12 post (nI k) (nI n) xlim xpc (nI d) xwc xit xfc xwt xan xlp (m + 1) (nI 6) xpo xpb xwd xwk xnk xco xcb xml xme xro xow xol xla xsh xoe xoh xsr xss xse xms xfm xfa xfd xcv xcr := by
  have hn := hc.1
  have e0 : (nI k).toNatClampNeg = k := nI_clamp (by omega)
  have hk16 : k < 16 := by omega
  obtain ⟨ho, hpo, hfb, hb⟩ := hc.2 k hk
  obtain ⟨hb12, hb78⟩ := xw_code_b hc hk
  have hp := xw_code_p hc k hk
  have h5 := (hT.1 k hk16).2
  refine br_t (by decide) ⟨pk_in k 16 (by omega), nm_r (e' := nI (op k)) (by rw [e0]; exact hpo) ⟨pk_in k 16 (by omega), nm_r (e' := xpb k) (by rw [e0]) ?_⟩⟩
  refine xk_op _ ho hb12 (by omega) hK (fun hbs nk hk2 => ?_) (fun hnb nd nk => br_t rfl (h0 (fun hM => hnb (xw_good hp hM (hC hM) hk16 hD).1) _ _ _ _ _))
  have hrd := xw_rd4 _ _ _ hp (by omega) hbs
  have hrk := xw_rk0 _ _ _ hp hbs (hT.2.2.2.1 k hk16 d hD)
  refine br_f (by decide) (pk_eq (op k) 7 (fun z => ?_) (fun z => pk_eq (op k) 8 (fun y => ?_) (fun y => ?_)))
  · obtain ⟨hb1, hb2⟩ := hb78 (Or.inl z)
    rw [hb2]
    refine br_t (by rw [z]; rfl) (br_f (by decide) ?_)
    refine xw_arrM (M := M) (op := op) (b := b) (k := k) (D0 := D) (W0 := W) _ hn (by omega) hk16 hp hrd hk2 hrk hT ha xw_A_rf hD hC hC (fun hM f hf => (hM.1 k d f hf).2.2.1 (Or.inl z)) (fun wd wk wc D' W' q1 q2 q3 q4 q5 => ?_) (fun z => br_t rfl (h0 z _ _ _ _ _))
    exact br_f (by decide) (br_t rfl (h1 _ _ _ _ _ D' W' q1 q2 q3 ⟨hbs, fun _ => q4, fun w => absurd z w.1⟩ q5))
  · obtain ⟨hb1, hb2⟩ := hb78 (Or.inr y)
    rw [hb2]
    refine br_f (by rw [y]; decide) (br_f (by rw [y]; decide) (br_f (by decide) ?_))
    refine xw_arrM (M := M) (op := op) (b := b) (k := k) (D0 := D) (W0 := W) _ hn (by omega) hk16 hp hrd hk2 hrk hT ha xw_A_rf hD hC hC (fun hM f hf => (hM.1 k d f hf).2.2.1 (Or.inr y)) (fun wd wk wc D' W' q1 q2 q3 q4 q5 => ?_) (fun z => br_t rfl (h0 z _ _ _ _ _))
    exact br_f (by decide) (xw_123 (M := M) (op := op) (b := b) (D0 := D) (W0 := W) post hn hk16 hp hrd hk2 hrk q1 q2 q3 hD hC q5 ⟨z, by omega⟩ hbs (fun _ => q4) h1 h0)
  · refine br_f (fun w => z ((nI_eq (b := 7) (by omega) (by decide)).mp w)) (pk_eq (op k) 19 (fun x => ?_) (fun x => ?_))
    · exact br_t rfl (br_t rfl (h1 _ _ _ _ _ D W hT ha xw_A_rf ⟨hbs, fun w => absurd w (by omega), fun w => absurd x w.2⟩ hC))
    · exact br_t rfl (xw_123 (M := M) (op := op) (b := b) (D0 := D) (W0 := W) post hn hk16 hp hrd hk2 hrk hT ha xw_A_rf hD hC hC ⟨z, x⟩ hbs (fun w => absurd w (by omega)) h1 h0)
theorem xw_l12 (post : Int32 → SX → Prop) {k d : Nat} {W : Nat → Nat} (hk : k < 16) (hwk : ∀ i, i < 96 → xwk i = nI (W i)) (hW : ck_wb W)
    (hp : ∀ m nk, xk_K nk (fun j => W (6 * k + j)) → wX_goesWellFrom_12 post (nI k) (nI n) xlim xpc (nI d) xwc xit xfc xwt xan xlp (m + 1) (nI 6) xpo xpb xwd xwk nk xco xcb xml xme xro xow xol xla xsh xoe xoh xsr xss xse xms xfm xfa xfd xcv xcr) :
    ∀ e c m nk, c + e = 6 → e < m → (∀ j, j < c → nk j = nI (W (6 * k + j))) → wX_goesWellFrom_12 post (nI k) (nI n) xlim xpc (nI d) xwc xit xfc xwt xan xlp m (nI c) xpo xpb xwd xwk nk xco xcb xml xme xro xow xol xla xsh xoe xoh xsr xss xse xms xfm xfa xfd xcv xcr := by
  intro e
  induction e with
  | zero =>
    intro c m nk hc hm hj
    obtain ⟨m, rfl⟩ : ∃ q, m = q + 1 := ⟨m - 1, by omega⟩
    obtain rfl : c = 6 := by omega
    exact hp m nk (fun j h6 => ⟨hj j h6, (hW _).1, fun h2 => (hW _).2 (by omega)⟩)
  | succ e ih =>
    intro c m nk hc hm hj
    obtain ⟨m, rfl⟩ : ∃ q, m = q + 1 := ⟨m - 1, by omega⟩
    have i0 := xw_6 k c
    have e0 : ((6 : Int32) * nI k + nI c).toNatClampNeg = 6 * k + c := pk_cl _ i0
    have e1 : (nI c).toNatClampNeg = c := nI_clamp (by omega)
    refine br_f (nI_ge (b := 6) (by omega) (by decide)) ⟨pk_in (6 * k + c) 96 (by omega) i0, pk_in c 6 (by omega), nm_e (nm_r (nI_1 c) (ih (c + 1) m _ (by omega) (by omega) (fun j hj' => ?_)))⟩
    rw [e0, e1]
    by_cases q : j = c
    · rw [q, pk_us]
      exact hwk _ (by omega)
    · rw [pk_un q]
      exact hj j (by omega)
theorem xw_from (post : Int32 → SX → Prop) {k d : Nat} {D W : Nat → Nat} (hc : xw_code xpo xpb op b n) (hk : k < n) (hT : xw_T xwd xwk D W) (ha : rl_b xwc) (hD : D k = d + 1) (hC : xw_Ce op b n M → xw_C M D W)
    (h1 : ∀ wd wk wc nk nd D' W', xw_T wd wk D' W' → rl_b wc → xw_A D W D' W' xwc wc → xw_Q op b n D W D' W' k d → (xw_Ce op b n M → xw_C M D' W') → post 1 (xlim, xpc, nd, wc, xit, xfc, xwt, xan, xlp, xpo, xpb, wd, wk, nk, xco, xcb, xml, xme, xro, xow, xol, xla, xsh, xoe, xoh, xsr, xss, xse, xms, xfm, xfa, xfd, xcv, xcr))
    (h0 : ¬ xw_Ce op b n M → ∀ wd wk wc nk nd, post 0 (xlim, xpc, nd, wc, xit, xfc, xwt, xan, xlp, xpo, xpb, wd, wk, nk, xco, xcb, xml, xme, xro, xow, xol, xla, xsh, xoe, xoh, xsr, xss, xse, xms, xfm, xfa, xfd, xcv, xcr)) : wpX_goesWellFrom post (xlim, xpc, xnd, xwc, xit, xfc, xwt, xan, xlp, xpo, xpb, xwd, xwk, xnk, xco, xcb, xml, xme, xro, xow, xol, xla, xsh, xoe, xoh, xsr, xss, xse, xms, xfm, xfa, xfd, xcv, xcr) (nI k) (nI n) := by
  have hn := hc.1
  have e0 : (nI k).toNatClampNeg = k := nI_clamp (by omega)
  refine ⟨pk_in k 16 (by omega), nm_r (e' := nI d) (by rw [e0, (hT.1 k (by omega)).1, hD, rl_s1]) ⟨7, ?_⟩⟩
  exact xw_l12 post (W := W) (by omega) hT.2.1 hT.2.2.1 (fun m nk hK => xw_rest (M := M) post hc hk hT ha hD hC hK h1 h0) 6 0 7 xnk (by omega) (by omega) (fun j hj => absurd hj (by omega))
end XP
end
section
/-! THE COMPONENT'S CHECK: all of it -/
section XE
variable {xlim xpc xnd xwc xit xfc xwt xan xlp : Int32}
variable {xpo xpb xwd xwk xnk xco xcb xml xme xro xow xol xla xsh xoe xoh xsr xss xse xms xfm xfa xfd xcv xcr : Nat → Int32}
variable {op b : Nat → Nat} {n : Nat} {M : Nat → Nat → (Nat → Nat) → Prop}
theorem xe_l39 (post : Int32 → SX → Prop) (J : Int32 → Int32 → Int32 → Int32 → Int32 → Int32 → Int32 → Int32 → Int32 → Int32 → Int32 → (Nat → Int32) → (Nat → Int32) → (Nat → Int32) → (Nat → Int32) → (Nat → Int32) → (Nat → Int32) → (Nat → Int32) → (Nat → Int32) → (Nat → Int32) → (Nat → Int32) → (Nat → Int32) → (Nat → Int32) → (Nat → Int32) → (Nat → Int32) → (Nat → Int32) → (Nat → Int32) → (Nat → Int32) → (Nat → Int32) → (Nat → Int32) → (Nat → Int32) → (Nat → Int32) → (Nat → Int32) → (Nat → Int32) → (Nat → Int32) → (Nat → Int32) → Prop) {p : Nat} {D0 W0 : Nat → Nat} (hc : xw_code xpo xpb op b n)
    (hJ1 : ∀ wd wk wc nk nd D W, xw_T wd wk D W → rl_b wc → xw_A D0 W0 D W 0 wc → (wc = 0 → ∀ k, k < n → ∀ d, D0 k = d + 1 → xw_Q op b n D0 W0 D0 W0 k d) → (xw_Ce op b n M → xw_C M D W) → J 1 (nI (p + 1)) xlim xpc nd wc xit xfc xwt xan xlp xpo xpb wd wk nk xco xcb xml xme xro xow xol xla xsh xoe xoh xsr xss xse xms xfm xfa xfd xcv xcr)
    (hJ0 : ¬ xw_Ce op b n M → ∀ wd wk wc nk nd, J 0 (nI (p + 1)) xlim xpc nd wc xit xfc xwt xan xlp xpo xpb wd wk nk xco xcb xml xme xro xow xol xla xsh xoe xoh xsr xss xse xms xfm xfa xfd xcv xcr) :
    ∀ e k m wd wk wc nk nd D W, k + e = n → e < m → xw_T wd wk D W → rl_b wc → xw_A D0 W0 D W 0 wc → (wc = 0 → ∀ k', k' < k → ∀ d, D0 k' = d + 1 → xw_Q op b n D0 W0 D0 W0 k' d) → (xw_Ce op b n M → xw_C M D W) → wX_goesWellEveryWay_39 post J (nI n) (nI p) m 1 (nI k) xlim xpc nd wc xit xfc xwt xan xlp xpo xpb wd wk nk xco xcb xml xme xro xow xol xla xsh xoe xoh xsr xss xse xms xfm xfa xfd xcv xcr := by
  have hn := hc.1
  intro e
  induction e with
  | zero =>
    intro k m wd wk wc nk nd D W hk hm hT ha hA hQ hC
    obtain ⟨m, rfl⟩ : ∃ q, m = q + 1 := ⟨m - 1, by omega⟩
    obtain rfl : k = n := by omega
    exact br_t (nI_le (Nat.le_refl _) (by omega)) (nm_r (nI_1 p) (hJ1 wd wk wc nk nd D W hT ha hA hQ hC))
  | succ e ih =>
    intro k m wd wk wc nk nd D W hk hm hT ha hA hQ hC
    obtain ⟨m, rfl⟩ : ∃ q, m = q + 2 := ⟨m - 2, by omega⟩
    have e0 : (nI k).toNatClampNeg = k := nI_clamp (by omega)
    refine br_f (nI_ge (by omega) (by omega)) (br_f (by decide) ⟨pk_in k 16 (by omega), ?_⟩)
    rw [e0, (hT.1 k (by omega)).1]
    refine br_c (fun z => ?_) (fun z => ?_)
    · have y0 : D k = 0 := by
        have h5 := (hT.1 k (by omega)).2
        cases hq : D k with
        | zero => rfl
        | succ q =>
          rw [hq, rl_s1] at z
          have := nI_pos (n := q) (by omega)
          rw [z] at this
          exact absurd (by decide) this
      refine nm_r (nI_1 k) (ih (k + 1) (m + 1) wd wk wc nk nd D W (by omega) (by omega) hT ha hA (fun w k' hk' d hd => ?_) hC)
      by_cases q : k' = k
      · rcases hA.2.2 with ⟨rfl, _, _⟩ | ⟨h, _⟩
        · rw [q, y0] at hd
          omega
        · rw [h] at w
          exact absurd w (by decide)
      · exact hQ w k' (by omega) d hd
    · have y0 : D k ≠ 0 := fun q => z (by rw [q]; exact rl_m1)
      obtain ⟨d, hd⟩ : ∃ d, D k = d + 1 := ⟨D k - 1, by omega⟩
      refine xw_from (M := M) _ hc (by omega) hT ha hd hC (fun wd' wk' wc' nk' nd' D' W' q1 q2 q3 q4 q5 => nm_r (nI_1 k) (ih (k + 1) (m + 1) wd' wk' wc' nk' nd' D' W' (by omega) (by omega) q1 q2 (xw_A_tr hA q3) (fun w k' hk' d' hd' => ?_) q5)) (fun w wd' wk' wc' nk' nd' => nm_r (nI_1 k) (br_c (fun _ => nm_r (nI_1 p) (hJ0 w _ _ _ _ _)) (fun _ => br_t rfl (nm_r (nI_1 p) (hJ0 w _ _ _ _ _)))))
      rcases q3.2.2 with ⟨rfl, rfl, rfl⟩ | ⟨h, _⟩
      · rcases hA.2.2 with ⟨rfl, rfl, _⟩ | ⟨h, _⟩
        · by_cases q : k' = k
          · subst q
            rw [hd] at hd'
            obtain rfl : d = d' := by omega
            exact q4
          · exact hQ w k' (by omega) d' hd'
        · rw [h] at w
          exact absurd w (by decide)
      · rw [h] at w
        exact absurd w (by decide)
theorem xe_l13 (post : Int32 → SX → Prop) (hn0 : 0 < n) (hc : xw_code xpo xpb op b n) (hM : ck_good op b n → xw_Ce op b n M)
    (h1 : ck_good op b n → ∀ wd wk wc nk nd, post 1 (xlim, xpc, nd, wc, xit, xfc, xwt, xan, xlp, xpo, xpb, wd, wk, nk, xco, xcb, xml, xme, xro, xow, xol, xla, xsh, xoe, xoh, xsr, xss, xse, xms, xfm, xfa, xfd, xcv, xcr)) (h0 : ¬ ck_good op b n → ∀ wd wk wc nk nd, post 0 (xlim, xpc, nd, wc, xit, xfc, xwt, xan, xlp, xpo, xpb, wd, wk, nk, xco, xcb, xml, xme, xro, xow, xol, xla, xsh, xoe, xoh, xsr, xss, xse, xms, xfm, xfa, xfd, xcv, xcr)) :
    ∀ e p m wd wk nk nd D W, p + e = 145 → e < m → xw_T wd wk D W → D 0 = 1 → ck_has (W 0) 1 → ck_has (W 1) 0 → p + 1 ≤ ck_mu D W → (xw_Ce op b n M → xw_C M D W) → wX_goesWellEveryWay_13 post (nI n) m 1 (nI p) xlim xpc nd 1 xit xfc xwt xan xlp xpo xpb wd wk nk xco xcb xml xme xro xow xol xla xsh xoe xoh xsr xss xse xms xfm xfa xfd xcv xcr := by
  intro e
  induction e with
  | zero =>
    intro p m wd wk nk nd D W hp hm hT d0 w0 w1 hmu hC
    have := ck_mu_le (D := D) hT.2.2.1
    omega
  | succ e ih =>
    intro p m wd wk nk nd D W hp hm hT d0 w0 w1 hmu hC
    obtain ⟨m, rfl⟩ : ∃ q, m = q + 2 := ⟨m - 2, by omega⟩
    have hml := ck_mu_le (D := D) hT.2.2.1
    refine br_f (nI_ge (b := 145) (by omega) (by decide)) (br_f (by decide) (br_f (by decide) ⟨n + 1, ?_⟩))
    refine xe_l39 (M := M) post _ (D0 := D) (W0 := W) hc (fun wd' wk' wc' nk' nd' D' W' q1 q2 q3 q4 q5 => ?_) (fun w wd' wk' wc' nk' nd' => ?_) n 0 _ wd wk 0 nk nd D W (by omega) (by omega) hT (Or.inl rfl) xw_A_rf (fun _ k' hk' => absurd hk' (by omega)) hC
    · rcases q3.2.2 with ⟨rfl, rfl, rfl⟩ | ⟨rfl, hlt⟩
      · have hg : ck_good op b n := ck_xg hn0 (xw_code_p hc) d0 w0 w1 (fun k hk d hd => q4 rfl k hk d hd)
        exact br_c (fun _ => ⟨rfl, h1 hg _ _ _ _ _⟩) (fun _ => br_f (by decide) (br_t rfl ⟨rfl, h1 hg _ _ _ _ _⟩))
      · refine ih (p + 1) (m + 1) wd' wk' nk' nd' D' W' (by omega) (by omega) q1 ?_ (q3.2.1 0 (by decide) 1 w0) (q3.2.1 1 (by decide) 0 w1) (by omega) q5
        rw [q3.1 0 (by decide) (by omega), d0]
    · have hg : ¬ ck_good op b n := fun g => w (hM g)
      exact br_c (fun _ => ⟨rfl, h0 hg _ _ _ _ _⟩) (fun _ => br_t rfl ⟨rfl, h0 hg _ _ _ _ _⟩)
def xe_W0 : Nat → Nat := fun i => if i = 0 then 1 else if i = 1 then 4 else 0
def xe_D0 : Nat → Nat := fun k => if k = 0 then 1 else 0
theorem xe_T0 {wd wk : Nat → Int32} (h1 : ∀ k, k < 16 → wd k = -1) (h2 : ∀ i, i < 96 → wk i = 0) : xw_T (upd wd 0 0) (upd (upd wk 0 1) 1 4) xe_D0 xe_W0 := by
  refine ⟨fun k hk => ?_, fun i hi => ?_, fun i => ?_, fun k hk d hd j hj => ?_, fun k hk h0 j hj => ?_⟩
  · unfold xe_D0
    by_cases e : k = 0
    · subst e
      rw [pk_us, if_pos rfl]
      exact ⟨by decide, by decide⟩
    · rw [pk_un e, if_neg e, h1 k hk]
      exact ⟨rl_m1.symm, by omega⟩
  · unfold xe_W0
    by_cases e1 : i = 1
    · subst e1
      rw [pk_us]
      decide
    · rw [pk_un e1]
      by_cases e : i = 0
      · subst e
        rw [pk_us]
        decide
      · rw [pk_un e, if_neg e, if_neg e1, h2 i hi]
        decide
  · unfold xe_W0
    split
    · exact ⟨by omega, fun _ => by omega⟩
    · split
      · rename_i _ e
        exact ⟨by omega, fun h => absurd h (by omega)⟩
      · exact ⟨by omega, fun _ => by omega⟩
  · unfold xe_D0 at hd
    by_cases e : k = 0
    · subst e
      rw [if_pos rfl] at hd
      obtain rfl | rfl : j = 0 ∨ j = 1 := by omega
      · decide
      · decide
    · rw [if_neg e] at hd
      omega
  · unfold xe_D0 at h0
    by_cases e : k = 0
    · rw [if_pos e] at h0
      omega
    · unfold xe_W0
      rw [if_neg (by omega), if_neg (by omega)]
theorem xe_C0 (hM : M 0 0 ck_f0) : xw_C M xe_D0 xe_W0 := by
  intro k d hk hd
  unfold xe_D0 at hd
  by_cases e : k = 0
  · subst e
    rw [if_pos rfl] at hd
    obtain rfl : d = 0 := by omega
    refine ⟨⟨_, hM⟩, fun j hj c hc => ⟨_, hM, ?_⟩⟩
    obtain ⟨h3, hx⟩ := hc
    obtain rfl | rfl : j = 0 ∨ j = 1 := by omega
    · obtain rfl | rfl | rfl : c = 0 ∨ c = 1 ∨ c = 2 := by omega
      · exact absurd (by decide) hx
      · rfl
      · exact absurd (by decide) hx
    · obtain rfl | rfl | rfl : c = 0 ∨ c = 1 ∨ c = 2 := by omega
      · rfl
      · exact absurd (by decide) hx
      · exact absurd (by decide) hx
  · rw [if_neg e] at hd
    omega
theorem xe_begin (post : SX → Prop) (hp : ∀ wd wk, xw_T wd wk xe_D0 xe_W0 → post (xlim, xpc, xnd, xwc, xit, xfc, xwt, xan, xlp, xpo, xpb, wd, wk, xnk, xco, xcb, xml, xme, xro, xow, xol, xla, xsh, xoe, xoh, xsr, xss, xse, xms, xfm, xfa, xfd, xcv, xcr)) : wpX_beginWays post (xlim, xpc, xnd, xwc, xit, xfc, xwt, xan, xlp, xpo, xpb, xwd, xwk, xnk, xco, xcb, xml, xme, xro, xow, xol, xla, xsh, xoe, xoh, xsr, xss, xse, xms, xfm, xfa, xfd, xcv, xcr) := by
  have k2 : ∀ e i m wd wk, i + e = 96 → e < m → (∀ k, k < 16 → wd k = -1) → (∀ j, j < i → wk j = 0) → wX_beginWays_23 post xlim xpc xnd xwc xit xfc xwt xan xlp m (nI i) xpo xpb wd wk xnk xco xcb xml xme xro xow xol xla xsh xoe xoh xsr xss xse xms xfm xfa xfd xcv xcr := by
    intro e
    induction e with
    | zero =>
      intro i m wd wk hi hm h1 h2
      obtain ⟨m, rfl⟩ : ∃ q, m = q + 1 := ⟨m - 1, by omega⟩
      obtain rfl : i = 96 := by omega
      exact br_t (by decide) (nm_e (nm_e (nm_e (hp _ _ (xe_T0 h1 h2)))))
    | succ e ih =>
      intro i m wd wk hi hm h1 h2
      obtain ⟨m, rfl⟩ : ∃ q, m = q + 1 := ⟨m - 1, by omega⟩
      refine br_f (nI_ge (b := 96) (by omega) (by decide)) ⟨pk_in i 96 (by omega), nm_e (nm_r (nI_1 i) (ih (i + 1) m wd _ (by omega) (by omega) h1 (fun j hj => ?_)))⟩
      rw [nI_clamp (by omega)]
      by_cases q : j = i
      · rw [q, pk_us]
      · rw [pk_un q]
        exact h2 j (by omega)
  have k1 : ∀ e i m wd, i + e = 16 → e < m → (∀ j, j < i → wd j = -1) → wX_beginWays_2 post xlim xpc xnd xwc xit xfc xwt xan xlp m (nI i) xpo xpb wd xwk xnk xco xcb xml xme xro xow xol xla xsh xoe xoh xsr xss xse xms xfm xfa xfd xcv xcr := by
    intro e
    induction e with
    | zero =>
      intro i m wd hi hm h1
      obtain ⟨m, rfl⟩ : ∃ q, m = q + 1 := ⟨m - 1, by omega⟩
      obtain rfl : i = 16 := by omega
      exact br_t (by decide) ⟨97, k2 96 0 97 wd xwk (by omega) (by omega) h1 (fun j hj => absurd hj (by omega))⟩
    | succ e ih =>
      intro i m wd hi hm h1
      obtain ⟨m, rfl⟩ : ∃ q, m = q + 1 := ⟨m - 1, by omega⟩
      refine br_f (nI_ge (b := 16) (by omega) (by decide)) ⟨pk_in i 16 (by omega), nm_e (nm_r (nI_1 i) (ih (i + 1) m _ (by omega) (by omega) (fun j hj => ?_)))⟩
      rw [nI_clamp (by omega)]
      by_cases q : j = i
      · rw [q, pk_us]
      · rw [pk_un q]
        exact h1 j (by omega)
  exact ⟨17, k1 16 0 17 xwd (by omega) (by omega) (fun j hj => absurd hj (by omega))⟩
theorem xe_mu0 : 0 + 1 ≤ ck_mu xe_D0 xe_W0 := by decide +kernel
theorem xe_every (post : Int32 → SX → Prop) (hn0 : 0 < n) (hc : xw_code xpo xpb op b n)
    (h1 : ck_good op b n → ∀ wd wk wc nk nd, post 1 (xlim, xpc, nd, wc, xit, xfc, xwt, xan, xlp, xpo, xpb, wd, wk, nk, xco, xcb, xml, xme, xro, xow, xol, xla, xsh, xoe, xoh, xsr, xss, xse, xms, xfm, xfa, xfd, xcv, xcr)) (h0 : ¬ ck_good op b n → ∀ wd wk wc nk nd, post 0 (xlim, xpc, nd, wc, xit, xfc, xwt, xan, xlp, xpo, xpb, wd, wk, nk, xco, xcb, xml, xme, xro, xow, xol, xla, xsh, xoe, xoh, xsr, xss, xse, xms, xfm, xfa, xfd, xcv, xcr)) : wpX_goesWellEveryWay post (xlim, xpc, xnd, xwc, xit, xfc, xwt, xan, xlp, xpo, xpb, xwd, xwk, xnk, xco, xcb, xml, xme, xro, xow, xol, xla, xsh, xoe, xoh, xsr, xss, xse, xms, xfm, xfa, xfd, xcv, xcr) (nI n) := by
  have hM : ∃ M : Nat → Nat → (Nat → Nat) → Prop, ck_good op b n → xw_Ce op b n M ∧ M 0 0 ck_f0 := by
    by_cases g : ck_good op b n
    · obtain ⟨M, g1, g2, g3⟩ := g
      exact ⟨M, fun _ => ⟨⟨g2, g3⟩, g1⟩⟩
    · exact ⟨fun _ _ _ => True, fun z => absurd z g⟩
  obtain ⟨M, hM⟩ := hM
  refine xe_begin _ (fun wd wk hT => ⟨146, ?_⟩)
  by_cases g : ck_good op b n
  · exact xe_l13 (M := M) post hn0 hc (fun z => (hM z).1) h1 h0 145 0 146 wd wk xnk xnd xe_D0 xe_W0 (by omega) (by omega) hT rfl (by decide) (by decide) xe_mu0 (fun _ => xe_C0 (hM g).2)
  · exact xe_l13 (M := fun k d f => k = 0 ∧ d = 0 ∧ f = ck_f0) post hn0 hc (fun z => absurd z g) h1 h0 145 0 146 wd wk xnk xnd xe_D0 xe_W0 (by omega) (by omega) hT rfl (by decide) (by decide) xe_mu0 (fun _ => xe_C0 ⟨rfl, rfl, rfl⟩)
end XE
end
section
/-! THE REFERENCE'S CHECK: one instruction on the numbers -/
section YK
variable {ylim ywa ysk ylo yrn ysp yaw yan ywh you ygd yop : Int32}
variable {ymd : Int64}
variable {yops ybs ysz yex yow yle yel yla ysh yro yoe yoh yor yrw ynx ydp ypl ykd ymt ytd yht : Nat → Int32}
variable {yst yos : Nat → Int64}
theorem yk_sh : ∀ st, st < 64 → ∀ c, c < 2 → ((nI st) <<< ((1 : Int32) &&& 31)) ||| nI c = nI (2 * st + c) := by decide +kernel
theorem yk_and : ∀ st, st < 64 → nI st &&& 1 = nI (st % 2) := by decide +kernel
theorem yk_shr : ∀ st, st < 64 → nI st >>> ((1 : Int32) &&& 31) = nI (st / 2) := by decide +kernel
theorem yk_leave (post : SY → Prop) {st c : Nat} (hs : st < 64) (hc : c < 2) (hok : st < 16 → post (ylim, ywa, nI (2 * st + c), ylo, yrn, ysp, yaw, yan, ywh, you, ymd, ygd, yop, yops, ybs, ysz, yex, yst, yow, yle, yel, yla, ysh, yro, yos, yoe, yoh, yor, yrw, ynx, ydp, ypl, ykd, ymt, ytd, yht)) (hbad : ¬ st < 16 → ∀ s, post (ylim, ywa, s, ylo, yrn, ysp, yaw, yan, ywh, you, ymd, 0, yop, yops, ybs, ysz, yex, yst, yow, yle, yel, yla, ysh, yro, yos, yoe, yoh, yor, yrw, ynx, ydp, ypl, ykd, ymt, ytd, yht)) : wpY_leave post (ylim, ywa, nI st, ylo, yrn, ysp, yaw, yan, ywh, you, ymd, ygd, yop, yops, ybs, ysz, yex, yst, yow, yle, yel, yla, ysh, yro, yos, yoe, yoh, yor, yrw, ynx, ydp, ypl, ykd, ymt, ytd, yht) (nI c) :=
  nm_r (yk_sh st hs c hc) (pk_le (2 * st + c) 31 (fun z => hok (by omega)) (fun z => hbad (by omega) _))
theorem yk_leave_b (post : SY → Prop) {k : Int32} (h : ∀ s, post (ylim, ywa, s, ylo, yrn, ysp, yaw, yan, ywh, you, ymd, 0, yop, yops, ybs, ysz, yex, yst, yow, yle, yel, yla, ysh, yro, yos, yoe, yoh, yor, yrw, ynx, ydp, ypl, ykd, ymt, ytd, yht)) : wpY_leave post (ylim, ywa, ysk, ylo, yrn, ysp, yaw, yan, ywh, you, ymd, 0, yop, yops, ybs, ysz, yex, yst, yow, yle, yel, yla, ysh, yro, yos, yoe, yoh, yor, yrw, ynx, ydp, ypl, ykd, ymt, ytd, yht) k :=
  nm_e (br_c (fun _ => h _) (fun _ => h _))
theorem yk_any (post : Int32 → SY → Prop) {st : Nat} (hs : st < 64) (hok : 2 ≤ st → post (nI (st % 2)) (ylim, ywa, nI (st / 2), ylo, yrn, ysp, yaw, yan, ywh, you, ymd, ygd, yop, yops, ybs, ysz, yex, yst, yow, yle, yel, yla, ysh, yro, yos, yoe, yoh, yor, yrw, ynx, ydp, ypl, ykd, ymt, ytd, yht)) (hbad : ¬ 2 ≤ st → ∀ x s, post x (ylim, ywa, s, ylo, yrn, ysp, yaw, yan, ywh, you, ymd, 0, yop, yops, ybs, ysz, yex, yst, yow, yle, yel, yla, ysh, yro, yos, yoe, yoh, yor, yrw, ynx, ydp, ypl, ykd, ymt, ytd, yht)) : wpY_takeAny post (ylim, ywa, nI st, ylo, yrn, ysp, yaw, yan, ywh, you, ymd, ygd, yop, yops, ybs, ysz, yex, yst, yow, yle, yel, yla, ysh, yro, yos, yoe, yoh, yor, yrw, ynx, ydp, ypl, ykd, ymt, ytd, yht) :=
  nm_r (yk_and st hs) (pk_le 2 st (fun z => pk_le 2 st (fun _ => nm_r (yk_shr st hs) (hok z)) (fun y => absurd z (by omega))) (fun z => pk_le 2 st (fun y => absurd y (by omega)) (fun _ => hbad (by omega) _ _)))
theorem yk_any_b (post : Int32 → SY → Prop) (h : ∀ x s, post x (ylim, ywa, s, ylo, yrn, ysp, yaw, yan, ywh, you, ymd, 0, yop, yops, ybs, ysz, yex, yst, yow, yle, yel, yla, ysh, yro, yos, yoe, yoh, yor, yrw, ynx, ydp, ypl, ykd, ymt, ytd, yht)) : wpY_takeAny post (ylim, ywa, ysk, ylo, yrn, ysp, yaw, yan, ywh, you, ymd, 0, yop, yops, ybs, ysz, yex, yst, yow, yle, yel, yla, ysh, yro, yos, yoe, yoh, yor, yrw, ynx, ydp, ypl, ykd, ymt, ytd, yht) :=
  nm_e (br_c (fun _ => br_c (fun _ => nm_e (h _ _)) (fun _ => h _ _)) (fun _ => br_c (fun _ => nm_e (h _ _)) (fun _ => h _ _)))
theorem yk_t1 (post : SY → Prop) {st lo : Nat} (hs : st < 64) (hok : ck_yo 1 st lo → post (ylim, ywa, nI (st / 2), ylo, yrn, ysp, yaw, yan, ywh, you, ymd, ygd, yop, yops, ybs, ysz, yex, yst, yow, yle, yel, yla, ysh, yro, yos, yoe, yoh, yor, yrw, ynx, ydp, ypl, ykd, ymt, ytd, yht)) (hbad : ¬ ck_yo 1 st lo → ∀ s, post (ylim, ywa, s, ylo, yrn, ysp, yaw, yan, ywh, you, ymd, 0, yop, yops, ybs, ysz, yex, yst, yow, yle, yel, yla, ysh, yro, yos, yoe, yoh, yor, yrw, ynx, ydp, ypl, ykd, ymt, ytd, yht)) : wpY_take post (ylim, ywa, nI st, ylo, yrn, ysp, yaw, yan, ywh, you, ymd, ygd, yop, yops, ybs, ysz, yex, yst, yow, yle, yel, yla, ysh, yro, yos, yoe, yoh, yor, yrw, ynx, ydp, ypl, ykd, ymt, ytd, yht) 0 :=
  yk_any _ hs (fun z => pk_eq (st % 2) 0 (fun y => hok ⟨z, y⟩) (fun y => hbad (fun x => y x.2) _)) (fun z x s => br_c (fun _ => hbad (fun y => z y.1) _) (fun _ => hbad (fun y => z y.1) _))
theorem yk_t2 (post : SY → Prop) {st lo : Nat} (hs : st < 64) (hok : ck_yo 2 st lo → post (ylim, ywa, nI (st / 2), ylo, yrn, ysp, yaw, yan, ywh, you, ymd, ygd, yop, yops, ybs, ysz, yex, yst, yow, yle, yel, yla, ysh, yro, yos, yoe, yoh, yor, yrw, ynx, ydp, ypl, ykd, ymt, ytd, yht)) (hbad : ¬ ck_yo 2 st lo → ∀ s, post (ylim, ywa, s, ylo, yrn, ysp, yaw, yan, ywh, you, ymd, 0, yop, yops, ybs, ysz, yex, yst, yow, yle, yel, yla, ysh, yro, yos, yoe, yoh, yor, yrw, ynx, ydp, ypl, ykd, ymt, ytd, yht)) : wpY_take post (ylim, ywa, nI st, ylo, yrn, ysp, yaw, yan, ywh, you, ymd, ygd, yop, yops, ybs, ysz, yex, yst, yow, yle, yel, yla, ysh, yro, yos, yoe, yoh, yor, yrw, ynx, ydp, ypl, ykd, ymt, ytd, yht) 1 :=
  yk_any _ hs (fun z => pk_eq (st % 2) 1 (fun y => hok ⟨z, y⟩) (fun y => hbad (fun x => y x.2) _)) (fun z x s => br_c (fun _ => hbad (fun y => z y.1) _) (fun _ => hbad (fun y => z y.1) _))
theorem yk_t_b (post : SY → Prop) {k : Int32} (h : ∀ s, post (ylim, ywa, s, ylo, yrn, ysp, yaw, yan, ywh, you, ymd, 0, yop, yops, ybs, ysz, yex, yst, yow, yle, yel, yla, ysh, yro, yos, yoe, yoh, yor, yrw, ynx, ydp, ypl, ykd, ymt, ytd, yht)) : wpY_take post (ylim, ywa, ysk, ylo, yrn, ysp, yaw, yan, ywh, you, ymd, 0, yop, yops, ybs, ysz, yex, yst, yow, yle, yel, yla, ysh, yro, yos, yoe, yoh, yor, yrw, ynx, ydp, ypl, ykd, ymt, ytd, yht) k :=
  yk_any_b _ (fun _ s => br_c (fun _ => h s) (fun _ => h s))
theorem yk_op_0 (post : SY → Prop) {k n st lo : Nat} {B : Int32} (hk : k < 16) (hs : st < 32) (hl : lo < 9) (ho : yops (96 + k) = 0) (hB : ybs (96 + k) = B)
    (h1 : ck_yos [4] st lo → wY_look_279 post (nI k) (nI n) 0 B ylim ywa (nI (ck_yrs [4] st lo)) (nI (ck_yrl [4] st lo)) yrn ysp yaw yan ywh you ymd 1 yop yops ybs ysz yex yst yow yle yel yla ysh yro yos yoe yoh yor yrw ynx ydp ypl ykd ymt ytd yht) (h0 : ¬ ck_yos [4] st lo → ∀ s l, post (ylim, ywa, s, l, yrn, ysp, yaw, yan, ywh, you, ymd, 0, yop, yops, ybs, ysz, yex, yst, yow, yle, yel, yla, ysh, yro, yos, yoe, yoh, yor, yrw, ynx, ydp, ypl, ykd, ymt, ytd, yht)) : wpY_look post (ylim, ywa, nI st, nI lo, yrn, ysp, yaw, yan, ywh, you, ymd, 1, yop, yops, ybs, ysz, yex, yst, yow, yle, yel, yla, ysh, yro, yos, yoe, yoh, yor, yrw, ynx, ydp, ypl, ykd, ymt, ytd, yht) (nI k) (nI n) := by
  have e0 : ((96 : Int32) + nI k).toNatClampNeg = 96 + k := pk_cl (96 + k) (nI_add 96 k)
  refine ⟨pk_in (96 + k) 112 (by omega) (nI_add 96 k), nm_r (e' := 0) (by rw [e0]; exact ho) ⟨pk_in (96 + k) 112 (by omega) (nI_add 96 k), nm_r (e' := B) (by rw [e0]; exact hB) ?_⟩⟩
  exact br_f (by decide) <| br_f (by decide) <| br_t rfl <|  yk_leave _ (c := 0) (by omega) (by decide) (fun b0 => h1 ⟨b0, trivial⟩) (fun b0 _ => br_t rfl (h0 (fun z => b0 (z.1)) _ _))
theorem yk_op_3 (post : SY → Prop) {k n st lo : Nat} {B : Int32} (hk : k < 16) (hs : st < 32) (hl : lo < 9) (ho : yops (96 + k) = 3) (hB : ybs (96 + k) = B)
    (h1 : ck_yos [1, 1, 4] st lo → wY_look_279 post (nI k) (nI n) 3 B ylim ywa (nI (ck_yrs [1, 1, 4] st lo)) (nI (ck_yrl [1, 1, 4] st lo)) yrn ysp yaw yan ywh you ymd 1 yop yops ybs ysz yex yst yow yle yel yla ysh yro yos yoe yoh yor yrw ynx ydp ypl ykd ymt ytd yht) (h0 : ¬ ck_yos [1, 1, 4] st lo → ∀ s l, post (ylim, ywa, s, l, yrn, ysp, yaw, yan, ywh, you, ymd, 0, yop, yops, ybs, ysz, yex, yst, yow, yle, yel, yla, ysh, yro, yos, yoe, yoh, yor, yrw, ynx, ydp, ypl, ykd, ymt, ytd, yht)) : wpY_look post (ylim, ywa, nI st, nI lo, yrn, ysp, yaw, yan, ywh, you, ymd, 1, yop, yops, ybs, ysz, yex, yst, yow, yle, yel, yla, ysh, yro, yos, yoe, yoh, yor, yrw, ynx, ydp, ypl, ykd, ymt, ytd, yht) (nI k) (nI n) := by
  have e0 : ((96 : Int32) + nI k).toNatClampNeg = 96 + k := pk_cl (96 + k) (nI_add 96 k)
  refine ⟨pk_in (96 + k) 112 (by omega) (nI_add 96 k), nm_r (e' := 3) (by rw [e0]; exact ho) ⟨pk_in (96 + k) 112 (by omega) (nI_add 96 k), nm_r (e' := B) (by rw [e0]; exact hB) ?_⟩⟩
  exact br_f (by decide) <| br_f (by decide) <| br_f (by decide) <| br_f (by decide) <| br_f (by decide) <| br_t rfl <|  yk_t1 _ (lo := lo) (by omega) (fun b0 => yk_t1 _ (lo := lo) (by omega) (fun b1 => yk_leave _ (c := 0) (by omega) (by decide) (fun b2 => h1 ⟨b0, b1, b2, trivial⟩) (fun b2 _ => br_t rfl (h0 (fun z => b2 (z.2.2.1)) _ _))) (fun b1 _ => yk_leave_b _ (fun _ => br_t rfl (h0 (fun z => b1 (z.2.1)) _ _)))) (fun b0 _ => yk_t_b _ (fun _ => yk_leave_b _ (fun _ => br_t rfl (h0 (fun z => b0 (z.1)) _ _))))
theorem yk_op_4 (post : SY → Prop) {k n st lo : Nat} {B : Int32} (hk : k < 16) (hs : st < 32) (hl : lo < 9) (ho : yops (96 + k) = 4) (hB : ybs (96 + k) = B)
    (h1 : ck_yos [1, 1, 4] st lo → wY_look_279 post (nI k) (nI n) 4 B ylim ywa (nI (ck_yrs [1, 1, 4] st lo)) (nI (ck_yrl [1, 1, 4] st lo)) yrn ysp yaw yan ywh you ymd 1 yop yops ybs ysz yex yst yow yle yel yla ysh yro yos yoe yoh yor yrw ynx ydp ypl ykd ymt ytd yht) (h0 : ¬ ck_yos [1, 1, 4] st lo → ∀ s l, post (ylim, ywa, s, l, yrn, ysp, yaw, yan, ywh, you, ymd, 0, yop, yops, ybs, ysz, yex, yst, yow, yle, yel, yla, ysh, yro, yos, yoe, yoh, yor, yrw, ynx, ydp, ypl, ykd, ymt, ytd, yht)) : wpY_look post (ylim, ywa, nI st, nI lo, yrn, ysp, yaw, yan, ywh, you, ymd, 1, yop, yops, ybs, ysz, yex, yst, yow, yle, yel, yla, ysh, yro, yos, yoe, yoh, yor, yrw, ynx, ydp, ypl, ykd, ymt, ytd, yht) (nI k) (nI n) := by
  have e0 : ((96 : Int32) + nI k).toNatClampNeg = 96 + k := pk_cl (96 + k) (nI_add 96 k)
  refine ⟨pk_in (96 + k) 112 (by omega) (nI_add 96 k), nm_r (e' := 4) (by rw [e0]; exact ho) ⟨pk_in (96 + k) 112 (by omega) (nI_add 96 k), nm_r (e' := B) (by rw [e0]; exact hB) ?_⟩⟩
  exact br_f (by decide) <| br_f (by decide) <| br_f (by decide) <| br_f (by decide) <| br_f (by decide) <| br_f (by decide) <| br_t rfl <|  yk_t1 _ (lo := lo) (by omega) (fun b0 => yk_t1 _ (lo := lo) (by omega) (fun b1 => yk_leave _ (c := 0) (by omega) (by decide) (fun b2 => h1 ⟨b0, b1, b2, trivial⟩) (fun b2 _ => br_t rfl (h0 (fun z => b2 (z.2.2.1)) _ _))) (fun b1 _ => yk_leave_b _ (fun _ => br_t rfl (h0 (fun z => b1 (z.2.1)) _ _)))) (fun b0 _ => yk_t_b _ (fun _ => yk_leave_b _ (fun _ => br_t rfl (h0 (fun z => b0 (z.1)) _ _))))
theorem yk_op_5 (post : SY → Prop) {k n st lo : Nat} {B : Int32} (hk : k < 16) (hs : st < 32) (hl : lo < 9) (ho : yops (96 + k) = 5) (hB : ybs (96 + k) = B)
    (h1 : ck_yos [1, 1, 4] st lo → wY_look_279 post (nI k) (nI n) 5 B ylim ywa (nI (ck_yrs [1, 1, 4] st lo)) (nI (ck_yrl [1, 1, 4] st lo)) yrn ysp yaw yan ywh you ymd 1 yop yops ybs ysz yex yst yow yle yel yla ysh yro yos yoe yoh yor yrw ynx ydp ypl ykd ymt ytd yht) (h0 : ¬ ck_yos [1, 1, 4] st lo → ∀ s l, post (ylim, ywa, s, l, yrn, ysp, yaw, yan, ywh, you, ymd, 0, yop, yops, ybs, ysz, yex, yst, yow, yle, yel, yla, ysh, yro, yos, yoe, yoh, yor, yrw, ynx, ydp, ypl, ykd, ymt, ytd, yht)) : wpY_look post (ylim, ywa, nI st, nI lo, yrn, ysp, yaw, yan, ywh, you, ymd, 1, yop, yops, ybs, ysz, yex, yst, yow, yle, yel, yla, ysh, yro, yos, yoe, yoh, yor, yrw, ynx, ydp, ypl, ykd, ymt, ytd, yht) (nI k) (nI n) := by
  have e0 : ((96 : Int32) + nI k).toNatClampNeg = 96 + k := pk_cl (96 + k) (nI_add 96 k)
  refine ⟨pk_in (96 + k) 112 (by omega) (nI_add 96 k), nm_r (e' := 5) (by rw [e0]; exact ho) ⟨pk_in (96 + k) 112 (by omega) (nI_add 96 k), nm_r (e' := B) (by rw [e0]; exact hB) ?_⟩⟩
  exact br_f (by decide) <| br_f (by decide) <| br_f (by decide) <| br_f (by decide) <| br_f (by decide) <| br_f (by decide) <| br_f (by decide) <| br_t rfl <|  yk_t1 _ (lo := lo) (by omega) (fun b0 => yk_t1 _ (lo := lo) (by omega) (fun b1 => yk_leave _ (c := 0) (by omega) (by decide) (fun b2 => h1 ⟨b0, b1, b2, trivial⟩) (fun b2 _ => br_t rfl (h0 (fun z => b2 (z.2.2.1)) _ _))) (fun b1 _ => yk_leave_b _ (fun _ => br_t rfl (h0 (fun z => b1 (z.2.1)) _ _)))) (fun b0 _ => yk_t_b _ (fun _ => yk_leave_b _ (fun _ => br_t rfl (h0 (fun z => b0 (z.1)) _ _))))
theorem yk_op_6 (post : SY → Prop) {k n st lo : Nat} {B : Int32} (hk : k < 16) (hs : st < 32) (hl : lo < 9) (ho : yops (96 + k) = 6) (hB : ybs (96 + k) = B)
    (h1 : ck_yos [1, 1, 4] st lo → wY_look_279 post (nI k) (nI n) 6 B ylim ywa (nI (ck_yrs [1, 1, 4] st lo)) (nI (ck_yrl [1, 1, 4] st lo)) yrn ysp yaw yan ywh you ymd 1 yop yops ybs ysz yex yst yow yle yel yla ysh yro yos yoe yoh yor yrw ynx ydp ypl ykd ymt ytd yht) (h0 : ¬ ck_yos [1, 1, 4] st lo → ∀ s l, post (ylim, ywa, s, l, yrn, ysp, yaw, yan, ywh, you, ymd, 0, yop, yops, ybs, ysz, yex, yst, yow, yle, yel, yla, ysh, yro, yos, yoe, yoh, yor, yrw, ynx, ydp, ypl, ykd, ymt, ytd, yht)) : wpY_look post (ylim, ywa, nI st, nI lo, yrn, ysp, yaw, yan, ywh, you, ymd, 1, yop, yops, ybs, ysz, yex, yst, yow, yle, yel, yla, ysh, yro, yos, yoe, yoh, yor, yrw, ynx, ydp, ypl, ykd, ymt, ytd, yht) (nI k) (nI n) := by
  have e0 : ((96 : Int32) + nI k).toNatClampNeg = 96 + k := pk_cl (96 + k) (nI_add 96 k)
  refine ⟨pk_in (96 + k) 112 (by omega) (nI_add 96 k), nm_r (e' := 6) (by rw [e0]; exact ho) ⟨pk_in (96 + k) 112 (by omega) (nI_add 96 k), nm_r (e' := B) (by rw [e0]; exact hB) ?_⟩⟩
  exact br_f (by decide) <| br_f (by decide) <| br_f (by decide) <| br_f (by decide) <| br_f (by decide) <| br_f (by decide) <| br_f (by decide) <| br_f (by decide) <| br_t rfl <|  yk_t1 _ (lo := lo) (by omega) (fun b0 => yk_t1 _ (lo := lo) (by omega) (fun b1 => yk_leave _ (c := 0) (by omega) (by decide) (fun b2 => h1 ⟨b0, b1, b2, trivial⟩) (fun b2 _ => br_t rfl (h0 (fun z => b2 (z.2.2.1)) _ _))) (fun b1 _ => yk_leave_b _ (fun _ => br_t rfl (h0 (fun z => b1 (z.2.1)) _ _)))) (fun b0 _ => yk_t_b _ (fun _ => yk_leave_b _ (fun _ => br_t rfl (h0 (fun z => b0 (z.1)) _ _))))
theorem yk_op_8 (post : SY → Prop) {k n st lo : Nat} {B : Int32} (hk : k < 16) (hs : st < 32) (hl : lo < 9) (ho : yops (96 + k) = 8) (hB : ybs (96 + k) = B)
    (h1 : ck_yos [1] st lo → wY_look_279 post (nI k) (nI n) 8 B ylim ywa (nI (ck_yrs [1] st lo)) (nI (ck_yrl [1] st lo)) yrn ysp yaw yan ywh you ymd 1 yop yops ybs ysz yex yst yow yle yel yla ysh yro yos yoe yoh yor yrw ynx ydp ypl ykd ymt ytd yht) (h0 : ¬ ck_yos [1] st lo → ∀ s l, post (ylim, ywa, s, l, yrn, ysp, yaw, yan, ywh, you, ymd, 0, yop, yops, ybs, ysz, yex, yst, yow, yle, yel, yla, ysh, yro, yos, yoe, yoh, yor, yrw, ynx, ydp, ypl, ykd, ymt, ytd, yht)) : wpY_look post (ylim, ywa, nI st, nI lo, yrn, ysp, yaw, yan, ywh, you, ymd, 1, yop, yops, ybs, ysz, yex, yst, yow, yle, yel, yla, ysh, yro, yos, yoe, yoh, yor, yrw, ynx, ydp, ypl, ykd, ymt, ytd, yht) (nI k) (nI n) := by
  have e0 : ((96 : Int32) + nI k).toNatClampNeg = 96 + k := pk_cl (96 + k) (nI_add 96 k)
  refine ⟨pk_in (96 + k) 112 (by omega) (nI_add 96 k), nm_r (e' := 8) (by rw [e0]; exact ho) ⟨pk_in (96 + k) 112 (by omega) (nI_add 96 k), nm_r (e' := B) (by rw [e0]; exact hB) ?_⟩⟩
  exact br_f (by decide) <| br_f (by decide) <| br_f (by decide) <| br_f (by decide) <| br_f (by decide) <| br_f (by decide) <| br_f (by decide) <| br_f (by decide) <| br_f (by decide) <| br_f (by decide) <| br_t rfl <|  yk_t1 _ (lo := lo) (by omega) (fun b0 => h1 ⟨b0, trivial⟩) (fun b0 _ => br_t rfl (h0 (fun z => b0 (z.1)) _ _))
theorem yk_op_19 (post : SY → Prop) {k n st lo : Nat} {B : Int32} (hk : k < 16) (hs : st < 32) (hl : lo < 9) (ho : yops (96 + k) = 19) (hB : ybs (96 + k) = B)
    (h1 : ck_yos [1] st lo → wY_look_279 post (nI k) (nI n) 19 B ylim ywa (nI (ck_yrs [1] st lo)) (nI (ck_yrl [1] st lo)) yrn ysp yaw yan ywh you ymd 1 yop yops ybs ysz yex yst yow yle yel yla ysh yro yos yoe yoh yor yrw ynx ydp ypl ykd ymt ytd yht) (h0 : ¬ ck_yos [1] st lo → ∀ s l, post (ylim, ywa, s, l, yrn, ysp, yaw, yan, ywh, you, ymd, 0, yop, yops, ybs, ysz, yex, yst, yow, yle, yel, yla, ysh, yro, yos, yoe, yoh, yor, yrw, ynx, ydp, ypl, ykd, ymt, ytd, yht)) : wpY_look post (ylim, ywa, nI st, nI lo, yrn, ysp, yaw, yan, ywh, you, ymd, 1, yop, yops, ybs, ysz, yex, yst, yow, yle, yel, yla, ysh, yro, yos, yoe, yoh, yor, yrw, ynx, ydp, ypl, ykd, ymt, ytd, yht) (nI k) (nI n) := by
  have e0 : ((96 : Int32) + nI k).toNatClampNeg = 96 + k := pk_cl (96 + k) (nI_add 96 k)
  refine ⟨pk_in (96 + k) 112 (by omega) (nI_add 96 k), nm_r (e' := 19) (by rw [e0]; exact ho) ⟨pk_in (96 + k) 112 (by omega) (nI_add 96 k), nm_r (e' := B) (by rw [e0]; exact hB) ?_⟩⟩
  exact br_f (by decide) <| br_f (by decide) <| br_f (by decide) <| br_f (by decide) <| br_f (by decide) <| br_f (by decide) <| br_f (by decide) <| br_f (by decide) <| br_f (by decide) <| br_f (by decide) <| br_f (by decide) <| br_f (by decide) <| br_f (by decide) <| br_f (by decide) <| br_f (by decide) <| br_f (by decide) <| br_f (by decide) <| br_f (by decide) <| br_f (by decide) <| br_f (by decide) <| br_f (by decide) <| br_t rfl <|  yk_t1 _ (lo := lo) (by omega) (fun b0 => h1 ⟨b0, trivial⟩) (fun b0 _ => br_t rfl (h0 (fun z => b0 (z.1)) _ _))
theorem yk_op_9 (post : SY → Prop) {k n st lo : Nat} {B : Int32} (hk : k < 16) (hs : st < 32) (hl : lo < 9) (ho : yops (96 + k) = 9) (hB : ybs (96 + k) = B)
    (h1 : ck_yos [5] st lo → wY_look_279 post (nI k) (nI n) 9 B ylim ywa (nI (ck_yrs [5] st lo)) (nI (ck_yrl [5] st lo)) yrn ysp yaw yan ywh you ymd 1 yop yops ybs ysz yex yst yow yle yel yla ysh yro yos yoe yoh yor yrw ynx ydp ypl ykd ymt ytd yht) (h0 : ¬ ck_yos [5] st lo → ∀ s l, post (ylim, ywa, s, l, yrn, ysp, yaw, yan, ywh, you, ymd, 0, yop, yops, ybs, ysz, yex, yst, yow, yle, yel, yla, ysh, yro, yos, yoe, yoh, yor, yrw, ynx, ydp, ypl, ykd, ymt, ytd, yht)) : wpY_look post (ylim, ywa, nI st, nI lo, yrn, ysp, yaw, yan, ywh, you, ymd, 1, yop, yops, ybs, ysz, yex, yst, yow, yle, yel, yla, ysh, yro, yos, yoe, yoh, yor, yrw, ynx, ydp, ypl, ykd, ymt, ytd, yht) (nI k) (nI n) := by
  have e0 : ((96 : Int32) + nI k).toNatClampNeg = 96 + k := pk_cl (96 + k) (nI_add 96 k)
  refine ⟨pk_in (96 + k) 112 (by omega) (nI_add 96 k), nm_r (e' := 9) (by rw [e0]; exact ho) ⟨pk_in (96 + k) 112 (by omega) (nI_add 96 k), nm_r (e' := B) (by rw [e0]; exact hB) ?_⟩⟩
  exact br_f (by decide) <| br_f (by decide) <| br_f (by decide) <| br_f (by decide) <| br_f (by decide) <| br_f (by decide) <| br_f (by decide) <| br_f (by decide) <| br_f (by decide) <| br_f (by decide) <| br_f (by decide) <| br_t rfl <|  yk_leave _ (c := 1) (by omega) (by decide) (fun b0 => h1 ⟨b0, trivial⟩) (fun b0 _ => br_t rfl (h0 (fun z => b0 (z.1)) _ _))
theorem yk_op_16 (post : SY → Prop) {k n st lo : Nat} {B : Int32} (hk : k < 16) (hs : st < 32) (hl : lo < 9) (ho : yops (96 + k) = 16) (hB : ybs (96 + k) = B)
    (h1 : ck_yos [5] st lo → wY_look_279 post (nI k) (nI n) 16 B ylim ywa (nI (ck_yrs [5] st lo)) (nI (ck_yrl [5] st lo)) yrn ysp yaw yan ywh you ymd 1 yop yops ybs ysz yex yst yow yle yel yla ysh yro yos yoe yoh yor yrw ynx ydp ypl ykd ymt ytd yht) (h0 : ¬ ck_yos [5] st lo → ∀ s l, post (ylim, ywa, s, l, yrn, ysp, yaw, yan, ywh, you, ymd, 0, yop, yops, ybs, ysz, yex, yst, yow, yle, yel, yla, ysh, yro, yos, yoe, yoh, yor, yrw, ynx, ydp, ypl, ykd, ymt, ytd, yht)) : wpY_look post (ylim, ywa, nI st, nI lo, yrn, ysp, yaw, yan, ywh, you, ymd, 1, yop, yops, ybs, ysz, yex, yst, yow, yle, yel, yla, ysh, yro, yos, yoe, yoh, yor, yrw, ynx, ydp, ypl, ykd, ymt, ytd, yht) (nI k) (nI n) := by
  have e0 : ((96 : Int32) + nI k).toNatClampNeg = 96 + k := pk_cl (96 + k) (nI_add 96 k)
  refine ⟨pk_in (96 + k) 112 (by omega) (nI_add 96 k), nm_r (e' := 16) (by rw [e0]; exact ho) ⟨pk_in (96 + k) 112 (by omega) (nI_add 96 k), nm_r (e' := B) (by rw [e0]; exact hB) ?_⟩⟩
  exact br_f (by decide) <| br_f (by decide) <| br_f (by decide) <| br_f (by decide) <| br_f (by decide) <| br_f (by decide) <| br_f (by decide) <| br_f (by decide) <| br_f (by decide) <| br_f (by decide) <| br_f (by decide) <| br_f (by decide) <| br_f (by decide) <| br_f (by decide) <| br_f (by decide) <| br_f (by decide) <| br_f (by decide) <| br_f (by decide) <| br_t rfl <|  yk_leave _ (c := 1) (by omega) (by decide) (fun b0 => h1 ⟨b0, trivial⟩) (fun b0 _ => br_t rfl (h0 (fun z => b0 (z.1)) _ _))
theorem yk_op_17 (post : SY → Prop) {k n st lo : Nat} {B : Int32} (hk : k < 16) (hs : st < 32) (hl : lo < 9) (ho : yops (96 + k) = 17) (hB : ybs (96 + k) = B)
    (h1 : ck_yos [5] st lo → wY_look_279 post (nI k) (nI n) 17 B ylim ywa (nI (ck_yrs [5] st lo)) (nI (ck_yrl [5] st lo)) yrn ysp yaw yan ywh you ymd 1 yop yops ybs ysz yex yst yow yle yel yla ysh yro yos yoe yoh yor yrw ynx ydp ypl ykd ymt ytd yht) (h0 : ¬ ck_yos [5] st lo → ∀ s l, post (ylim, ywa, s, l, yrn, ysp, yaw, yan, ywh, you, ymd, 0, yop, yops, ybs, ysz, yex, yst, yow, yle, yel, yla, ysh, yro, yos, yoe, yoh, yor, yrw, ynx, ydp, ypl, ykd, ymt, ytd, yht)) : wpY_look post (ylim, ywa, nI st, nI lo, yrn, ysp, yaw, yan, ywh, you, ymd, 1, yop, yops, ybs, ysz, yex, yst, yow, yle, yel, yla, ysh, yro, yos, yoe, yoh, yor, yrw, ynx, ydp, ypl, ykd, ymt, ytd, yht) (nI k) (nI n) := by
  have e0 : ((96 : Int32) + nI k).toNatClampNeg = 96 + k := pk_cl (96 + k) (nI_add 96 k)
  refine ⟨pk_in (96 + k) 112 (by omega) (nI_add 96 k), nm_r (e' := 17) (by rw [e0]; exact ho) ⟨pk_in (96 + k) 112 (by omega) (nI_add 96 k), nm_r (e' := B) (by rw [e0]; exact hB) ?_⟩⟩
  exact br_f (by decide) <| br_f (by decide) <| br_f (by decide) <| br_f (by decide) <| br_f (by decide) <| br_f (by decide) <| br_f (by decide) <| br_f (by decide) <| br_f (by decide) <| br_f (by decide) <| br_f (by decide) <| br_f (by decide) <| br_f (by decide) <| br_f (by decide) <| br_f (by decide) <| br_f (by decide) <| br_f (by decide) <| br_f (by decide) <| br_f (by decide) <| br_t rfl <|  yk_leave _ (c := 1) (by omega) (by decide) (fun b0 => h1 ⟨b0, trivial⟩) (fun b0 _ => br_t rfl (h0 (fun z => b0 (z.1)) _ _))
theorem yk_op_10 (post : SY → Prop) {k n st lo : Nat} {B : Int32} (hk : k < 16) (hs : st < 32) (hl : lo < 9) (ho : yops (96 + k) = 10) (hB : ybs (96 + k) = B)
    (h1 : ck_yos [2] st lo → wY_look_279 post (nI k) (nI n) 10 B ylim ywa (nI (ck_yrs [2] st lo)) (nI (ck_yrl [2] st lo)) yrn ysp yaw yan ywh you ymd 1 yop yops ybs ysz yex yst yow yle yel yla ysh yro yos yoe yoh yor yrw ynx ydp ypl ykd ymt ytd yht) (h0 : ¬ ck_yos [2] st lo → ∀ s l, post (ylim, ywa, s, l, yrn, ysp, yaw, yan, ywh, you, ymd, 0, yop, yops, ybs, ysz, yex, yst, yow, yle, yel, yla, ysh, yro, yos, yoe, yoh, yor, yrw, ynx, ydp, ypl, ykd, ymt, ytd, yht)) : wpY_look post (ylim, ywa, nI st, nI lo, yrn, ysp, yaw, yan, ywh, you, ymd, 1, yop, yops, ybs, ysz, yex, yst, yow, yle, yel, yla, ysh, yro, yos, yoe, yoh, yor, yrw, ynx, ydp, ypl, ykd, ymt, ytd, yht) (nI k) (nI n) := by
  have e0 : ((96 : Int32) + nI k).toNatClampNeg = 96 + k := pk_cl (96 + k) (nI_add 96 k)
  refine ⟨pk_in (96 + k) 112 (by omega) (nI_add 96 k), nm_r (e' := 10) (by rw [e0]; exact ho) ⟨pk_in (96 + k) 112 (by omega) (nI_add 96 k), nm_r (e' := B) (by rw [e0]; exact hB) ?_⟩⟩
  exact br_f (by decide) <| br_f (by decide) <| br_f (by decide) <| br_f (by decide) <| br_f (by decide) <| br_f (by decide) <| br_f (by decide) <| br_f (by decide) <| br_f (by decide) <| br_f (by decide) <| br_f (by decide) <| br_f (by decide) <| br_t rfl <|  yk_t2 _ (lo := lo) (by omega) (fun b0 => h1 ⟨b0, trivial⟩) (fun b0 _ => br_t rfl (h0 (fun z => b0 (z.1)) _ _))
theorem yk_op_14 (post : SY → Prop) {k n st lo : Nat} {B : Int32} (hk : k < 16) (hs : st < 32) (hl : lo < 9) (ho : yops (96 + k) = 14) (hB : ybs (96 + k) = B)
    (h1 : ck_yos [2] st lo → wY_look_279 post (nI k) (nI n) 14 B ylim ywa (nI (ck_yrs [2] st lo)) (nI (ck_yrl [2] st lo)) yrn ysp yaw yan ywh you ymd 1 yop yops ybs ysz yex yst yow yle yel yla ysh yro yos yoe yoh yor yrw ynx ydp ypl ykd ymt ytd yht) (h0 : ¬ ck_yos [2] st lo → ∀ s l, post (ylim, ywa, s, l, yrn, ysp, yaw, yan, ywh, you, ymd, 0, yop, yops, ybs, ysz, yex, yst, yow, yle, yel, yla, ysh, yro, yos, yoe, yoh, yor, yrw, ynx, ydp, ypl, ykd, ymt, ytd, yht)) : wpY_look post (ylim, ywa, nI st, nI lo, yrn, ysp, yaw, yan, ywh, you, ymd, 1, yop, yops, ybs, ysz, yex, yst, yow, yle, yel, yla, ysh, yro, yos, yoe, yoh, yor, yrw, ynx, ydp, ypl, ykd, ymt, ytd, yht) (nI k) (nI n) := by
  have e0 : ((96 : Int32) + nI k).toNatClampNeg = 96 + k := pk_cl (96 + k) (nI_add 96 k)
  refine ⟨pk_in (96 + k) 112 (by omega) (nI_add 96 k), nm_r (e' := 14) (by rw [e0]; exact ho) ⟨pk_in (96 + k) 112 (by omega) (nI_add 96 k), nm_r (e' := B) (by rw [e0]; exact hB) ?_⟩⟩
  exact br_f (by decide) <| br_f (by decide) <| br_f (by decide) <| br_f (by decide) <| br_f (by decide) <| br_f (by decide) <| br_f (by decide) <| br_f (by decide) <| br_f (by decide) <| br_f (by decide) <| br_f (by decide) <| br_f (by decide) <| br_f (by decide) <| br_f (by decide) <| br_f (by decide) <| br_f (by decide) <| br_t rfl <|  yk_t2 _ (lo := lo) (by omega) (fun b0 => h1 ⟨b0, trivial⟩) (fun b0 _ => br_t rfl (h0 (fun z => b0 (z.1)) _ _))
theorem yk_op_11 (post : SY → Prop) {k n st lo : Nat} {B : Int32} (hk : k < 16) (hs : st < 32) (hl : lo < 9) (ho : yops (96 + k) = 11) (hB : ybs (96 + k) = B)
    (h1 : ck_yos [1, 5] st lo → wY_look_279 post (nI k) (nI n) 11 B ylim ywa (nI (ck_yrs [1, 5] st lo)) (nI (ck_yrl [1, 5] st lo)) yrn ysp yaw yan ywh you ymd 1 yop yops ybs ysz yex yst yow yle yel yla ysh yro yos yoe yoh yor yrw ynx ydp ypl ykd ymt ytd yht) (h0 : ¬ ck_yos [1, 5] st lo → ∀ s l, post (ylim, ywa, s, l, yrn, ysp, yaw, yan, ywh, you, ymd, 0, yop, yops, ybs, ysz, yex, yst, yow, yle, yel, yla, ysh, yro, yos, yoe, yoh, yor, yrw, ynx, ydp, ypl, ykd, ymt, ytd, yht)) : wpY_look post (ylim, ywa, nI st, nI lo, yrn, ysp, yaw, yan, ywh, you, ymd, 1, yop, yops, ybs, ysz, yex, yst, yow, yle, yel, yla, ysh, yro, yos, yoe, yoh, yor, yrw, ynx, ydp, ypl, ykd, ymt, ytd, yht) (nI k) (nI n) := by
  have e0 : ((96 : Int32) + nI k).toNatClampNeg = 96 + k := pk_cl (96 + k) (nI_add 96 k)
  refine ⟨pk_in (96 + k) 112 (by omega) (nI_add 96 k), nm_r (e' := 11) (by rw [e0]; exact ho) ⟨pk_in (96 + k) 112 (by omega) (nI_add 96 k), nm_r (e' := B) (by rw [e0]; exact hB) ?_⟩⟩
  exact br_f (by decide) <| br_f (by decide) <| br_f (by decide) <| br_f (by decide) <| br_f (by decide) <| br_f (by decide) <| br_f (by decide) <| br_f (by decide) <| br_f (by decide) <| br_f (by decide) <| br_f (by decide) <| br_f (by decide) <| br_f (by decide) <| br_t rfl <|  yk_t1 _ (lo := lo) (by omega) (fun b0 => yk_leave _ (c := 1) (by omega) (by decide) (fun b1 => h1 ⟨b0, b1, trivial⟩) (fun b1 _ => br_t rfl (h0 (fun z => b1 (z.2.1)) _ _))) (fun b0 _ => yk_leave_b _ (fun _ => br_t rfl (h0 (fun z => b0 (z.1)) _ _)))
theorem yk_op_7 (post : SY → Prop) {k n st lo : Nat} {B : Int32} (hk : k < 16) (hs : st < 32) (hl : lo < 9) (ho : yops (96 + k) = 7) (hB : ybs (96 + k) = B)
    (h1 : ck_yos [] st lo → wY_look_279 post (nI k) (nI n) 7 B ylim ywa (nI (ck_yrs [] st lo)) (nI (ck_yrl [] st lo)) yrn ysp yaw yan ywh you ymd 1 yop yops ybs ysz yex yst yow yle yel yla ysh yro yos yoe yoh yor yrw ynx ydp ypl ykd ymt ytd yht) (h0 : ¬ ck_yos [] st lo → ∀ s l, post (ylim, ywa, s, l, yrn, ysp, yaw, yan, ywh, you, ymd, 0, yop, yops, ybs, ysz, yex, yst, yow, yle, yel, yla, ysh, yro, yos, yoe, yoh, yor, yrw, ynx, ydp, ypl, ykd, ymt, ytd, yht)) : wpY_look post (ylim, ywa, nI st, nI lo, yrn, ysp, yaw, yan, ywh, you, ymd, 1, yop, yops, ybs, ysz, yex, yst, yow, yle, yel, yla, ysh, yro, yos, yoe, yoh, yor, yrw, ynx, ydp, ypl, ykd, ymt, ytd, yht) (nI k) (nI n) := by
  have e0 : ((96 : Int32) + nI k).toNatClampNeg = 96 + k := pk_cl (96 + k) (nI_add 96 k)
  refine ⟨pk_in (96 + k) 112 (by omega) (nI_add 96 k), nm_r (e' := 7) (by rw [e0]; exact ho) ⟨pk_in (96 + k) 112 (by omega) (nI_add 96 k), nm_r (e' := B) (by rw [e0]; exact hB) ?_⟩⟩
  exact br_f (by decide) <| br_f (by decide) <| br_f (by decide) <| br_f (by decide) <| br_f (by decide) <| br_f (by decide) <| br_f (by decide) <| br_f (by decide) <| br_f (by decide) <| br_t rfl <|  br_t (by decide) <| h1 trivial
theorem yk_op_22 (post : SY → Prop) {k n st lo : Nat} {B : Int32} (hk : k < 16) (hs : st < 32) (hl : lo < 9) (ho : yops (96 + k) = 22) (hB : ybs (96 + k) = B)
    (h1 : ck_yos [] st lo → wY_look_279 post (nI k) (nI n) 22 B ylim ywa (nI (ck_yrs [] st lo)) (nI (ck_yrl [] st lo)) yrn ysp yaw yan ywh you ymd 1 yop yops ybs ysz yex yst yow yle yel yla ysh yro yos yoe yoh yor yrw ynx ydp ypl ykd ymt ytd yht) (h0 : ¬ ck_yos [] st lo → ∀ s l, post (ylim, ywa, s, l, yrn, ysp, yaw, yan, ywh, you, ymd, 0, yop, yops, ybs, ysz, yex, yst, yow, yle, yel, yla, ysh, yro, yos, yoe, yoh, yor, yrw, ynx, ydp, ypl, ykd, ymt, ytd, yht)) : wpY_look post (ylim, ywa, nI st, nI lo, yrn, ysp, yaw, yan, ywh, you, ymd, 1, yop, yops, ybs, ysz, yex, yst, yow, yle, yel, yla, ysh, yro, yos, yoe, yoh, yor, yrw, ynx, ydp, ypl, ykd, ymt, ytd, yht) (nI k) (nI n) := by
  have e0 : ((96 : Int32) + nI k).toNatClampNeg = 96 + k := pk_cl (96 + k) (nI_add 96 k)
  refine ⟨pk_in (96 + k) 112 (by omega) (nI_add 96 k), nm_r (e' := 22) (by rw [e0]; exact ho) ⟨pk_in (96 + k) 112 (by omega) (nI_add 96 k), nm_r (e' := B) (by rw [e0]; exact hB) ?_⟩⟩
  exact br_f (by decide) <| br_t (by decide) <| br_f (by decide) <| br_t (by decide) <| h1 trivial
theorem yk_op_23 (post : SY → Prop) {k n st lo : Nat} {B : Int32} (hk : k < 16) (hs : st < 32) (hl : lo < 9) (ho : yops (96 + k) = 23) (hB : ybs (96 + k) = B)
    (h1 : ck_yos [] st lo → wY_look_279 post (nI k) (nI n) 23 B ylim ywa (nI (ck_yrs [] st lo)) (nI (ck_yrl [] st lo)) yrn ysp yaw yan ywh you ymd 1 yop yops ybs ysz yex yst yow yle yel yla ysh yro yos yoe yoh yor yrw ynx ydp ypl ykd ymt ytd yht) (h0 : ¬ ck_yos [] st lo → ∀ s l, post (ylim, ywa, s, l, yrn, ysp, yaw, yan, ywh, you, ymd, 0, yop, yops, ybs, ysz, yex, yst, yow, yle, yel, yla, ysh, yro, yos, yoe, yoh, yor, yrw, ynx, ydp, ypl, ykd, ymt, ytd, yht)) : wpY_look post (ylim, ywa, nI st, nI lo, yrn, ysp, yaw, yan, ywh, you, ymd, 1, yop, yops, ybs, ysz, yex, yst, yow, yle, yel, yla, ysh, yro, yos, yoe, yoh, yor, yrw, ynx, ydp, ypl, ykd, ymt, ytd, yht) (nI k) (nI n) := by
  have e0 : ((96 : Int32) + nI k).toNatClampNeg = 96 + k := pk_cl (96 + k) (nI_add 96 k)
  refine ⟨pk_in (96 + k) 112 (by omega) (nI_add 96 k), nm_r (e' := 23) (by rw [e0]; exact ho) ⟨pk_in (96 + k) 112 (by omega) (nI_add 96 k), nm_r (e' := B) (by rw [e0]; exact hB) ?_⟩⟩
  exact br_f (by decide) <| br_t (by decide) <| br_f (by decide) <| br_t (by decide) <| h1 trivial
theorem yk_op_24 (post : SY → Prop) {k n st lo : Nat} {B : Int32} (hk : k < 16) (hs : st < 32) (hl : lo < 9) (ho : yops (96 + k) = 24) (hB : ybs (96 + k) = B)
    (h1 : ck_yos [] st lo → wY_look_279 post (nI k) (nI n) 24 B ylim ywa (nI (ck_yrs [] st lo)) (nI (ck_yrl [] st lo)) yrn ysp yaw yan ywh you ymd 1 yop yops ybs ysz yex yst yow yle yel yla ysh yro yos yoe yoh yor yrw ynx ydp ypl ykd ymt ytd yht) (h0 : ¬ ck_yos [] st lo → ∀ s l, post (ylim, ywa, s, l, yrn, ysp, yaw, yan, ywh, you, ymd, 0, yop, yops, ybs, ysz, yex, yst, yow, yle, yel, yla, ysh, yro, yos, yoe, yoh, yor, yrw, ynx, ydp, ypl, ykd, ymt, ytd, yht)) : wpY_look post (ylim, ywa, nI st, nI lo, yrn, ysp, yaw, yan, ywh, you, ymd, 1, yop, yops, ybs, ysz, yex, yst, yow, yle, yel, yla, ysh, yro, yos, yoe, yoh, yor, yrw, ynx, ydp, ypl, ykd, ymt, ytd, yht) (nI k) (nI n) := by
  have e0 : ((96 : Int32) + nI k).toNatClampNeg = 96 + k := pk_cl (96 + k) (nI_add 96 k)
  refine ⟨pk_in (96 + k) 112 (by omega) (nI_add 96 k), nm_r (e' := 24) (by rw [e0]; exact ho) ⟨pk_in (96 + k) 112 (by omega) (nI_add 96 k), nm_r (e' := B) (by rw [e0]; exact hB) ?_⟩⟩
  exact br_f (by decide) <| br_t (by decide) <| br_f (by decide) <| br_t (by decide) <| h1 trivial
theorem yk_op_12 (post : SY → Prop) {k n st lo : Nat} {B : Int32} (hk : k < 16) (hs : st < 32) (hl : lo < 9) (ho : yops (96 + k) = 12) (hB : ybs (96 + k) = B)
    (h1 : ck_yos [1, 2, 4] st lo → wY_look_279 post (nI k) (nI n) 12 B ylim ywa (nI (ck_yrs [1, 2, 4] st lo)) (nI (ck_yrl [1, 2, 4] st lo)) yrn ysp yaw yan ywh you ymd 1 yop yops ybs ysz yex yst yow yle yel yla ysh yro yos yoe yoh yor yrw ynx ydp ypl ykd ymt ytd yht) (h0 : ¬ ck_yos [1, 2, 4] st lo → ∀ s l, post (ylim, ywa, s, l, yrn, ysp, yaw, yan, ywh, you, ymd, 0, yop, yops, ybs, ysz, yex, yst, yow, yle, yel, yla, ysh, yro, yos, yoe, yoh, yor, yrw, ynx, ydp, ypl, ykd, ymt, ytd, yht)) : wpY_look post (ylim, ywa, nI st, nI lo, yrn, ysp, yaw, yan, ywh, you, ymd, 1, yop, yops, ybs, ysz, yex, yst, yow, yle, yel, yla, ysh, yro, yos, yoe, yoh, yor, yrw, ynx, ydp, ypl, ykd, ymt, ytd, yht) (nI k) (nI n) := by
  have e0 : ((96 : Int32) + nI k).toNatClampNeg = 96 + k := pk_cl (96 + k) (nI_add 96 k)
  refine ⟨pk_in (96 + k) 112 (by omega) (nI_add 96 k), nm_r (e' := 12) (by rw [e0]; exact ho) ⟨pk_in (96 + k) 112 (by omega) (nI_add 96 k), nm_r (e' := B) (by rw [e0]; exact hB) ?_⟩⟩
  exact br_f (by decide) <| br_f (by decide) <| br_f (by decide) <| br_f (by decide) <| br_f (by decide) <| br_f (by decide) <| br_f (by decide) <| br_f (by decide) <| br_f (by decide) <| br_f (by decide) <| br_f (by decide) <| br_f (by decide) <| br_f (by decide) <| br_f (by decide) <| br_t rfl <|  br_f (by decide) <| br_f (by decide) <| br_t rfl <|  yk_t1 _ (lo := lo) (by omega) (fun b0 => yk_t2 _ (lo := lo) (by omega) (fun b1 => yk_leave _ (c := 0) (by omega) (by decide) (fun b2 => h1 ⟨b0, b1, b2, trivial⟩) (fun b2 _ => br_t rfl (h0 (fun z => b2 (z.2.2.1)) _ _))) (fun b1 _ => yk_leave_b _ (fun _ => br_t rfl (h0 (fun z => b1 (z.2.1)) _ _)))) (fun b0 _ => yk_t_b _ (fun _ => yk_leave_b _ (fun _ => br_t rfl (h0 (fun z => b0 (z.1)) _ _))))
theorem yk_op_13 (post : SY → Prop) {k n st lo : Nat} {B : Int32} (hk : k < 16) (hs : st < 32) (hl : lo < 9) (ho : yops (96 + k) = 13) (hB : ybs (96 + k) = B)
    (h1 : ck_yos [1, 1, 2] st lo → wY_look_279 post (nI k) (nI n) 13 B ylim ywa (nI (ck_yrs [1, 1, 2] st lo)) (nI (ck_yrl [1, 1, 2] st lo)) yrn ysp yaw yan ywh you ymd 1 yop yops ybs ysz yex yst yow yle yel yla ysh yro yos yoe yoh yor yrw ynx ydp ypl ykd ymt ytd yht) (h0 : ¬ ck_yos [1, 1, 2] st lo → ∀ s l, post (ylim, ywa, s, l, yrn, ysp, yaw, yan, ywh, you, ymd, 0, yop, yops, ybs, ysz, yex, yst, yow, yle, yel, yla, ysh, yro, yos, yoe, yoh, yor, yrw, ynx, ydp, ypl, ykd, ymt, ytd, yht)) : wpY_look post (ylim, ywa, nI st, nI lo, yrn, ysp, yaw, yan, ywh, you, ymd, 1, yop, yops, ybs, ysz, yex, yst, yow, yle, yel, yla, ysh, yro, yos, yoe, yoh, yor, yrw, ynx, ydp, ypl, ykd, ymt, ytd, yht) (nI k) (nI n) := by
  have e0 : ((96 : Int32) + nI k).toNatClampNeg = 96 + k := pk_cl (96 + k) (nI_add 96 k)
  refine ⟨pk_in (96 + k) 112 (by omega) (nI_add 96 k), nm_r (e' := 13) (by rw [e0]; exact ho) ⟨pk_in (96 + k) 112 (by omega) (nI_add 96 k), nm_r (e' := B) (by rw [e0]; exact hB) ?_⟩⟩
  exact br_f (by decide) <| br_f (by decide) <| br_f (by decide) <| br_f (by decide) <| br_f (by decide) <| br_f (by decide) <| br_f (by decide) <| br_f (by decide) <| br_f (by decide) <| br_f (by decide) <| br_f (by decide) <| br_f (by decide) <| br_f (by decide) <| br_f (by decide) <| br_f (by decide) <| br_t rfl <|  br_f (by decide) <| br_f (by decide) <| br_f (by decide) <| br_t rfl <|  yk_t1 _ (lo := lo) (by omega) (fun b0 => yk_t1 _ (lo := lo) (by omega) (fun b1 => yk_t2 _ (lo := lo) (by omega) (fun b2 => h1 ⟨b0, b1, b2, trivial⟩) (fun b2 _ => br_t rfl (h0 (fun z => b2 (z.2.2.1)) _ _))) (fun b1 _ => yk_t_b _ (fun _ => br_t rfl (h0 (fun z => b1 (z.2.1)) _ _)))) (fun b0 _ => yk_t_b _ (fun _ => yk_t_b _ (fun _ => br_t rfl (h0 (fun z => b0 (z.1)) _ _))))
theorem yk_op_15 (post : SY → Prop) {k n st lo : Nat} {B : Int32} (hk : k < 16) (hs : st < 32) (hl : lo < 9) (ho : yops (96 + k) = 15) (hB : ybs (96 + k) = B)
    (h1 : ck_yos [2, 4] st lo → wY_look_279 post (nI k) (nI n) 15 B ylim ywa (nI (ck_yrs [2, 4] st lo)) (nI (ck_yrl [2, 4] st lo)) yrn ysp yaw yan ywh you ymd 1 yop yops ybs ysz yex yst yow yle yel yla ysh yro yos yoe yoh yor yrw ynx ydp ypl ykd ymt ytd yht) (h0 : ¬ ck_yos [2, 4] st lo → ∀ s l, post (ylim, ywa, s, l, yrn, ysp, yaw, yan, ywh, you, ymd, 0, yop, yops, ybs, ysz, yex, yst, yow, yle, yel, yla, ysh, yro, yos, yoe, yoh, yor, yrw, ynx, ydp, ypl, ykd, ymt, ytd, yht)) : wpY_look post (ylim, ywa, nI st, nI lo, yrn, ysp, yaw, yan, ywh, you, ymd, 1, yop, yops, ybs, ysz, yex, yst, yow, yle, yel, yla, ysh, yro, yos, yoe, yoh, yor, yrw, ynx, ydp, ypl, ykd, ymt, ytd, yht) (nI k) (nI n) := by
  have e0 : ((96 : Int32) + nI k).toNatClampNeg = 96 + k := pk_cl (96 + k) (nI_add 96 k)
  refine ⟨pk_in (96 + k) 112 (by omega) (nI_add 96 k), nm_r (e' := 15) (by rw [e0]; exact ho) ⟨pk_in (96 + k) 112 (by omega) (nI_add 96 k), nm_r (e' := B) (by rw [e0]; exact hB) ?_⟩⟩
  exact br_f (by decide) <| br_f (by decide) <| br_f (by decide) <| br_f (by decide) <| br_f (by decide) <| br_f (by decide) <| br_f (by decide) <| br_f (by decide) <| br_f (by decide) <| br_f (by decide) <| br_f (by decide) <| br_f (by decide) <| br_f (by decide) <| br_f (by decide) <| br_f (by decide) <| br_f (by decide) <| br_f (by decide) <| br_t rfl <|  br_f (by decide) <| br_f (by decide) <| br_f (by decide) <| br_f (by decide) <| br_f (by decide) <| br_t rfl <|  yk_t2 _ (lo := lo) (by omega) (fun b0 => yk_leave _ (c := 0) (by omega) (by decide) (fun b1 => h1 ⟨b0, b1, trivial⟩) (fun b1 _ => br_t rfl (h0 (fun z => b1 (z.2.1)) _ _))) (fun b0 _ => yk_leave_b _ (fun _ => br_t rfl (h0 (fun z => b0 (z.1)) _ _)))
theorem yk_op_18 (post : SY → Prop) {k n st lo : Nat} {B : Int32} (hk : k < 16) (hs : st < 32) (hl : lo < 9) (ho : yops (96 + k) = 18) (hB : ybs (96 + k) = B)
    (h1 : ck_yos [1, 4] st lo → wY_look_279 post (nI k) (nI n) 18 B ylim ywa (nI (ck_yrs [1, 4] st lo)) (nI (ck_yrl [1, 4] st lo)) yrn ysp yaw yan ywh you ymd 1 yop yops ybs ysz yex yst yow yle yel yla ysh yro yos yoe yoh yor yrw ynx ydp ypl ykd ymt ytd yht) (h0 : ¬ ck_yos [1, 4] st lo → ∀ s l, post (ylim, ywa, s, l, yrn, ysp, yaw, yan, ywh, you, ymd, 0, yop, yops, ybs, ysz, yex, yst, yow, yle, yel, yla, ysh, yro, yos, yoe, yoh, yor, yrw, ynx, ydp, ypl, ykd, ymt, ytd, yht)) : wpY_look post (ylim, ywa, nI st, nI lo, yrn, ysp, yaw, yan, ywh, you, ymd, 1, yop, yops, ybs, ysz, yex, yst, yow, yle, yel, yla, ysh, yro, yos, yoe, yoh, yor, yrw, ynx, ydp, ypl, ykd, ymt, ytd, yht) (nI k) (nI n) := by
  have e0 : ((96 : Int32) + nI k).toNatClampNeg = 96 + k := pk_cl (96 + k) (nI_add 96 k)
  refine ⟨pk_in (96 + k) 112 (by omega) (nI_add 96 k), nm_r (e' := 18) (by rw [e0]; exact ho) ⟨pk_in (96 + k) 112 (by omega) (nI_add 96 k), nm_r (e' := B) (by rw [e0]; exact hB) ?_⟩⟩
  exact br_f (by decide) <| br_f (by decide) <| br_f (by decide) <| br_f (by decide) <| br_f (by decide) <| br_f (by decide) <| br_f (by decide) <| br_f (by decide) <| br_f (by decide) <| br_f (by decide) <| br_f (by decide) <| br_f (by decide) <| br_f (by decide) <| br_f (by decide) <| br_f (by decide) <| br_f (by decide) <| br_f (by decide) <| br_f (by decide) <| br_f (by decide) <| br_f (by decide) <| br_t rfl <|  br_f (by decide) <| br_f (by decide) <| br_f (by decide) <| br_f (by decide) <| br_f (by decide) <| br_f (by decide) <| br_f (by decide) <| br_f (by decide) <| br_t rfl <|  yk_t1 _ (lo := lo) (by omega) (fun b0 => yk_leave _ (c := 0) (by omega) (by decide) (fun b1 => h1 ⟨b0, b1, trivial⟩) (fun b1 _ => br_t rfl (h0 (fun z => b1 (z.2.1)) _ _))) (fun b0 _ => yk_leave_b _ (fun _ => br_t rfl (h0 (fun z => b0 (z.1)) _ _)))
theorem yk_op_20 (post : SY → Prop) {k n st lo : Nat} {B : Int32} (hk : k < 16) (hs : st < 32) (hl : lo < 9) (ho : yops (96 + k) = 20) (hB : ybs (96 + k) = B)
    (h1 : ck_yos [10] st lo → wY_look_279 post (nI k) (nI n) 20 B ylim ywa (nI (ck_yrs [10] st lo)) (nI (ck_yrl [10] st lo)) yrn ysp yaw yan ywh you ymd 1 yop yops ybs ysz yex yst yow yle yel yla ysh yro yos yoe yoh yor yrw ynx ydp ypl ykd ymt ytd yht) (h0 : ¬ ck_yos [10] st lo → ∀ s l, post (ylim, ywa, s, l, yrn, ysp, yaw, yan, ywh, you, ymd, 0, yop, yops, ybs, ysz, yex, yst, yow, yle, yel, yla, ysh, yro, yos, yoe, yoh, yor, yrw, ynx, ydp, ypl, ykd, ymt, ytd, yht)) : wpY_look post (ylim, ywa, nI st, nI lo, yrn, ysp, yaw, yan, ywh, you, ymd, 1, yop, yops, ybs, ysz, yex, yst, yow, yle, yel, yla, ysh, yro, yos, yoe, yoh, yor, yrw, ynx, ydp, ypl, ykd, ymt, ytd, yht) (nI k) (nI n) := by
  have e0 : ((96 : Int32) + nI k).toNatClampNeg = 96 + k := pk_cl (96 + k) (nI_add 96 k)
  refine ⟨pk_in (96 + k) 112 (by omega) (nI_add 96 k), nm_r (e' := 20) (by rw [e0]; exact ho) ⟨pk_in (96 + k) 112 (by omega) (nI_add 96 k), nm_r (e' := B) (by rw [e0]; exact hB) ?_⟩⟩
  refine br_f (by decide) <| br_t (by decide) <| br_f (by decide) <| br_f (by decide) <| br_f (by decide) <| br_f (by decide) <| br_f (by decide) <| br_f (by decide) <| br_f (by decide) <| br_f (by decide) <| br_f (by decide) <| br_f (by decide) <| br_t rfl <|  yk_any _ (by omega) (fun b0 => yk_leave _ (by omega) (Nat.mod_lt _ (by decide)) (fun b1 => ?_) (fun b1 _ => absurd hs (by omega))) (fun b0 _ _ => yk_leave_b _ (fun _ => yk_leave_b _ (fun _ => br_t rfl (h0 (fun z => b0 z.1.1) _ _))))
  have e2 : 2 * (st / 2) + st % 2 = st := Nat.div_add_mod st 2
  rw [e2]
  exact yk_leave _ (by omega) (Nat.mod_lt _ (by decide)) (fun b2 => h1 ⟨⟨b0, b2⟩, trivial⟩) (fun b2 _ => br_t rfl (h0 (fun z => b2 z.1.2) _ _))
theorem yk_op_21 (post : SY → Prop) {k n st lo : Nat} {B : Int32} (hk : k < 16) (hs : st < 32) (hl : lo < 9) (ho : yops (96 + k) = 21) (hB : ybs (96 + k) = B)
    (h1 : ck_yos [3] st lo → wY_look_279 post (nI k) (nI n) 21 B ylim ywa (nI (ck_yrs [3] st lo)) (nI (ck_yrl [3] st lo)) yrn ysp yaw yan ywh you ymd 1 yop yops ybs ysz yex yst yow yle yel yla ysh yro yos yoe yoh yor yrw ynx ydp ypl ykd ymt ytd yht) (h0 : ¬ ck_yos [3] st lo → ∀ s l, post (ylim, ywa, s, l, yrn, ysp, yaw, yan, ywh, you, ymd, 0, yop, yops, ybs, ysz, yex, yst, yow, yle, yel, yla, ysh, yro, yos, yoe, yoh, yor, yrw, ynx, ydp, ypl, ykd, ymt, ytd, yht)) : wpY_look post (ylim, ywa, nI st, nI lo, yrn, ysp, yaw, yan, ywh, you, ymd, 1, yop, yops, ybs, ysz, yex, yst, yow, yle, yel, yla, ysh, yro, yos, yoe, yoh, yor, yrw, ynx, ydp, ypl, ykd, ymt, ytd, yht) (nI k) (nI n) := by
  have e0 : ((96 : Int32) + nI k).toNatClampNeg = 96 + k := pk_cl (96 + k) (nI_add 96 k)
  refine ⟨pk_in (96 + k) 112 (by omega) (nI_add 96 k), nm_r (e' := 21) (by rw [e0]; exact ho) ⟨pk_in (96 + k) 112 (by omega) (nI_add 96 k), nm_r (e' := B) (by rw [e0]; exact hB) ?_⟩⟩
  exact br_f (by decide) <| br_t (by decide) <| br_f (by decide) <| br_f (by decide) <| br_f (by decide) <| br_f (by decide) <| br_f (by decide) <| br_f (by decide) <| br_f (by decide) <| br_f (by decide) <| br_f (by decide) <| br_f (by decide) <| br_f (by decide) <| br_t rfl <|  yk_any _ (by omega) (fun b0 => h1 ⟨b0, trivial⟩) (fun b0 _ _ => br_t rfl (h0 (fun z => b0 z.1) _ _))
theorem yk_op_1_0 (post : SY → Prop) {k n st lo : Nat} {B : Int32} (hk : k < 16) (hs : st < 32) (hl : lo < 9) (ho : yops (96 + k) = 1) (hB : ybs (96 + k) = B) (hb : B = 0)
    (h1 : ck_yos [6] st lo → wY_look_279 post (nI k) (nI n) 1 B ylim ywa (nI (ck_yrs [6] st lo)) (nI (ck_yrl [6] st lo)) yrn ysp yaw yan ywh you ymd 1 yop yops ybs ysz yex yst yow yle yel yla ysh yro yos yoe yoh yor yrw ynx ydp ypl ykd ymt ytd yht) (h0 : ¬ ck_yos [6] st lo → ∀ s l, post (ylim, ywa, s, l, yrn, ysp, yaw, yan, ywh, you, ymd, 0, yop, yops, ybs, ysz, yex, yst, yow, yle, yel, yla, ysh, yro, yos, yoe, yoh, yor, yrw, ynx, ydp, ypl, ykd, ymt, ytd, yht)) : wpY_look post (ylim, ywa, nI st, nI lo, yrn, ysp, yaw, yan, ywh, you, ymd, 1, yop, yops, ybs, ysz, yex, yst, yow, yle, yel, yla, ysh, yro, yos, yoe, yoh, yor, yrw, ynx, ydp, ypl, ykd, ymt, ytd, yht) (nI k) (nI n) := by
  have e0 : ((96 : Int32) + nI k).toNatClampNeg = 96 + k := pk_cl (96 + k) (nI_add 96 k)
  refine ⟨pk_in (96 + k) 112 (by omega) (nI_add 96 k), nm_r (e' := 1) (by rw [e0]; exact ho) ⟨pk_in (96 + k) 112 (by omega) (nI_add 96 k), nm_r (e' := B) (by rw [e0]; exact hB) ?_⟩⟩
  refine br_f (by decide) <| br_f (by decide) <| br_f (by decide) <| br_t rfl <|  br_t hb ⟨by decide, ?_⟩
  have e3 : nI lo - nI lo / 3 * 3 = nI (lo % 3) := pk_rem (d := 3) (by omega) (by decide) (by decide)
  rw [e3]
  have e4 : lo % 3 = 0 ∨ lo % 3 = 1 ∨ lo % 3 = 2 := by omega
  rcases e4 with e | e | e
  · rw [e]
    exact br_t rfl (br_f (by decide) (yk_leave_b _ (fun _ => br_t rfl (h0 (fun z => z.1.1 e) _ _))))
  · have q : ck_ys 6 st lo = 2 * st + 0 := show 2 * st + (lo % 3 - 1) = _ by rw [e]
    rw [e]
    refine br_f (by decide) (br_f (by decide) (yk_leave _ (c := 0) (by omega) (by decide) (fun b1 => ?_) (fun b1 _ => br_t rfl (h0 (fun z => b1 z.1.2) _ _))))
    have h1' := h1 ⟨⟨by omega, b1⟩, trivial⟩
    simp only [ck_yrs, ck_yrl, q] at h1'
    exact h1'
  · have q : ck_ys 6 st lo = 2 * st + 1 := show 2 * st + (lo % 3 - 1) = _ by rw [e]
    rw [e]
    refine br_f (by decide) (br_t rfl (yk_leave _ (c := 1) (by omega) (by decide) (fun b1 => ?_) (fun b1 _ => br_t rfl (h0 (fun z => b1 z.1.2) _ _))))
    have h1' := h1 ⟨⟨by omega, b1⟩, trivial⟩
    simp only [ck_yrs, ck_yrl, q] at h1'
    exact h1'
theorem yk_op_2_0 (post : SY → Prop) {k n st lo : Nat} {B : Int32} (hk : k < 16) (hs : st < 32) (hl : lo < 9) (ho : yops (96 + k) = 2) (hB : ybs (96 + k) = B) (hb : B = 0)
    (h1 : ck_yos [8] st lo → wY_look_279 post (nI k) (nI n) 2 B ylim ywa (nI (ck_yrs [8] st lo)) (nI (ck_yrl [8] st lo)) yrn ysp yaw yan ywh you ymd 1 yop yops ybs ysz yex yst yow yle yel yla ysh yro yos yoe yoh yor yrw ynx ydp ypl ykd ymt ytd yht) (h0 : ¬ ck_yos [8] st lo → ∀ s l, post (ylim, ywa, s, l, yrn, ysp, yaw, yan, ywh, you, ymd, 0, yop, yops, ybs, ysz, yex, yst, yow, yle, yel, yla, ysh, yro, yos, yoe, yoh, yor, yrw, ynx, ydp, ypl, ykd, ymt, ytd, yht)) : wpY_look post (ylim, ywa, nI st, nI lo, yrn, ysp, yaw, yan, ywh, you, ymd, 1, yop, yops, ybs, ysz, yex, yst, yow, yle, yel, yla, ysh, yro, yos, yoe, yoh, yor, yrw, ynx, ydp, ypl, ykd, ymt, ytd, yht) (nI k) (nI n) := by
  have e0 : ((96 : Int32) + nI k).toNatClampNeg = 96 + k := pk_cl (96 + k) (nI_add 96 k)
  refine ⟨pk_in (96 + k) 112 (by omega) (nI_add 96 k), nm_r (e' := 2) (by rw [e0]; exact ho) ⟨pk_in (96 + k) 112 (by omega) (nI_add 96 k), nm_r (e' := B) (by rw [e0]; exact hB) ?_⟩⟩
  have e3 : (nI lo / 3) * 3 + (nI (st % 2) + 1) = nI (lo / 3 * 3 + (st % 2 + 1)) := by
    rw [nI_1, show nI lo / 3 = nI (lo / 3) from pk_div (d := 3) (by omega) (by decide) (by decide), show nI (lo / 3) * 3 = nI (lo / 3 * 3) from pk_mul _ 3, nI_add]
  refine br_f (by decide) <| br_f (by decide) <| br_f (by decide) <| br_f (by decide) <| br_t rfl <|  yk_any _ (by omega) (fun b0 => nm_e (br_t hb ⟨by decide, ?_⟩)) (fun b0 _ _ => nm_e (br_t hb ⟨by decide, br_t rfl (h0 (fun z => b0 z.1) _ _)⟩))
  show wY_look_279 post (nI k) (nI n) 2 B ylim ywa (nI (st / 2)) ((nI lo / 3) * 3 + (nI (st % 2) + 1)) yrn ysp yaw yan ywh you ymd 1 yop yops ybs ysz yex yst yow yle yel yla ysh yro yos yoe yoh yor yrw ynx ydp ypl ykd ymt ytd yht
  rw [e3]
  exact h1 ⟨b0, trivial⟩
theorem yk_op_1_1 (post : SY → Prop) {k n st lo : Nat} {B : Int32} (hk : k < 16) (hs : st < 32) (hl : lo < 9) (ho : yops (96 + k) = 1) (hB : ybs (96 + k) = B) (hb : ¬ B = 0)
    (h1 : ck_yos [7] st lo → wY_look_279 post (nI k) (nI n) 1 B ylim ywa (nI (ck_yrs [7] st lo)) (nI (ck_yrl [7] st lo)) yrn ysp yaw yan ywh you ymd 1 yop yops ybs ysz yex yst yow yle yel yla ysh yro yos yoe yoh yor yrw ynx ydp ypl ykd ymt ytd yht) (h0 : ¬ ck_yos [7] st lo → ∀ s l, post (ylim, ywa, s, l, yrn, ysp, yaw, yan, ywh, you, ymd, 0, yop, yops, ybs, ysz, yex, yst, yow, yle, yel, yla, ysh, yro, yos, yoe, yoh, yor, yrw, ynx, ydp, ypl, ykd, ymt, ytd, yht)) : wpY_look post (ylim, ywa, nI st, nI lo, yrn, ysp, yaw, yan, ywh, you, ymd, 1, yop, yops, ybs, ysz, yex, yst, yow, yle, yel, yla, ysh, yro, yos, yoe, yoh, yor, yrw, ynx, ydp, ypl, ykd, ymt, ytd, yht) (nI k) (nI n) := by
  have e0 : ((96 : Int32) + nI k).toNatClampNeg = 96 + k := pk_cl (96 + k) (nI_add 96 k)
  refine ⟨pk_in (96 + k) 112 (by omega) (nI_add 96 k), nm_r (e' := 1) (by rw [e0]; exact ho) ⟨pk_in (96 + k) 112 (by omega) (nI_add 96 k), nm_r (e' := B) (by rw [e0]; exact hB) ?_⟩⟩
  refine br_f (by decide) <| br_f (by decide) <| br_f (by decide) <| br_t rfl <|  br_f hb ⟨by decide, ?_⟩
  have e3 : nI lo / 3 = nI (lo / 3) := pk_div (d := 3) (by omega) (by decide) (by decide)
  rw [e3]
  have e4 : lo / 3 = 0 ∨ lo / 3 = 1 ∨ lo / 3 = 2 := by omega
  rcases e4 with e | e | e
  · rw [e]
    exact br_t rfl (br_f (by decide) (yk_leave_b _ (fun _ => br_t rfl (h0 (fun z => z.1.1 e) _ _))))
  · have q : ck_ys 7 st lo = 2 * st + 0 := show 2 * st + (lo / 3 - 1) = _ by rw [e]
    rw [e]
    refine br_f (by decide) (br_f (by decide) (yk_leave _ (c := 0) (by omega) (by decide) (fun b1 => ?_) (fun b1 _ => br_t rfl (h0 (fun z => b1 z.1.2) _ _))))
    have h1' := h1 ⟨⟨by omega, b1⟩, trivial⟩
    simp only [ck_yrs, ck_yrl, q] at h1'
    exact h1'
  · have q : ck_ys 7 st lo = 2 * st + 1 := show 2 * st + (lo / 3 - 1) = _ by rw [e]
    rw [e]
    refine br_f (by decide) (br_t rfl (yk_leave _ (c := 1) (by omega) (by decide) (fun b1 => ?_) (fun b1 _ => br_t rfl (h0 (fun z => b1 z.1.2) _ _))))
    have h1' := h1 ⟨⟨by omega, b1⟩, trivial⟩
    simp only [ck_yrs, ck_yrl, q] at h1'
    exact h1'
theorem yk_op_2_1 (post : SY → Prop) {k n st lo : Nat} {B : Int32} (hk : k < 16) (hs : st < 32) (hl : lo < 9) (ho : yops (96 + k) = 2) (hB : ybs (96 + k) = B) (hb : ¬ B = 0)
    (h1 : ck_yos [9] st lo → wY_look_279 post (nI k) (nI n) 2 B ylim ywa (nI (ck_yrs [9] st lo)) (nI (ck_yrl [9] st lo)) yrn ysp yaw yan ywh you ymd 1 yop yops ybs ysz yex yst yow yle yel yla ysh yro yos yoe yoh yor yrw ynx ydp ypl ykd ymt ytd yht) (h0 : ¬ ck_yos [9] st lo → ∀ s l, post (ylim, ywa, s, l, yrn, ysp, yaw, yan, ywh, you, ymd, 0, yop, yops, ybs, ysz, yex, yst, yow, yle, yel, yla, ysh, yro, yos, yoe, yoh, yor, yrw, ynx, ydp, ypl, ykd, ymt, ytd, yht)) : wpY_look post (ylim, ywa, nI st, nI lo, yrn, ysp, yaw, yan, ywh, you, ymd, 1, yop, yops, ybs, ysz, yex, yst, yow, yle, yel, yla, ysh, yro, yos, yoe, yoh, yor, yrw, ynx, ydp, ypl, ykd, ymt, ytd, yht) (nI k) (nI n) := by
  have e0 : ((96 : Int32) + nI k).toNatClampNeg = 96 + k := pk_cl (96 + k) (nI_add 96 k)
  refine ⟨pk_in (96 + k) 112 (by omega) (nI_add 96 k), nm_r (e' := 2) (by rw [e0]; exact ho) ⟨pk_in (96 + k) 112 (by omega) (nI_add 96 k), nm_r (e' := B) (by rw [e0]; exact hB) ?_⟩⟩
  have e3 : (nI lo - nI lo / 3 * 3) + 3 * (nI (st % 2) + 1) = nI (lo % 3 + 3 * (st % 2 + 1)) := by
    rw [nI_1, show nI lo - nI lo / 3 * 3 = nI (lo % 3) from pk_rem (d := 3) (by omega) (by decide) (by decide), show (3 : Int32) * nI (st % 2 + 1) = nI (3 * (st % 2 + 1)) from pk_mul 3 _, nI_add]
  refine br_f (by decide) <| br_f (by decide) <| br_f (by decide) <| br_f (by decide) <| br_t rfl <|  yk_any _ (by omega) (fun b0 => nm_e (br_f hb ⟨by decide, ?_⟩)) (fun b0 _ _ => nm_e (br_f hb ⟨by decide, br_t rfl (h0 (fun z => b0 z.1) _ _)⟩))
  show wY_look_279 post (nI k) (nI n) 2 B ylim ywa (nI (st / 2)) ((nI lo - nI lo / 3 * 3) + 3 * (nI (st % 2) + 1)) yrn ysp yaw yan ywh you ymd 1 yop yops ybs ysz yex yst yow yle yel yla ysh yro yos yoe yoh yor yrw ynx ydp ypl ykd ymt ytd yht
  rw [e3]
  exact h1 ⟨b0, trivial⟩
theorem yk_op (post : SY → Prop) {k n o b st lo : Nat} {B : Int32} (hk : k < 16) (hs : st < 32) (hl : lo < 9) (h25 : o < 25) (ho : yops (96 + k) = nI o) (hB : ybs (96 + k) = B) (hb : o = 1 ∨ o = 2 → b ≤ 1 ∧ B = nI b)
    (h1 : ck_yos (ck_pg o b) st lo → wY_look_279 post (nI k) (nI n) (nI o) B ylim ywa (nI (ck_yrs (ck_pg o b) st lo)) (nI (ck_yrl (ck_pg o b) st lo)) yrn ysp yaw yan ywh you ymd 1 yop yops ybs ysz yex yst yow yle yel yla ysh yro yos yoe yoh yor yrw ynx ydp ypl ykd ymt ytd yht) (h0 : ¬ ck_yos (ck_pg o b) st lo → ∀ s l, post (ylim, ywa, s, l, yrn, ysp, yaw, yan, ywh, you, ymd, 0, yop, yops, ybs, ysz, yex, yst, yow, yle, yel, yla, ysh, yro, yos, yoe, yoh, yor, yrw, ynx, ydp, ypl, ykd, ymt, ytd, yht)) : wpY_look post (ylim, ywa, nI st, nI lo, yrn, ysp, yaw, yan, ywh, you, ymd, 1, yop, yops, ybs, ysz, yex, yst, yow, yle, yel, yla, ysh, yro, yos, yoe, yoh, yor, yrw, ynx, ydp, ypl, ykd, ymt, ytd, yht) (nI k) (nI n) := by
  rcases ck_25 h25 with rfl | rfl | rfl | rfl | rfl | rfl | rfl | rfl | rfl | rfl | rfl | rfl | rfl | rfl | rfl | rfl | rfl | rfl | rfl | rfl | rfl | rfl | rfl | rfl | rfl
  · exact yk_op_0 post hk hs hl ho hB h1 h0
  · obtain ⟨hb1, hb2⟩ := hb (Or.inl rfl)
    obtain rfl | rfl : b = 0 ∨ b = 1 := by omega
    · exact yk_op_1_0 post hk hs hl ho hB hb2 h1 h0
    · exact yk_op_1_1 post hk hs hl ho hB (by rw [hb2]; decide) h1 h0
  · obtain ⟨hb1, hb2⟩ := hb (Or.inr rfl)
    obtain rfl | rfl : b = 0 ∨ b = 1 := by omega
    · exact yk_op_2_0 post hk hs hl ho hB hb2 h1 h0
    · exact yk_op_2_1 post hk hs hl ho hB (by rw [hb2]; decide) h1 h0
  · exact yk_op_3 post hk hs hl ho hB h1 h0
  · exact yk_op_4 post hk hs hl ho hB h1 h0
  · exact yk_op_5 post hk hs hl ho hB h1 h0
  · exact yk_op_6 post hk hs hl ho hB h1 h0
  · exact yk_op_7 post hk hs hl ho hB h1 h0
  · exact yk_op_8 post hk hs hl ho hB h1 h0
  · exact yk_op_9 post hk hs hl ho hB h1 h0
  · exact yk_op_10 post hk hs hl ho hB h1 h0
  · exact yk_op_11 post hk hs hl ho hB h1 h0
  · exact yk_op_12 post hk hs hl ho hB h1 h0
  · exact yk_op_13 post hk hs hl ho hB h1 h0
  · exact yk_op_14 post hk hs hl ho hB h1 h0
  · exact yk_op_15 post hk hs hl ho hB h1 h0
  · exact yk_op_16 post hk hs hl ho hB h1 h0
  · exact yk_op_17 post hk hs hl ho hB h1 h0
  · exact yk_op_18 post hk hs hl ho hB h1 h0
  · exact yk_op_19 post hk hs hl ho hB h1 h0
  · exact yk_op_20 post hk hs hl ho hB h1 h0
  · exact yk_op_21 post hk hs hl ho hB h1 h0
  · exact yk_op_22 post hk hs hl ho hB h1 h0
  · exact yk_op_23 post hk hs hl ho hB h1 h0
  · exact yk_op_24 post hk hs hl ho hB h1 h0
end YK
end
section
/-! THE REFERENCE'S CHECK: the list of states -/
def yc_h (st : Nat) : Nat := if st < 2 then 0 else if st < 4 then 1 else if st < 8 then 2 else if st < 16 then 3 else 4
theorem yc_hs : ∀ st, st < 32 → ∀ h, h < 5 → ((nI st >>> (nI h &&& 31)) ≤ 1 ↔ yc_h st ≤ h) := by decide +kernel
theorem yc_h4 (st : Nat) : yc_h st ≤ 4 := by
  unfold yc_h
  repeat' split
  all_goals omega
theorem yc_hd {d : Nat} {f : Nat → Nat} (h : ck_va d f) : yc_h (ck_st f d) = d := by
  obtain ⟨h4, _, _, hj⟩ := h
  obtain ⟨h1, h2⟩ := ck_st_lt d hj
  unfold yc_h
  obtain rfl | rfl | rfl | rfl | rfl : d = 0 ∨ d = 1 ∨ d = 2 ∨ d = 3 ∨ d = 4 := by omega
  all_goals (simp only [Nat.reducePow, Nat.reduceAdd] at h1 h2; repeat' split)
  all_goals omega
theorem yc_lo {d : Nat} {f : Nat → Nat} (h : ck_va d f) : ck_lo f < 9 := by
  have := h.2.1
  have := h.2.2.1
  unfold ck_lo
  omega
/-- how many states are not met yet -/
def yc_un (mt : Nat → Int32) : Nat := ck_sm (fun s => if mt s = 0 then 1 else 0) 4608
theorem yc_sm1 {f g : Nat → Nat} {s : Nat} (h : ∀ i, i ≠ s → g i = f i) (h1 : g s + 1 = f s) : ∀ n, s < n → ck_sm g n + 1 = ck_sm f n
  | 0, hs => absurd hs (Nat.not_lt_zero s)
  | n + 1, hs => by
    show ck_sm g n + g n + 1 = ck_sm f n + f n
    by_cases e : s = n
    · subst e
      rw [ck_sm_eq (f := g) (g := f) s (fun i hi => h i (by omega))]
      omega
    · have := yc_sm1 h h1 n (by omega)
      rw [h n (by omega)]
      omega
theorem yc_un_new {mt : Nat → Int32} {s : Nat} (hs : s < 4608) (h0 : mt s = 0) : yc_un (upd mt s 1) + 1 = yc_un mt :=
  yc_sm1 (s := s) (fun i hi => by show (if upd mt s 1 i = 0 then 1 else 0) = _; rw [pk_un hi]) (by show (if upd mt s 1 s = 0 then 1 else 0) + 1 = if mt s = 0 then 1 else 0; rw [pk_us, h0]; rfl) 4608 hs
theorem yc_un_old {mt : Nat → Int32} {s : Nat} (h0 : ¬ mt s = 0) : yc_un (upd mt s 1) = yc_un mt :=
  ck_sm_eq 4608 (fun i _ => by
    show (if upd mt s 1 i = 0 then 1 else 0) = if mt i = 0 then 1 else 0
    by_cases e : i = s
    · rw [e, pk_us, if_neg h0]
      rfl
    · rw [pk_un e])
def yc_n (k st lo : Nat) : Nat := k * 288 + st * 9 + lo
theorem yc_inj {k st lo k' st' lo' : Nat} (h : yc_n k st lo = yc_n k' st' lo') (h1 : st < 32) (h2 : lo < 9) (h3 : st' < 32) (h4 : lo' < 9) : k = k' ∧ st = st' ∧ lo = lo' := by
  unfold yc_n at h
  omega
theorem yc_n_lt {k st lo : Nat} (hk : k < 16) (h1 : st < 32) (h2 : lo < 9) : yc_n k st lo < 4608 := by
  unfold yc_n
  omega
/-- the list, the met, the heights -/
def yc_I (op b : Nat → Nat) (n : Nat) (M : Nat → Nat → (Nat → Nat) → Prop) (E : Nat → Prop) (w : Nat) (td mt ht : Nat → Int32) : Prop :=
  (∀ i, i < w → ∃ k st lo, k < n ∧ st < 32 ∧ lo < 9 ∧ td i = nI (yc_n k st lo) ∧ mt (yc_n k st lo) ≠ 0) ∧
  (∀ k st lo, k < 16 → st < 32 → lo < 9 → mt (yc_n k st lo) ≠ 0 → k < n ∧ (∃ d f, ck_va d f ∧ st = ck_st f d ∧ lo = ck_lo f ∧ (xw_Ce op b n M → M k d f)) ∧ ht k = nI (yc_h st)) ∧
  (∀ k st lo, k < 16 → st < 32 → lo < 9 → mt (yc_n k st lo) ≠ 0 → E (yc_n k st lo) ∨ (∃ i, i < w ∧ td i = nI (yc_n k st lo)) ∨ ck_yp op b n (fun s => mt s ≠ 0) k st lo) ∧
  (∀ k, k < n → ht k = -1 ∨ ∃ st lo, st < 32 ∧ lo < 9 ∧ ht k = nI (yc_h st) ∧ mt (yc_n k st lo) ≠ 0)
theorem yc_yp_up {op b : Nat → Nat} {n k st lo : Nat} {P Q : Nat → Prop} (h : ck_yp op b n P k st lo) (hPQ : ∀ s, P s → Q s) : ck_yp op b n Q k st lo :=
  ⟨h.1, fun z => ⟨(h.2.1 z).1, hPQ _ (h.2.1 z).2⟩, fun z => ⟨(h.2.2 z).1, hPQ _ (h.2.2 z).2⟩⟩
/-- a state is met: it was met before, or it is new -/
theorem yc_I_up {op b : Nat → Nat} {n : Nat} {M : Nat → Nat → (Nat → Nat) → Prop} {E : Nat → Prop} {w w' : Nat} {td mt ht td' : Nat → Int32} {k d : Nat} {f : Nat → Nat} (hn : n ≤ 16) (hk : k < n) (hv : ck_va d f) (hM : xw_Ce op b n M → M k d f) (hI : yc_I op b n M E w td mt ht) (hh : ht k = -1 ∨ ht k = nI d)
    (hw : (w' = w + 1 ∧ td' = upd td w (nI (yc_n k (ck_st f d) (ck_lo f)))) ∨ (w' = w ∧ td' = td ∧ mt (yc_n k (ck_st f d) (ck_lo f)) ≠ 0)) : yc_I op b n M E w' td' (upd mt (yc_n k (ck_st f d) (ck_lo f)) 1) (upd ht k (nI d)) := by
  obtain ⟨i1, i2, i3, i4⟩ := hI
  have hst := (ck_stb hv).2.2.2
  have hlo := yc_lo hv
  have hm : ∀ s, mt s ≠ 0 → upd mt (yc_n k (ck_st f d) (ck_lo f)) 1 s ≠ 0 := fun s h => by
    by_cases e : s = yc_n k (ck_st f d) (ck_lo f)
    · rw [e, pk_us]; decide
    · rw [pk_un e]; exact h
  have hme : upd mt (yc_n k (ck_st f d) (ck_lo f)) 1 (yc_n k (ck_st f d) (ck_lo f)) ≠ 0 := by rw [pk_us]; decide
  have hh' : ∀ st lo, st < 32 → lo < 9 → mt (yc_n k st lo) ≠ 0 → nI d = nI (yc_h st) := fun st lo h1 h2 h => by
    have a := (i2 k st lo (by omega) h1 h2 h).2.2
    rcases hh with q | q
    · rw [q] at a
      have := nI_pos (n := yc_h st) (by have := yc_h4 st; omega)
      rw [← a] at this
      exact absurd (by decide) this
    · rw [← q]; exact a
  refine ⟨fun i hi => ?_, fun k' st lo hk' h1 h2 h => ?_, fun k' st lo hk' h1 h2 h => ?_, fun k' hk' => ?_⟩
  · rcases hw with ⟨rfl, rfl⟩ | ⟨rfl, rfl, _⟩
    · by_cases e : i = w
      · subst e
        exact ⟨k, _, _, hk, hst, hlo, pk_us, hme⟩
      · obtain ⟨k', st, lo, a1, a2, a3, a4, a5⟩ := i1 i (by omega)
        exact ⟨k', st, lo, a1, a2, a3, by rw [pk_un e]; exact a4, hm _ a5⟩
    · obtain ⟨k', st, lo, a1, a2, a3, a4, a5⟩ := i1 i hi
      exact ⟨k', st, lo, a1, a2, a3, a4, hm _ a5⟩
  · by_cases e : yc_n k' st lo = yc_n k (ck_st f d) (ck_lo f)
    · obtain ⟨rfl, rfl, rfl⟩ := yc_inj e h1 h2 hst hlo
      exact ⟨hk, ⟨d, f, hv, rfl, rfl, hM⟩, by rw [pk_us, yc_hd hv]⟩
    · rw [pk_un e] at h
      obtain ⟨a1, a2, a3⟩ := i2 k' st lo hk' h1 h2 h
      refine ⟨a1, a2, ?_⟩
      by_cases e2 : k' = k
      · subst e2
        rw [pk_us]
        exact hh' st lo h1 h2 h
      · rw [pk_un e2]
        exact a3
  · by_cases e : yc_n k' st lo = yc_n k (ck_st f d) (ck_lo f)
    · rcases hw with ⟨rfl, rfl⟩ | ⟨rfl, rfl, hold⟩
      · exact Or.inr (Or.inl ⟨w, by omega, by rw [pk_us, e]⟩)
      · rw [← e] at hold
        rcases i3 k' st lo hk' h1 h2 hold with q | q | q
        · exact Or.inl q
        · exact Or.inr (Or.inl q)
        · exact Or.inr (Or.inr (yc_yp_up q hm))
    · rw [pk_un e] at h
      rcases i3 k' st lo hk' h1 h2 h with q | ⟨i, hi, q⟩ | q
      · exact Or.inl q
      · rcases hw with ⟨rfl, rfl⟩ | ⟨rfl, rfl, hold⟩
        · exact Or.inr (Or.inl ⟨i, by omega, by rw [pk_un (by omega)]; exact q⟩)
        · exact Or.inr (Or.inl ⟨i, hi, q⟩)
      · exact Or.inr (Or.inr (yc_yp_up q hm))
  · by_cases e2 : k' = k
    · subst e2
      exact Or.inr ⟨_, _, hst, hlo, by rw [pk_us, yc_hd hv], hme⟩
    · rw [pk_un e2]
      rcases i4 k' hk' with q | ⟨st, lo, a1, a2, a3, a4⟩
      · exact Or.inl q
      · exact Or.inr ⟨st, lo, a1, a2, a3, hm _ a4⟩
section YC
variable {ylim ywa ysk ylo yrn ysp yaw yan ywh you ygd yop : Int32}
variable {ymd : Int64}
variable {yops ybs ysz yex yow yle yel yla ysh yro yoe yoh yor yrw ynx ydp ypl ykd ymt ytd yht : Nat → Int32}
variable {yst yos : Nat → Int64}
variable {op b : Nat → Nat} {n : Nat} {M : Nat → Nat → (Nat → Nat) → Prop}
theorem yc_num (k st lo : Nat) : nI k * 288 + nI st * 9 + nI lo = nI (yc_n k st lo) := by
  rw [show nI k * 288 = nI (k * 288) from pk_mul k 288, show nI st * 9 = nI (st * 9) from pk_mul st 9, nI_add, nI_add]
  rfl
theorem yc_short : ∀ s, s < 4608 → vp_nar .short (nI s).toInt16.toInt32 = nI s := fun s hs => by
  rw [pk_vs]
  exact rl_sv_N (by omega)
/-- the store of a state, whatever the flag says -/
theorem yc_54 (post : SY → Prop) {k st lo h w e : Nat} (hk : k < 16) (h1 : st < 32) (h2 : lo < 9) (hw : w + yc_un ymt ≤ e) (he : e ≤ 4608)
    (hp : ∀ w' td, w' + yc_un (upd ymt (yc_n k st lo) 1) ≤ e → ((w' = w + 1 ∧ td = upd ytd w (nI (yc_n k st lo))) ∨ (w' = w ∧ td = ytd ∧ ymt (yc_n k st lo) ≠ 0)) → post (ylim, nI w', ysk, ylo, yrn, ysp, yaw, yan, ywh, you, ymd, ygd, yop, yops, ybs, ysz, yex, yst, yow, yle, yel, yla, ysh, yro, yos, yoe, yoh, yor, yrw, ynx, ydp, ypl, ykd, upd ymt (yc_n k st lo) 1, td, upd yht k (nI h))) : wY_meet_54 post (nI k) (nI st) (nI lo) (nI h) ylim (nI w) ysk ylo yrn ysp yaw yan ywh you ymd ygd yop yops ybs ysz yex yst yow yle yel yla ysh yro yos yoe yoh yor yrw ynx ydp ypl ykd ymt ytd yht := by
  have e0 : (nI k).toNatClampNeg = k := nI_clamp (by omega)
  have hs := yc_n_lt hk h1 h2
  have e1 : (nI (yc_n k st lo)).toNatClampNeg = yc_n k st lo := nI_clamp (by omega)
  have b1 : vp_nar .boolean 1 = 1 := by decide
  refine ⟨pk_in k 16 hk, nm_r (by rw [e0]) (nm_r (yc_num k st lo) ⟨pk_in _ 4608 hs, ?_⟩)⟩
  rw [e1, b1, yc_short _ hs]
  refine br_c (fun z => ?_) (fun z => ⟨pk_in _ 4608 hs, nm_e (hp w ytd (by rw [yc_un_old z]; exact hw) (Or.inr ⟨rfl, rfl, z⟩))⟩)
  have hu := yc_un_new hs z
  refine nm_r (nI_1 w) ⟨pk_in w 4608 (by omega), nm_r (by rw [nI_clamp (by omega)]) ⟨pk_in _ 4608 hs, nm_e (hp (w + 1) _ (by omega) (Or.inl ⟨rfl, rfl⟩))⟩⟩
theorem yc_15 (post : SY → Prop) {k st lo : Nat} (h1 : st < 32) (hk : k < 16)
    (hlt : yht k < 0 → wY_meet_54 post (nI k) (nI st) (nI lo) (nI (yc_h st)) ylim ywa ysk ylo yrn ysp yaw yan ywh you ymd ygd yop yops ybs ysz yex yst yow yle yel yla ysh yro yos yoe yoh yor yrw ynx ydp ypl ykd ymt ytd yht) (heq : ¬ yht k < 0 → yht k = nI (yc_h st) → wY_meet_54 post (nI k) (nI st) (nI lo) (nI (yc_h st)) ylim ywa ysk ylo yrn ysp yaw yan ywh you ymd ygd yop yops ybs ysz yex yst yow yle yel yla ysh yro yos yoe yoh yor yrw ynx ydp ypl ykd ymt ytd yht) (hne : ¬ yht k < 0 → ¬ yht k = nI (yc_h st) → wY_meet_54 post (nI k) (nI st) (nI lo) (nI (yc_h st)) ylim ywa ysk ylo yrn ysp yaw yan ywh you ymd 0 yop yops ybs ysz yex yst yow yle yel yla ysh yro yos yoe yoh yor yrw ynx ydp ypl ykd ymt ytd yht) :
    ∀ e h m, h + e = yc_h st → e < m → wY_meet_15 post (nI k) (nI st) (nI lo) ylim ywa ysk ylo yrn ysp yaw yan ywh you ymd ygd yop yops ybs ysz yex yst yow yle yel yla ysh yro yos yoe yoh yor yrw ynx ydp ypl ykd ymt ytd yht m (nI h) := by
  have h4 := yc_h4 st
  intro e
  induction e with
  | zero =>
    intro h m hh hm
    obtain ⟨m, rfl⟩ : ∃ q, m = q + 1 := ⟨m - 1, by omega⟩
    obtain rfl : h = yc_h st := by omega
    have e0 : (nI k).toNatClampNeg = k := nI_clamp (by omega)
    refine br_t ((yc_hs st h1 _ (by omega)).mpr (Nat.le_refl _)) ⟨pk_in k 16 hk, ?_⟩
    rw [e0]
    exact br_c hlt (fun z => ⟨pk_in k 16 hk, br_c (heq z) (hne z)⟩)
  | succ e ih =>
    intro h m hh hm
    obtain ⟨m, rfl⟩ : ∃ q, m = q + 1 := ⟨m - 1, by omega⟩
    refine br_f (fun z => ?_) (nm_r (nI_1 h) (ih (h + 1) m (by omega) (by omega)))
    have := (yc_hs st h1 h (by omega)).mp z
    omega
/-- a meeting while all is good -/
theorem yc_meet (post : SY → Prop) {k d w e : Nat} {f : Nat → Nat} {E : Nat → Prop} (hn : n ≤ 16) (hk : k ≤ 16) (hv : ck_va d f) (hM : xw_Ce op b n M → M k d f) (hI : yc_I op b n M E w ytd ymt yht) (hw : w + yc_un ymt ≤ e) (he : e ≤ 4608)
    (h1 : k < n → ∀ w' td mt ht, w' + yc_un mt ≤ e → yc_I op b n M E w' td mt ht → (∀ s, ymt s ≠ 0 → mt s ≠ 0) → mt (yc_n k (ck_st f d) (ck_lo f)) ≠ 0 → post (ylim, nI w', ysk, ylo, yrn, ysp, yaw, yan, ywh, you, ymd, ygd, yop, yops, ybs, ysz, yex, yst, yow, yle, yel, yla, ysh, yro, yos, yoe, yoh, yor, yrw, ynx, ydp, ypl, ykd, mt, td, ht))
    (h0 : ¬ xw_Ce op b n M → ∀ w' td mt ht, w' + yc_un mt ≤ e → post (ylim, nI w', ysk, ylo, yrn, ysp, yaw, yan, ywh, you, ymd, 0, yop, yops, ybs, ysz, yex, yst, yow, yle, yel, yla, ysh, yro, yos, yoe, yoh, yor, yrw, ynx, ydp, ypl, ykd, mt, td, ht)) : wpY_meet post (ylim, nI w, ysk, ylo, yrn, ysp, yaw, yan, ywh, you, ymd, ygd, yop, yops, ybs, ysz, yex, yst, yow, yle, yel, yla, ysh, yro, yos, yoe, yoh, yor, yrw, ynx, ydp, ypl, ykd, ymt, ytd, yht) (nI k) (nI (ck_st f d)) (nI (ck_lo f)) (nI n) := by
  have hst := (ck_stb hv).2.2.2
  have hlo := yc_lo hv
  have hup : ∀ s, ymt s ≠ 0 → upd ymt (yc_n k (ck_st f d) (ck_lo f)) 1 s ≠ 0 := fun s h => by
    by_cases e : s = yc_n k (ck_st f d) (ck_lo f)
    · rw [e, pk_us]; decide
    · rw [pk_un e]; exact h
  refine pk_lt k n (fun z => ⟨yc_h (ck_st f d) + 1, ?_⟩) (fun z => h0 (fun hC => absurd (hC.1 _ _ _ (hM hC)).1 (by omega)) w _ _ _ hw)
  have i4 := hI.2.2.2 k z
  refine yc_15 post hst (by omega) (fun y => ?_) (fun y x => ?_) (fun y x => ?_) (yc_h (ck_st f d)) 0 _ (by omega) (by omega)
  · have hh : yht k = -1 := by
      rcases i4 with q | ⟨st, lo, _, _, a3, _⟩
      · exact q
      · rw [a3] at y
        exact absurd y (nI_pos (by have := yc_h4 st; omega))
    refine yc_54 post (by omega) hst hlo hw he (fun w' td hw' hq => ?_)
    rw [yc_hd hv]
    exact h1 z w' td _ _ hw' (yc_I_up hn z hv hM hI (Or.inl hh) hq) hup (by rw [pk_us]; decide)
  · refine yc_54 post (by omega) hst hlo hw he (fun w' td hw' hq => ?_)
    rw [yc_hd hv] at x ⊢
    exact h1 z w' td _ _ hw' (yc_I_up hn z hv hM hI (Or.inr x) hq) hup (by rw [pk_us]; decide)
  · refine yc_54 post (by omega) hst hlo hw he (fun w' td hw' hq => h0 (fun hC => ?_) w' td _ _ hw')
    rcases i4 with q | ⟨st, lo, a1, a2, a3, a4⟩
    · rw [q] at y
      exact y (by decide)
    · obtain ⟨_, ⟨d', f', b1, b2, b3, b4⟩, _⟩ := hI.2.1 k st lo (by omega) a1 a2 a4
      have := hC.2 _ _ _ _ _ (b4 hC) (hM hC)
      subst this
      rw [a3, b2, yc_hd b1, yc_hd hv] at x
      exact x rfl
/-- a meeting when it is lost already -/
theorem yc_meet_b (post : SY → Prop) {k st lo w e : Nat} (hn : n ≤ 16) (hk : k ≤ 16) (h1 : st < 32) (h2 : lo < 9) (hw : w + yc_un ymt ≤ e) (he : e ≤ 4608)
    (h0 : ∀ w' td mt ht, w' + yc_un mt ≤ e → post (ylim, nI w', ysk, ylo, yrn, ysp, yaw, yan, ywh, you, ymd, 0, yop, yops, ybs, ysz, yex, yst, yow, yle, yel, yla, ysh, yro, yos, yoe, yoh, yor, yrw, ynx, ydp, ypl, ykd, mt, td, ht)) : wpY_meet post (ylim, nI w, ysk, ylo, yrn, ysp, yaw, yan, ywh, you, ymd, 0, yop, yops, ybs, ysz, yex, yst, yow, yle, yel, yla, ysh, yro, yos, yoe, yoh, yor, yrw, ynx, ydp, ypl, ykd, ymt, ytd, yht) (nI k) (nI st) (nI lo) (nI n) := by
  refine pk_lt k n (fun z => ⟨yc_h st + 1, ?_⟩) (fun z => h0 w _ _ _ hw)
  exact yc_15 post h1 (by omega) (fun _ => yc_54 post (by omega) h1 h2 hw he (fun w' td hw' _ => h0 w' td _ _ hw')) (fun _ _ => yc_54 post (by omega) h1 h2 hw he (fun w' td hw' _ => h0 w' td _ _ hw')) (fun _ _ => yc_54 post (by omega) h1 h2 hw he (fun w' td hw' _ => h0 w' td _ _ hw')) (yc_h st) 0 _ (by omega) (by omega)
end YC
end
section
/-! THE REFERENCE'S CHECK: all of it; and every b -/
section YL
variable {ylim ywa ysk ylo yrn ysp yaw yan ywh you ygd yop : Int32}
variable {ymd : Int64}
variable {yops ybs ysz yex yow yle yel yla ysh yro yoe yoh yor yrw ynx ydp ypl ykd ymt ytd yht : Nat → Int32}
variable {yst yos : Nat → Int64}
variable {op b : Nat → Nat} {n : Nat} {M : Nat → Nat → (Nat → Nat) → Prop}
def yl_code (yops ybs : Nat → Int32) (op b : Nat → Nat) (n : Nat) : Prop := xw_code (fun k => yops (96 + k)) (fun k => ybs (96 + k)) op b n
/-- one state is looked at -/
theorem yl_look (post : SY → Prop) {k d w e : Nat} {f : Nat → Nat} (hc : yl_code yops ybs op b n) (hk : k < n) (hv : ck_va d f) (hM : xw_Ce op b n M → M k d f) (hI : yc_I op b n M (fun s => s = yc_n k (ck_st f d) (ck_lo f)) w ytd ymt yht) (hw : w + yc_un ymt ≤ e) (he : e ≤ 4608)
    (h1 : ∀ w' td mt ht sk lo, w' + yc_un mt ≤ e → yc_I op b n M (fun _ => False) w' td mt ht → (∀ s, ymt s ≠ 0 → mt s ≠ 0) → post (ylim, nI w', sk, lo, yrn, ysp, yaw, yan, ywh, you, ymd, 1, yop, yops, ybs, ysz, yex, yst, yow, yle, yel, yla, ysh, yro, yos, yoe, yoh, yor, yrw, ynx, ydp, ypl, ykd, mt, td, ht))
    (h0 : ¬ xw_Ce op b n M → ∀ wa td mt ht sk lo, post (ylim, wa, sk, lo, yrn, ysp, yaw, yan, ywh, you, ymd, 0, yop, yops, ybs, ysz, yex, yst, yow, yle, yel, yla, ysh, yro, yos, yoe, yoh, yor, yrw, ynx, ydp, ypl, ykd, mt, td, ht)) : wpY_look post (ylim, nI w, nI (ck_st f d), nI (ck_lo f), yrn, ysp, yaw, yan, ywh, you, ymd, 1, yop, yops, ybs, ysz, yex, yst, yow, yle, yel, yla, ysh, yro, yos, yoe, yoh, yor, yrw, ynx, ydp, ypl, ykd, ymt, ytd, yht) (nI k) (nI n) := by
  have hn := hc.1
  obtain ⟨ho, hpo, hfb, hb⟩ := hc.2 k hk
  obtain ⟨hb12, hb78⟩ := xw_code_b hc hk
  have hp := xw_code_p hc k hk
  obtain ⟨y1, y2⟩ := ck_yL _ d f hp hv
  refine yk_op (b := b k) (o := op k) post (by omega) (ck_stb hv).2.2.2 (yc_lo hv) ho hpo rfl hb12 (fun hy => ?_) (fun hy sk lo => h0 (fun hC => hy (y1.mp (hC.1 _ _ _ (hM hC)).2.1)) _ _ _ _ _ _)
  obtain ⟨v1, v2, v3⟩ := y2 (y1.mpr hy)
  have hok := y1.mpr hy
  rw [← v2, ← v3]
  have done : ∀ w' td mt ht, yc_I op b n M (fun s => s = yc_n k (ck_st f d) (ck_lo f)) w' td mt ht → ck_yp op b n (fun s => mt s ≠ 0) k (ck_st f d) (ck_lo f) → yc_I op b n M (fun _ => False) w' td mt ht := fun w' td mt ht i hq => by
    refine ⟨i.1, i.2.1, fun k' st lo hk' a1 a2 a3 => ?_, i.2.2.2⟩
    rcases i.2.2.1 k' st lo hk' a1 a2 a3 with q | q | q
    · obtain ⟨rfl, rfl, rfl⟩ := yc_inj q a1 a2 (ck_stb hv).2.2.2 (yc_lo hv)
      exact Or.inr (Or.inr hq)
    · exact Or.inr (Or.inl q)
    · exact Or.inr (Or.inr q)
  have last : ∀ w' td mt ht, op k ≠ 19 → w' + yc_un mt ≤ e → yc_I op b n M (fun s => s = yc_n k (ck_st f d) (ck_lo f)) w' td mt ht → (∀ s, ymt s ≠ 0 → mt s ≠ 0) → ((op k = 7 ∨ op k = 8) → b k < n ∧ mt (yc_n (b k) (ck_st (ck_rk (ck_pg (op k) (b k)) d f) (ck_rd (ck_pg (op k) (b k)) d)) (ck_lo (ck_rk (ck_pg (op k) (b k)) d f))) ≠ 0) → wY_look_320 post (nI k) (nI n) (nI (op k)) ylim (nI w') (nI (ck_st (ck_rk (ck_pg (op k) (b k)) d f) (ck_rd (ck_pg (op k) (b k)) d))) (nI (ck_lo (ck_rk (ck_pg (op k) (b k)) d f))) yrn ysp yaw yan ywh you ymd 1 yop yops ybs ysz yex yst yow yle yel yla ysh yro yos yoe yoh yor yrw ynx ydp ypl ykd mt td ht := fun w' td mt ht h19 hw' i hup hj => by
    refine pk_eq (op k) 7 (fun z => h1 _ _ _ _ _ _ hw' (done _ _ _ _ i ⟨hy, fun q => ?_, fun q => absurd z q.1⟩) hup) (fun z => ?_)
    · have := hj q
      rw [v2, v3] at this
      exact this
    · rw [nI_1]
      refine yc_meet (M := M) (op := op) (b := b) _ hn (by omega) v1 (fun hC => (hC.1 _ _ _ (hM hC)).2.2.2 ⟨z, h19⟩) i hw' he (fun hk' w2 td2 mt2 ht2 hw2 i2 hup2 hm2 => h1 _ _ _ _ _ _ hw2 (done _ _ _ _ i2 ⟨hy, fun q => ?_, fun q => ?_⟩) (fun s hs => hup2 s (hup s hs))) (fun hC w2 td2 mt2 ht2 hw2 => h0 hC _ _ _ _ _ _)
      · have := hj q
        rw [v2, v3] at this
        exact ⟨this.1, hup2 _ this.2⟩
      · rw [v2, v3] at hm2
        exact ⟨hk', hm2⟩
  refine br_f (by decide) (pk_eq (op k) 19 (fun z => ?_) (fun z => ?_))
  · exact h1 _ _ _ _ _ _ hw (done _ _ _ _ hI ⟨hy, fun q => absurd q (by omega), fun q => absurd z q.2⟩) (fun _ h => h)
  · have jump : (op k = 7 ∨ op k = 8) → wY_look_305 post (nI k) (nI n) (nI (op k)) (ybs (96 + k)) ylim (nI w) (nI (ck_st (ck_rk (ck_pg (op k) (b k)) d f) (ck_rd (ck_pg (op k) (b k)) d))) (nI (ck_lo (ck_rk (ck_pg (op k) (b k)) d f))) yrn ysp yaw yan ywh you ymd 1 yop yops ybs ysz yex yst yow yle yel yla ysh yro yos yoe yoh yor yrw ynx ydp ypl ykd ymt ytd yht := fun y => by
      obtain ⟨q1, q2⟩ := hb78 y
      have q2' : ybs (96 + k) = nI (b k) := q2
      rw [q2']
      refine yc_meet (M := M) (op := op) (b := b) _ hn (by omega) v1 (fun hC => (hC.1 _ _ _ (hM hC)).2.2.1 y) hI hw he (fun hk' w2 td2 mt2 ht2 hw2 i2 hup2 hm2 => last _ _ _ _ z hw2 i2 hup2 (fun _ => ⟨q1, hm2⟩)) (fun hC w2 td2 mt2 ht2 hw2 => ?_)
      refine br_c (fun _ => h0 hC _ _ _ _ _ _) (fun _ => ?_)
      rw [nI_1]
      exact yc_meet_b (e := e) _ hn (by omega) (ck_stb v1).2.2.2 (yc_lo v1) hw2 he (fun _ _ _ _ _ => h0 hC _ _ _ _ _ _)
    exact pk_eq (op k) 7 (fun y => jump (Or.inl y)) (fun y => pk_eq (op k) 8 (fun x => jump (Or.inr x)) (fun x => last _ _ _ _ z hw hI (fun _ h => h) (fun q => absurd q (by omega))))
theorem yl_87 (post : Int32 → SY → Prop) (hn0 : 0 < n) (hc : yl_code yops ybs op b n) (hM : ck_good op b n → xw_Ce op b n M)
    (h1 : ck_good op b n → ∀ wa td mt ht sk lo gd, post 1 (ylim, wa, sk, lo, yrn, ysp, yaw, yan, ywh, you, ymd, gd, yop, yops, ybs, ysz, yex, yst, yow, yle, yel, yla, ysh, yro, yos, yoe, yoh, yor, yrw, ynx, ydp, ypl, ykd, mt, td, ht)) (h0 : ¬ ck_good op b n → ∀ wa td mt ht sk lo gd, post 0 (ylim, wa, sk, lo, yrn, ysp, yaw, yan, ywh, you, ymd, gd, yop, yops, ybs, ysz, yex, yst, yow, yle, yel, yla, ysh, yro, yos, yoe, yoh, yor, yrw, ynx, ydp, ypl, ykd, mt, td, ht)) :
    ∀ e m w td mt ht sk lo, e ≤ 4608 → e < m → w + yc_un mt ≤ e → yc_I op b n M (fun _ => False) w td mt ht → mt 10 ≠ 0 → wY_check_87 post (nI n) m ylim (nI w) sk lo yrn ysp yaw yan ywh you ymd 1 yop yops ybs ysz yex yst yow yle yel yla ysh yro yos yoe yoh yor yrw ynx ydp ypl ykd mt td ht := by
  have hn := hc.1
  have fin : ∀ td mt ht sk lo, yc_I op b n M (fun _ => False) 0 td mt ht → mt 10 ≠ 0 → post 1 (ylim, nI 0, sk, lo, yrn, ysp, yaw, yan, ywh, you, ymd, 1, yop, yops, ybs, ysz, yex, yst, yow, yle, yel, yla, ysh, yro, yos, yoe, yoh, yor, yrw, ynx, ydp, ypl, ykd, mt, td, ht) := fun td mt ht sk lo hI h10 => by
    refine h1 (ck_yg (met := fun s => mt s ≠ 0) (H := fun k => (ht k).toNatClampNeg) hn0 (xw_code_p hc) h10 (fun k st lo hk a1 a2 a3 => ?_) (fun k d f hk hv hm => ?_)) _ _ _ _ _ _ _
    · rcases hI.2.2.1 k st lo (by omega) a1 a2 a3 with q | ⟨i, hi, _⟩ | q
      · exact q.elim
      · exact absurd hi (by omega)
      · exact q
    · have := (hI.2.1 k (ck_st f d) (ck_lo f) (by omega) (ck_stb hv).2.2.2 (yc_lo hv) hm).2.2
      show (ht k).toNatClampNeg = d
      rw [this, yc_hd hv, nI_clamp (by have := hv.1; omega)]
  intro e
  induction e with
  | zero =>
    intro m w td mt ht sk lo he hm hw hI h10
    obtain ⟨m, rfl⟩ : ∃ q, m = q + 1 := ⟨m - 1, by omega⟩
    obtain rfl : w = 0 := by omega
    exact br_t (by decide) ⟨rfl, fin td mt ht sk lo hI h10⟩
  | succ e ih =>
    intro m w td mt ht sk lo he hm hw hI h10
    obtain ⟨m, rfl⟩ : ∃ q, m = q + 2 := ⟨m - 2, by omega⟩
    cases w with
    | zero => exact br_t (by decide) ⟨rfl, fin td mt ht sk lo hI h10⟩
    | succ w =>
      obtain ⟨k, st, lo', a1, a2, a3, a4, a5⟩ := hI.1 w (by omega)
      obtain ⟨_, ⟨d, f, c1, c2, c3, c4⟩, _⟩ := hI.2.1 k st lo' (by omega) a2 a3 a5
      have hs := yc_n_lt (k := k) (by omega) a2 a3
      have e9 : nI (yc_n k st lo') / 9 = nI (k * 32 + st) := by
        rw [show nI (yc_n k st lo') / 9 = nI (yc_n k st lo' / 9) from pk_div (d := 9) (by omega) (by decide) (by decide)]
        exact congrArg nI (by unfold yc_n; omega)
      have est : nI (yc_n k st lo') / 9 - nI (yc_n k st lo') / 9 / 32 * 32 = nI st := by
        rw [e9, show nI (k * 32 + st) - nI (k * 32 + st) / 32 * 32 = nI ((k * 32 + st) % 32) from pk_rem (d := 32) (by omega) (by decide) (by decide)]
        exact congrArg nI (by omega)
      have elo : nI (yc_n k st lo') - nI (yc_n k st lo') / 9 * 9 = nI lo' := by
        rw [show nI (yc_n k st lo') - nI (yc_n k st lo') / 9 * 9 = nI (yc_n k st lo' % 9) from pk_rem (d := 9) (by omega) (by decide) (by decide)]
        exact congrArg nI (by unfold yc_n; omega)
      have ek : nI (yc_n k st lo') / 288 = nI k := by
        rw [show nI (yc_n k st lo') / 288 = nI (yc_n k st lo' / 288) from pk_div (d := 288) (by omega) (by decide) (by decide)]
        exact congrArg nI (by unfold yc_n; omega)
      have ew : nI (w + 1) - 1 = nI w := nI_pred w
      have et : td (nI (w + 1) - 1).toNatClampNeg = nI (yc_n k st lo') := by rw [ew, nI_clamp (by omega)]; exact a4
      refine br_f (nI_nle (by omega) (by omega)) (br_f (by decide) (nm_r ew ⟨by rw [ew]; exact pk_in w 4608 (by omega), nm_r et ⟨by decide, by decide, nm_r est ⟨by decide, nm_r elo ⟨by decide, ?_⟩⟩⟩⟩))
      rw [ek, c2, c3]
      refine yl_look (M := M) (op := op) (b := b) (e := e) _ hc a1 c1 c4 ⟨fun i hi => hI.1 i (by omega), hI.2.1, fun k' st' lo2 b1 b2 b3 b4 => ?_, hI.2.2.2⟩ (by omega) (by omega) (fun w' td' mt' ht' sk' lo2 q1 q2 q3 => ih (m + 1) w' td' mt' ht' sk' lo2 (by omega) (by omega) q1 q2 (q3 _ h10)) (fun hC wa' td' mt' ht' sk' lo2 => ?_)
      · rcases hI.2.2.1 k' st' lo2 b1 b2 b3 b4 with q | ⟨i, hi, q⟩ | q
        · exact q.elim
        · by_cases ei : i = w
          · subst ei
            refine Or.inl ?_
            rw [a4] at q
            have := (nI_eq (by omega) (by have := yc_n_lt b1 b2 b3; omega)).mp q
            rw [← this, c2, c3]
          · exact Or.inr (Or.inl ⟨i, by omega, q⟩)
        · exact Or.inr (Or.inr q)
      · have hg : ¬ ck_good op b n := fun g => hC (hM g)
        exact br_c (fun _ => ⟨rfl, h0 hg _ _ _ _ _ _ _⟩) (fun _ => br_t rfl ⟨rfl, h0 hg _ _ _ _ _ _ _⟩)
end YL
end
section
/-! EVERY B -/
theorem xf_56 (B : Int32) : 5 < B ↔ ¬ B < 6 := by
  rw [Int32.lt_iff_toInt_lt, Int32.lt_iff_toInt_lt, show (5 : Int32).toInt = 5 from by decide, show (6 : Int32).toInt = 6 from by decide]
  omega
theorem xf_65 (B : Int32) : 6 ≤ B ↔ ¬ B < 6 := by
  rw [Int32.le_iff_toInt_le, Int32.lt_iff_toInt_lt]
  omega
theorem xf_nn {n : Nat} (B : Int32) : nI n ≤ B ↔ ¬ B < nI n := by
  rw [Int32.le_iff_toInt_le, Int32.lt_iff_toInt_lt]
  omega
theorem xf_X_0 (post : Int32 → Prop) {n : Nat} {B : Int32} (h1 : rl_fb 0 B n → post 1) (h0 : ¬ rl_fb 0 B n → post 0) : wpX_fitsB post 0 B (nI n) :=
  br_f (by decide) <| br_f (by decide) <| br_t rfl <|  br_c (fun z => h0 (fun y => absurd (y.1 rfl).1 (Int32.not_le.mpr z))) (fun z => br_c (fun y => h0 (fun x => absurd (x.1 rfl).2 (Int32.not_le.mpr y))) (fun y => h1 ⟨fun _ => ⟨Int32.not_lt.mp z, Int32.not_lt.mp y⟩, fun q => absurd q (by decide), fun q => absurd q (by decide), fun q => absurd q (by decide)⟩))
theorem xf_X_1 (post : Int32 → Prop) {n : Nat} {B : Int32} (h1 : rl_fb 1 B n → post 1) (h0 : ¬ rl_fb 1 B n → post 0) : wpX_fitsB post 1 B (nI n) :=
  br_f (by decide) <| br_f (by decide) <| br_f (by decide) <| br_t rfl <|  br_c (fun z => h1 ⟨fun q => absurd q (by decide), fun _ => Or.inl z, fun q => absurd q (by decide), fun q => absurd q (by decide)⟩) (fun z => br_c (fun y => h1 ⟨fun q => absurd q (by decide), fun _ => Or.inr y, fun q => absurd q (by decide), fun q => absurd q (by decide)⟩) (fun y => h0 (fun x => (x.2.1 (by decide)).elim z y)))
theorem xf_X_2 (post : Int32 → Prop) {n : Nat} {B : Int32} (h1 : rl_fb 2 B n → post 1) (h0 : ¬ rl_fb 2 B n → post 0) : wpX_fitsB post 2 B (nI n) :=
  br_f (by decide) <| br_f (by decide) <| br_f (by decide) <| br_f (by decide) <| br_t rfl <|  br_c (fun z => h1 ⟨fun q => absurd q (by decide), fun _ => Or.inl z, fun q => absurd q (by decide), fun q => absurd q (by decide)⟩) (fun z => br_c (fun y => h1 ⟨fun q => absurd q (by decide), fun _ => Or.inr y, fun q => absurd q (by decide), fun q => absurd q (by decide)⟩) (fun y => h0 (fun x => (x.2.1 (by decide)).elim z y)))
theorem xf_X_3 (post : Int32 → Prop) {n : Nat} {B : Int32} (h1 : rl_fb 3 B n → post 1) (h0 : ¬ rl_fb 3 B n → post 0) : wpX_fitsB post 3 B (nI n) :=
  br_f (by decide) <| br_f (by decide) <| br_f (by decide) <| br_f (by decide) <| br_f (by decide) <| br_t rfl <|  h1 ⟨fun q => absurd q (by decide), fun q => absurd q (by decide), fun q => absurd q (by decide), fun q => absurd q (by decide)⟩
theorem xf_X_4 (post : Int32 → Prop) {n : Nat} {B : Int32} (h1 : rl_fb 4 B n → post 1) (h0 : ¬ rl_fb 4 B n → post 0) : wpX_fitsB post 4 B (nI n) :=
  br_f (by decide) <| br_f (by decide) <| br_f (by decide) <| br_f (by decide) <| br_f (by decide) <| br_f (by decide) <| br_t rfl <|  h1 ⟨fun q => absurd q (by decide), fun q => absurd q (by decide), fun q => absurd q (by decide), fun q => absurd q (by decide)⟩
theorem xf_X_5 (post : Int32 → Prop) {n : Nat} {B : Int32} (h1 : rl_fb 5 B n → post 1) (h0 : ¬ rl_fb 5 B n → post 0) : wpX_fitsB post 5 B (nI n) :=
  br_f (by decide) <| br_f (by decide) <| br_f (by decide) <| br_f (by decide) <| br_f (by decide) <| br_f (by decide) <| br_f (by decide) <| br_t rfl <|  h1 ⟨fun q => absurd q (by decide), fun q => absurd q (by decide), fun q => absurd q (by decide), fun q => absurd q (by decide)⟩
theorem xf_X_6 (post : Int32 → Prop) {n : Nat} {B : Int32} (h1 : rl_fb 6 B n → post 1) (h0 : ¬ rl_fb 6 B n → post 0) : wpX_fitsB post 6 B (nI n) :=
  br_f (by decide) <| br_f (by decide) <| br_f (by decide) <| br_f (by decide) <| br_f (by decide) <| br_f (by decide) <| br_f (by decide) <| br_f (by decide) <| br_t rfl <|  h1 ⟨fun q => absurd q (by decide), fun q => absurd q (by decide), fun q => absurd q (by decide), fun q => absurd q (by decide)⟩
theorem xf_X_7 (post : Int32 → Prop) {n : Nat} {B : Int32} (h1 : rl_fb 7 B n → post 1) (h0 : ¬ rl_fb 7 B n → post 0) : wpX_fitsB post 7 B (nI n) :=
  br_f (by decide) <| br_f (by decide) <| br_f (by decide) <| br_f (by decide) <| br_f (by decide) <| br_f (by decide) <| br_f (by decide) <| br_f (by decide) <| br_f (by decide) <| br_t rfl <|  br_c (fun z => h0 (fun y => absurd (y.2.2.1 (by decide)).1 (Int32.not_le.mpr z))) (fun z => br_c (fun y => h0 (fun x => (xf_nn B).mp y (x.2.2.1 (by decide)).2)) (fun y => h1 ⟨fun q => absurd q (by decide), fun q => absurd q (by decide), fun _ => ⟨Int32.not_lt.mp z, Int32.not_le.mp y⟩, fun q => absurd q (by decide)⟩))
theorem xf_X_8 (post : Int32 → Prop) {n : Nat} {B : Int32} (h1 : rl_fb 8 B n → post 1) (h0 : ¬ rl_fb 8 B n → post 0) : wpX_fitsB post 8 B (nI n) :=
  br_f (by decide) <| br_f (by decide) <| br_f (by decide) <| br_f (by decide) <| br_f (by decide) <| br_f (by decide) <| br_f (by decide) <| br_f (by decide) <| br_f (by decide) <| br_f (by decide) <| br_t rfl <|  br_c (fun z => h0 (fun y => absurd (y.2.2.1 (by decide)).1 (Int32.not_le.mpr z))) (fun z => br_c (fun y => h0 (fun x => (xf_nn B).mp y (x.2.2.1 (by decide)).2)) (fun y => h1 ⟨fun q => absurd q (by decide), fun q => absurd q (by decide), fun _ => ⟨Int32.not_lt.mp z, Int32.not_le.mp y⟩, fun q => absurd q (by decide)⟩))
theorem xf_X_9 (post : Int32 → Prop) {n : Nat} {B : Int32} (h1 : rl_fb 9 B n → post 1) (h0 : ¬ rl_fb 9 B n → post 0) : wpX_fitsB post 9 B (nI n) :=
  br_f (by decide) <| br_f (by decide) <| br_f (by decide) <| br_f (by decide) <| br_f (by decide) <| br_f (by decide) <| br_f (by decide) <| br_f (by decide) <| br_f (by decide) <| br_f (by decide) <| br_f (by decide) <| br_t rfl <|  br_c (fun z => h1 ⟨fun q => absurd q (by decide), fun _ => Or.inl z, fun q => absurd q (by decide), fun q => absurd q (by decide)⟩) (fun z => br_c (fun y => h1 ⟨fun q => absurd q (by decide), fun _ => Or.inr y, fun q => absurd q (by decide), fun q => absurd q (by decide)⟩) (fun y => h0 (fun x => (x.2.1 (by decide)).elim z y)))
theorem xf_X_10 (post : Int32 → Prop) {n : Nat} {B : Int32} (h1 : rl_fb 10 B n → post 1) (h0 : ¬ rl_fb 10 B n → post 0) : wpX_fitsB post 10 B (nI n) :=
  br_f (by decide) <| br_f (by decide) <| br_f (by decide) <| br_f (by decide) <| br_f (by decide) <| br_f (by decide) <| br_f (by decide) <| br_f (by decide) <| br_f (by decide) <| br_f (by decide) <| br_f (by decide) <| br_f (by decide) <| br_t rfl <|  br_c (fun z => h1 ⟨fun q => absurd q (by decide), fun _ => Or.inl z, fun q => absurd q (by decide), fun q => absurd q (by decide)⟩) (fun z => br_c (fun y => h1 ⟨fun q => absurd q (by decide), fun _ => Or.inr y, fun q => absurd q (by decide), fun q => absurd q (by decide)⟩) (fun y => h0 (fun x => (x.2.1 (by decide)).elim z y)))
theorem xf_X_11 (post : Int32 → Prop) {n : Nat} {B : Int32} (h1 : rl_fb 11 B n → post 1) (h0 : ¬ rl_fb 11 B n → post 0) : wpX_fitsB post 11 B (nI n) :=
  br_f (by decide) <| br_f (by decide) <| br_f (by decide) <| br_f (by decide) <| br_f (by decide) <| br_f (by decide) <| br_f (by decide) <| br_f (by decide) <| br_f (by decide) <| br_f (by decide) <| br_f (by decide) <| br_f (by decide) <| br_f (by decide) <| br_t rfl <|  br_c (fun z => h1 ⟨fun q => absurd q (by decide), fun _ => Or.inl z, fun q => absurd q (by decide), fun q => absurd q (by decide)⟩) (fun z => br_c (fun y => h1 ⟨fun q => absurd q (by decide), fun _ => Or.inr y, fun q => absurd q (by decide), fun q => absurd q (by decide)⟩) (fun y => h0 (fun x => (x.2.1 (by decide)).elim z y)))
theorem xf_X_12 (post : Int32 → Prop) {n : Nat} {B : Int32} (h1 : rl_fb 12 B n → post 1) (h0 : ¬ rl_fb 12 B n → post 0) : wpX_fitsB post 12 B (nI n) :=
  br_f (by decide) <| br_f (by decide) <| br_f (by decide) <| br_f (by decide) <| br_f (by decide) <| br_f (by decide) <| br_f (by decide) <| br_f (by decide) <| br_f (by decide) <| br_f (by decide) <| br_f (by decide) <| br_f (by decide) <| br_f (by decide) <| br_f (by decide) <| br_t rfl <|  h1 ⟨fun q => absurd q (by decide), fun q => absurd q (by decide), fun q => absurd q (by decide), fun q => absurd q (by decide)⟩
theorem xf_X_13 (post : Int32 → Prop) {n : Nat} {B : Int32} (h1 : rl_fb 13 B n → post 1) (h0 : ¬ rl_fb 13 B n → post 0) : wpX_fitsB post 13 B (nI n) :=
  br_f (by decide) <| br_f (by decide) <| br_f (by decide) <| br_f (by decide) <| br_f (by decide) <| br_f (by decide) <| br_f (by decide) <| br_f (by decide) <| br_f (by decide) <| br_f (by decide) <| br_f (by decide) <| br_f (by decide) <| br_f (by decide) <| br_f (by decide) <| br_f (by decide) <| br_t rfl <|  h1 ⟨fun q => absurd q (by decide), fun q => absurd q (by decide), fun q => absurd q (by decide), fun q => absurd q (by decide)⟩
theorem xf_X_14 (post : Int32 → Prop) {n : Nat} {B : Int32} (h1 : rl_fb 14 B n → post 1) (h0 : ¬ rl_fb 14 B n → post 0) : wpX_fitsB post 14 B (nI n) :=
  br_f (by decide) <| br_f (by decide) <| br_f (by decide) <| br_f (by decide) <| br_f (by decide) <| br_f (by decide) <| br_f (by decide) <| br_f (by decide) <| br_f (by decide) <| br_f (by decide) <| br_f (by decide) <| br_f (by decide) <| br_f (by decide) <| br_f (by decide) <| br_f (by decide) <| br_f (by decide) <| br_t rfl <|  h1 ⟨fun q => absurd q (by decide), fun q => absurd q (by decide), fun q => absurd q (by decide), fun q => absurd q (by decide)⟩
theorem xf_X_15 (post : Int32 → Prop) {n : Nat} {B : Int32} (h1 : rl_fb 15 B n → post 1) (h0 : ¬ rl_fb 15 B n → post 0) : wpX_fitsB post 15 B (nI n) :=
  br_f (by decide) <| br_f (by decide) <| br_f (by decide) <| br_f (by decide) <| br_f (by decide) <| br_f (by decide) <| br_f (by decide) <| br_f (by decide) <| br_f (by decide) <| br_f (by decide) <| br_f (by decide) <| br_f (by decide) <| br_f (by decide) <| br_f (by decide) <| br_f (by decide) <| br_f (by decide) <| br_f (by decide) <| br_t rfl <|  h1 ⟨fun q => absurd q (by decide), fun q => absurd q (by decide), fun q => absurd q (by decide), fun q => absurd q (by decide)⟩
theorem xf_X_16 (post : Int32 → Prop) {n : Nat} {B : Int32} (h1 : rl_fb 16 B n → post 1) (h0 : ¬ rl_fb 16 B n → post 0) : wpX_fitsB post 16 B (nI n) :=
  br_f (by decide) <| br_f (by decide) <| br_f (by decide) <| br_f (by decide) <| br_f (by decide) <| br_f (by decide) <| br_f (by decide) <| br_f (by decide) <| br_f (by decide) <| br_f (by decide) <| br_f (by decide) <| br_f (by decide) <| br_f (by decide) <| br_f (by decide) <| br_f (by decide) <| br_f (by decide) <| br_f (by decide) <| br_f (by decide) <| br_t rfl <|  br_c (fun z => h0 (fun y => absurd (y.2.2.2 (by decide)).1 (Int32.not_le.mpr z))) (fun z => br_c (fun y => h0 (fun x => (xf_65 B).mp y (x.2.2.2 (by decide)).2)) (fun y => h1 ⟨fun q => absurd q (by decide), fun q => absurd q (by decide), fun q => absurd q (by decide), fun _ => ⟨Int32.not_lt.mp z, Classical.byContradiction fun w => y ((xf_65 B).mpr w)⟩⟩))
theorem xf_X_17 (post : Int32 → Prop) {n : Nat} {B : Int32} (h1 : rl_fb 17 B n → post 1) (h0 : ¬ rl_fb 17 B n → post 0) : wpX_fitsB post 17 B (nI n) :=
  br_f (by decide) <| br_f (by decide) <| br_f (by decide) <| br_f (by decide) <| br_f (by decide) <| br_f (by decide) <| br_f (by decide) <| br_f (by decide) <| br_f (by decide) <| br_f (by decide) <| br_f (by decide) <| br_f (by decide) <| br_f (by decide) <| br_f (by decide) <| br_f (by decide) <| br_f (by decide) <| br_f (by decide) <| br_f (by decide) <| br_f (by decide) <| br_t rfl <|  h1 ⟨fun q => absurd q (by decide), fun q => absurd q (by decide), fun q => absurd q (by decide), fun q => absurd q (by decide)⟩
theorem xf_X_18 (post : Int32 → Prop) {n : Nat} {B : Int32} (h1 : rl_fb 18 B n → post 1) (h0 : ¬ rl_fb 18 B n → post 0) : wpX_fitsB post 18 B (nI n) :=
  br_f (by decide) <| br_f (by decide) <| br_f (by decide) <| br_f (by decide) <| br_f (by decide) <| br_f (by decide) <| br_f (by decide) <| br_f (by decide) <| br_f (by decide) <| br_f (by decide) <| br_f (by decide) <| br_f (by decide) <| br_f (by decide) <| br_f (by decide) <| br_f (by decide) <| br_f (by decide) <| br_f (by decide) <| br_f (by decide) <| br_f (by decide) <| br_f (by decide) <| br_t rfl <|  br_c (fun z => h0 (fun y => absurd (y.2.2.2 (by decide)).1 (Int32.not_le.mpr z))) (fun z => br_c (fun y => h0 (fun x => (xf_65 B).mp y (x.2.2.2 (by decide)).2)) (fun y => h1 ⟨fun q => absurd q (by decide), fun q => absurd q (by decide), fun q => absurd q (by decide), fun _ => ⟨Int32.not_lt.mp z, Classical.byContradiction fun w => y ((xf_65 B).mpr w)⟩⟩))
theorem xf_X_19 (post : Int32 → Prop) {n : Nat} {B : Int32} (h1 : rl_fb 19 B n → post 1) (h0 : ¬ rl_fb 19 B n → post 0) : wpX_fitsB post 19 B (nI n) :=
  br_f (by decide) <| br_t (by decide) <| h1 ⟨fun q => absurd q (by decide), fun q => absurd q (by decide), fun q => absurd q (by decide), fun q => absurd q (by decide)⟩
theorem xf_X_20 (post : Int32 → Prop) {n : Nat} {B : Int32} (h1 : rl_fb 20 B n → post 1) (h0 : ¬ rl_fb 20 B n → post 0) : wpX_fitsB post 20 B (nI n) :=
  br_f (by decide) <| br_t (by decide) <| h1 ⟨fun q => absurd q (by decide), fun q => absurd q (by decide), fun q => absurd q (by decide), fun q => absurd q (by decide)⟩
theorem xf_X_21 (post : Int32 → Prop) {n : Nat} {B : Int32} (h1 : rl_fb 21 B n → post 1) (h0 : ¬ rl_fb 21 B n → post 0) : wpX_fitsB post 21 B (nI n) :=
  br_f (by decide) <| br_t (by decide) <| h1 ⟨fun q => absurd q (by decide), fun q => absurd q (by decide), fun q => absurd q (by decide), fun q => absurd q (by decide)⟩
theorem xf_X_22 (post : Int32 → Prop) {n : Nat} {B : Int32} (h1 : rl_fb 22 B n → post 1) (h0 : ¬ rl_fb 22 B n → post 0) : wpX_fitsB post 22 B (nI n) :=
  br_f (by decide) <| br_t (by decide) <| h1 ⟨fun q => absurd q (by decide), fun q => absurd q (by decide), fun q => absurd q (by decide), fun q => absurd q (by decide)⟩
theorem xf_X_23 (post : Int32 → Prop) {n : Nat} {B : Int32} (h1 : rl_fb 23 B n → post 1) (h0 : ¬ rl_fb 23 B n → post 0) : wpX_fitsB post 23 B (nI n) :=
  br_f (by decide) <| br_t (by decide) <| h1 ⟨fun q => absurd q (by decide), fun q => absurd q (by decide), fun q => absurd q (by decide), fun q => absurd q (by decide)⟩
theorem xf_X_24 (post : Int32 → Prop) {n : Nat} {B : Int32} (h1 : rl_fb 24 B n → post 1) (h0 : ¬ rl_fb 24 B n → post 0) : wpX_fitsB post 24 B (nI n) :=
  br_f (by decide) <| br_t (by decide) <| h1 ⟨fun q => absurd q (by decide), fun q => absurd q (by decide), fun q => absurd q (by decide), fun q => absurd q (by decide)⟩
theorem xf_X (post : Int32 → Prop) {o n : Nat} {B : Int32} (ho : o < 25) (h1 : rl_fb o B n → post 1) (h0 : ¬ rl_fb o B n → post 0) : wpX_fitsB post (nI o) B (nI n) := by
  rcases ck_25 ho with rfl | rfl | rfl | rfl | rfl | rfl | rfl | rfl | rfl | rfl | rfl | rfl | rfl | rfl | rfl | rfl | rfl | rfl | rfl | rfl | rfl | rfl | rfl | rfl | rfl
  · exact xf_X_0 post h1 h0
  · exact xf_X_1 post h1 h0
  · exact xf_X_2 post h1 h0
  · exact xf_X_3 post h1 h0
  · exact xf_X_4 post h1 h0
  · exact xf_X_5 post h1 h0
  · exact xf_X_6 post h1 h0
  · exact xf_X_7 post h1 h0
  · exact xf_X_8 post h1 h0
  · exact xf_X_9 post h1 h0
  · exact xf_X_10 post h1 h0
  · exact xf_X_11 post h1 h0
  · exact xf_X_12 post h1 h0
  · exact xf_X_13 post h1 h0
  · exact xf_X_14 post h1 h0
  · exact xf_X_15 post h1 h0
  · exact xf_X_16 post h1 h0
  · exact xf_X_17 post h1 h0
  · exact xf_X_18 post h1 h0
  · exact xf_X_19 post h1 h0
  · exact xf_X_20 post h1 h0
  · exact xf_X_21 post h1 h0
  · exact xf_X_22 post h1 h0
  · exact xf_X_23 post h1 h0
  · exact xf_X_24 post h1 h0
theorem xf_Y_0 (post : Int32 → Prop) {n : Nat} {B : Int32} (h1 : rl_fb 0 B n → post 1) (h0 : ¬ rl_fb 0 B n → post 0) : wpY_fits post 0 B (nI n) :=
  br_f (by decide) <| br_f (by decide) <| br_t rfl <|  br_c (fun z => h0 (fun y => absurd (y.1 rfl).1 (Int32.not_le.mpr z))) (fun z => br_c (fun y => h0 (fun x => absurd (x.1 rfl).2 (Int32.not_le.mpr y))) (fun y => h1 ⟨fun _ => ⟨Int32.not_lt.mp z, Int32.not_lt.mp y⟩, fun q => absurd q (by decide), fun q => absurd q (by decide), fun q => absurd q (by decide)⟩))
theorem xf_Y_1 (post : Int32 → Prop) {n : Nat} {B : Int32} (h1 : rl_fb 1 B n → post 1) (h0 : ¬ rl_fb 1 B n → post 0) : wpY_fits post 1 B (nI n) :=
  br_f (by decide) <| br_f (by decide) <| br_f (by decide) <| br_t rfl <|  br_c (fun z => h1 ⟨fun q => absurd q (by decide), fun _ => Or.inl z, fun q => absurd q (by decide), fun q => absurd q (by decide)⟩) (fun z => br_c (fun y => h1 ⟨fun q => absurd q (by decide), fun _ => Or.inr y, fun q => absurd q (by decide), fun q => absurd q (by decide)⟩) (fun y => h0 (fun x => (x.2.1 (by decide)).elim z y)))
theorem xf_Y_2 (post : Int32 → Prop) {n : Nat} {B : Int32} (h1 : rl_fb 2 B n → post 1) (h0 : ¬ rl_fb 2 B n → post 0) : wpY_fits post 2 B (nI n) :=
  br_f (by decide) <| br_f (by decide) <| br_f (by decide) <| br_f (by decide) <| br_t rfl <|  br_c (fun z => h1 ⟨fun q => absurd q (by decide), fun _ => Or.inl z, fun q => absurd q (by decide), fun q => absurd q (by decide)⟩) (fun z => br_c (fun y => h1 ⟨fun q => absurd q (by decide), fun _ => Or.inr y, fun q => absurd q (by decide), fun q => absurd q (by decide)⟩) (fun y => h0 (fun x => (x.2.1 (by decide)).elim z y)))
theorem xf_Y_3 (post : Int32 → Prop) {n : Nat} {B : Int32} (h1 : rl_fb 3 B n → post 1) (h0 : ¬ rl_fb 3 B n → post 0) : wpY_fits post 3 B (nI n) :=
  br_f (by decide) <| br_f (by decide) <| br_f (by decide) <| br_f (by decide) <| br_f (by decide) <| br_t rfl <|  h1 ⟨fun q => absurd q (by decide), fun q => absurd q (by decide), fun q => absurd q (by decide), fun q => absurd q (by decide)⟩
theorem xf_Y_4 (post : Int32 → Prop) {n : Nat} {B : Int32} (h1 : rl_fb 4 B n → post 1) (h0 : ¬ rl_fb 4 B n → post 0) : wpY_fits post 4 B (nI n) :=
  br_f (by decide) <| br_f (by decide) <| br_f (by decide) <| br_f (by decide) <| br_f (by decide) <| br_f (by decide) <| br_t rfl <|  h1 ⟨fun q => absurd q (by decide), fun q => absurd q (by decide), fun q => absurd q (by decide), fun q => absurd q (by decide)⟩
theorem xf_Y_5 (post : Int32 → Prop) {n : Nat} {B : Int32} (h1 : rl_fb 5 B n → post 1) (h0 : ¬ rl_fb 5 B n → post 0) : wpY_fits post 5 B (nI n) :=
  br_f (by decide) <| br_f (by decide) <| br_f (by decide) <| br_f (by decide) <| br_f (by decide) <| br_f (by decide) <| br_f (by decide) <| br_t rfl <|  h1 ⟨fun q => absurd q (by decide), fun q => absurd q (by decide), fun q => absurd q (by decide), fun q => absurd q (by decide)⟩
theorem xf_Y_6 (post : Int32 → Prop) {n : Nat} {B : Int32} (h1 : rl_fb 6 B n → post 1) (h0 : ¬ rl_fb 6 B n → post 0) : wpY_fits post 6 B (nI n) :=
  br_f (by decide) <| br_f (by decide) <| br_f (by decide) <| br_f (by decide) <| br_f (by decide) <| br_f (by decide) <| br_f (by decide) <| br_f (by decide) <| br_t rfl <|  h1 ⟨fun q => absurd q (by decide), fun q => absurd q (by decide), fun q => absurd q (by decide), fun q => absurd q (by decide)⟩
theorem xf_Y_7 (post : Int32 → Prop) {n : Nat} {B : Int32} (h1 : rl_fb 7 B n → post 1) (h0 : ¬ rl_fb 7 B n → post 0) : wpY_fits post 7 B (nI n) :=
  br_f (by decide) <| br_f (by decide) <| br_f (by decide) <| br_f (by decide) <| br_f (by decide) <| br_f (by decide) <| br_f (by decide) <| br_f (by decide) <| br_f (by decide) <| br_t rfl <|  br_c (fun z => h0 (fun y => absurd (y.2.2.1 (by decide)).1 (Int32.not_le.mpr z))) (fun z => br_c (fun y => h0 (fun x => (xf_nn B).mp y (x.2.2.1 (by decide)).2)) (fun y => h1 ⟨fun q => absurd q (by decide), fun q => absurd q (by decide), fun _ => ⟨Int32.not_lt.mp z, Int32.not_le.mp y⟩, fun q => absurd q (by decide)⟩))
theorem xf_Y_8 (post : Int32 → Prop) {n : Nat} {B : Int32} (h1 : rl_fb 8 B n → post 1) (h0 : ¬ rl_fb 8 B n → post 0) : wpY_fits post 8 B (nI n) :=
  br_f (by decide) <| br_f (by decide) <| br_f (by decide) <| br_f (by decide) <| br_f (by decide) <| br_f (by decide) <| br_f (by decide) <| br_f (by decide) <| br_f (by decide) <| br_f (by decide) <| br_t rfl <|  br_c (fun z => h0 (fun y => absurd (y.2.2.1 (by decide)).1 (Int32.not_le.mpr z))) (fun z => br_c (fun y => h0 (fun x => (xf_nn B).mp y (x.2.2.1 (by decide)).2)) (fun y => h1 ⟨fun q => absurd q (by decide), fun q => absurd q (by decide), fun _ => ⟨Int32.not_lt.mp z, Int32.not_le.mp y⟩, fun q => absurd q (by decide)⟩))
theorem xf_Y_9 (post : Int32 → Prop) {n : Nat} {B : Int32} (h1 : rl_fb 9 B n → post 1) (h0 : ¬ rl_fb 9 B n → post 0) : wpY_fits post 9 B (nI n) :=
  br_f (by decide) <| br_f (by decide) <| br_f (by decide) <| br_f (by decide) <| br_f (by decide) <| br_f (by decide) <| br_f (by decide) <| br_f (by decide) <| br_f (by decide) <| br_f (by decide) <| br_f (by decide) <| br_t rfl <|  br_c (fun z => h1 ⟨fun q => absurd q (by decide), fun _ => Or.inl z, fun q => absurd q (by decide), fun q => absurd q (by decide)⟩) (fun z => br_c (fun y => h1 ⟨fun q => absurd q (by decide), fun _ => Or.inr y, fun q => absurd q (by decide), fun q => absurd q (by decide)⟩) (fun y => h0 (fun x => (x.2.1 (by decide)).elim z y)))
theorem xf_Y_10 (post : Int32 → Prop) {n : Nat} {B : Int32} (h1 : rl_fb 10 B n → post 1) (h0 : ¬ rl_fb 10 B n → post 0) : wpY_fits post 10 B (nI n) :=
  br_f (by decide) <| br_f (by decide) <| br_f (by decide) <| br_f (by decide) <| br_f (by decide) <| br_f (by decide) <| br_f (by decide) <| br_f (by decide) <| br_f (by decide) <| br_f (by decide) <| br_f (by decide) <| br_f (by decide) <| br_t rfl <|  br_c (fun z => h1 ⟨fun q => absurd q (by decide), fun _ => Or.inl z, fun q => absurd q (by decide), fun q => absurd q (by decide)⟩) (fun z => br_c (fun y => h1 ⟨fun q => absurd q (by decide), fun _ => Or.inr y, fun q => absurd q (by decide), fun q => absurd q (by decide)⟩) (fun y => h0 (fun x => (x.2.1 (by decide)).elim z y)))
theorem xf_Y_11 (post : Int32 → Prop) {n : Nat} {B : Int32} (h1 : rl_fb 11 B n → post 1) (h0 : ¬ rl_fb 11 B n → post 0) : wpY_fits post 11 B (nI n) :=
  br_f (by decide) <| br_f (by decide) <| br_f (by decide) <| br_f (by decide) <| br_f (by decide) <| br_f (by decide) <| br_f (by decide) <| br_f (by decide) <| br_f (by decide) <| br_f (by decide) <| br_f (by decide) <| br_f (by decide) <| br_f (by decide) <| br_t rfl <|  br_c (fun z => h1 ⟨fun q => absurd q (by decide), fun _ => Or.inl z, fun q => absurd q (by decide), fun q => absurd q (by decide)⟩) (fun z => br_c (fun y => h1 ⟨fun q => absurd q (by decide), fun _ => Or.inr y, fun q => absurd q (by decide), fun q => absurd q (by decide)⟩) (fun y => h0 (fun x => (x.2.1 (by decide)).elim z y)))
theorem xf_Y_12 (post : Int32 → Prop) {n : Nat} {B : Int32} (h1 : rl_fb 12 B n → post 1) (h0 : ¬ rl_fb 12 B n → post 0) : wpY_fits post 12 B (nI n) :=
  br_f (by decide) <| br_f (by decide) <| br_f (by decide) <| br_f (by decide) <| br_f (by decide) <| br_f (by decide) <| br_f (by decide) <| br_f (by decide) <| br_f (by decide) <| br_f (by decide) <| br_f (by decide) <| br_f (by decide) <| br_f (by decide) <| br_f (by decide) <| br_t rfl <|  h1 ⟨fun q => absurd q (by decide), fun q => absurd q (by decide), fun q => absurd q (by decide), fun q => absurd q (by decide)⟩
theorem xf_Y_13 (post : Int32 → Prop) {n : Nat} {B : Int32} (h1 : rl_fb 13 B n → post 1) (h0 : ¬ rl_fb 13 B n → post 0) : wpY_fits post 13 B (nI n) :=
  br_f (by decide) <| br_f (by decide) <| br_f (by decide) <| br_f (by decide) <| br_f (by decide) <| br_f (by decide) <| br_f (by decide) <| br_f (by decide) <| br_f (by decide) <| br_f (by decide) <| br_f (by decide) <| br_f (by decide) <| br_f (by decide) <| br_f (by decide) <| br_f (by decide) <| br_t rfl <|  h1 ⟨fun q => absurd q (by decide), fun q => absurd q (by decide), fun q => absurd q (by decide), fun q => absurd q (by decide)⟩
theorem xf_Y_14 (post : Int32 → Prop) {n : Nat} {B : Int32} (h1 : rl_fb 14 B n → post 1) (h0 : ¬ rl_fb 14 B n → post 0) : wpY_fits post 14 B (nI n) :=
  br_f (by decide) <| br_f (by decide) <| br_f (by decide) <| br_f (by decide) <| br_f (by decide) <| br_f (by decide) <| br_f (by decide) <| br_f (by decide) <| br_f (by decide) <| br_f (by decide) <| br_f (by decide) <| br_f (by decide) <| br_f (by decide) <| br_f (by decide) <| br_f (by decide) <| br_f (by decide) <| br_t rfl <|  h1 ⟨fun q => absurd q (by decide), fun q => absurd q (by decide), fun q => absurd q (by decide), fun q => absurd q (by decide)⟩
theorem xf_Y_15 (post : Int32 → Prop) {n : Nat} {B : Int32} (h1 : rl_fb 15 B n → post 1) (h0 : ¬ rl_fb 15 B n → post 0) : wpY_fits post 15 B (nI n) :=
  br_f (by decide) <| br_f (by decide) <| br_f (by decide) <| br_f (by decide) <| br_f (by decide) <| br_f (by decide) <| br_f (by decide) <| br_f (by decide) <| br_f (by decide) <| br_f (by decide) <| br_f (by decide) <| br_f (by decide) <| br_f (by decide) <| br_f (by decide) <| br_f (by decide) <| br_f (by decide) <| br_f (by decide) <| br_t rfl <|  h1 ⟨fun q => absurd q (by decide), fun q => absurd q (by decide), fun q => absurd q (by decide), fun q => absurd q (by decide)⟩
theorem xf_Y_16 (post : Int32 → Prop) {n : Nat} {B : Int32} (h1 : rl_fb 16 B n → post 1) (h0 : ¬ rl_fb 16 B n → post 0) : wpY_fits post 16 B (nI n) :=
  br_f (by decide) <| br_f (by decide) <| br_f (by decide) <| br_f (by decide) <| br_f (by decide) <| br_f (by decide) <| br_f (by decide) <| br_f (by decide) <| br_f (by decide) <| br_f (by decide) <| br_f (by decide) <| br_f (by decide) <| br_f (by decide) <| br_f (by decide) <| br_f (by decide) <| br_f (by decide) <| br_f (by decide) <| br_f (by decide) <| br_t rfl <|  br_c (fun z => h0 (fun y => absurd (y.2.2.2 (by decide)).1 (Int32.not_le.mpr z))) (fun z => br_c (fun y => h0 (fun x => (xf_56 B).mp y (x.2.2.2 (by decide)).2)) (fun y => h1 ⟨fun q => absurd q (by decide), fun q => absurd q (by decide), fun q => absurd q (by decide), fun _ => ⟨Int32.not_lt.mp z, Classical.byContradiction fun w => y ((xf_56 B).mpr w)⟩⟩))
theorem xf_Y_17 (post : Int32 → Prop) {n : Nat} {B : Int32} (h1 : rl_fb 17 B n → post 1) (h0 : ¬ rl_fb 17 B n → post 0) : wpY_fits post 17 B (nI n) :=
  br_f (by decide) <| br_f (by decide) <| br_f (by decide) <| br_f (by decide) <| br_f (by decide) <| br_f (by decide) <| br_f (by decide) <| br_f (by decide) <| br_f (by decide) <| br_f (by decide) <| br_f (by decide) <| br_f (by decide) <| br_f (by decide) <| br_f (by decide) <| br_f (by decide) <| br_f (by decide) <| br_f (by decide) <| br_f (by decide) <| br_f (by decide) <| br_t rfl <|  h1 ⟨fun q => absurd q (by decide), fun q => absurd q (by decide), fun q => absurd q (by decide), fun q => absurd q (by decide)⟩
theorem xf_Y_18 (post : Int32 → Prop) {n : Nat} {B : Int32} (h1 : rl_fb 18 B n → post 1) (h0 : ¬ rl_fb 18 B n → post 0) : wpY_fits post 18 B (nI n) :=
  br_f (by decide) <| br_f (by decide) <| br_f (by decide) <| br_f (by decide) <| br_f (by decide) <| br_f (by decide) <| br_f (by decide) <| br_f (by decide) <| br_f (by decide) <| br_f (by decide) <| br_f (by decide) <| br_f (by decide) <| br_f (by decide) <| br_f (by decide) <| br_f (by decide) <| br_f (by decide) <| br_f (by decide) <| br_f (by decide) <| br_f (by decide) <| br_f (by decide) <| br_t rfl <|  br_c (fun z => h0 (fun y => absurd (y.2.2.2 (by decide)).1 (Int32.not_le.mpr z))) (fun z => br_c (fun y => h0 (fun x => (xf_56 B).mp y (x.2.2.2 (by decide)).2)) (fun y => h1 ⟨fun q => absurd q (by decide), fun q => absurd q (by decide), fun q => absurd q (by decide), fun _ => ⟨Int32.not_lt.mp z, Classical.byContradiction fun w => y ((xf_56 B).mpr w)⟩⟩))
theorem xf_Y_19 (post : Int32 → Prop) {n : Nat} {B : Int32} (h1 : rl_fb 19 B n → post 1) (h0 : ¬ rl_fb 19 B n → post 0) : wpY_fits post 19 B (nI n) :=
  br_f (by decide) <| br_t (by decide) <| h1 ⟨fun q => absurd q (by decide), fun q => absurd q (by decide), fun q => absurd q (by decide), fun q => absurd q (by decide)⟩
theorem xf_Y_20 (post : Int32 → Prop) {n : Nat} {B : Int32} (h1 : rl_fb 20 B n → post 1) (h0 : ¬ rl_fb 20 B n → post 0) : wpY_fits post 20 B (nI n) :=
  br_f (by decide) <| br_t (by decide) <| h1 ⟨fun q => absurd q (by decide), fun q => absurd q (by decide), fun q => absurd q (by decide), fun q => absurd q (by decide)⟩
theorem xf_Y_21 (post : Int32 → Prop) {n : Nat} {B : Int32} (h1 : rl_fb 21 B n → post 1) (h0 : ¬ rl_fb 21 B n → post 0) : wpY_fits post 21 B (nI n) :=
  br_f (by decide) <| br_t (by decide) <| h1 ⟨fun q => absurd q (by decide), fun q => absurd q (by decide), fun q => absurd q (by decide), fun q => absurd q (by decide)⟩
theorem xf_Y_22 (post : Int32 → Prop) {n : Nat} {B : Int32} (h1 : rl_fb 22 B n → post 1) (h0 : ¬ rl_fb 22 B n → post 0) : wpY_fits post 22 B (nI n) :=
  br_f (by decide) <| br_t (by decide) <| h1 ⟨fun q => absurd q (by decide), fun q => absurd q (by decide), fun q => absurd q (by decide), fun q => absurd q (by decide)⟩
theorem xf_Y_23 (post : Int32 → Prop) {n : Nat} {B : Int32} (h1 : rl_fb 23 B n → post 1) (h0 : ¬ rl_fb 23 B n → post 0) : wpY_fits post 23 B (nI n) :=
  br_f (by decide) <| br_t (by decide) <| h1 ⟨fun q => absurd q (by decide), fun q => absurd q (by decide), fun q => absurd q (by decide), fun q => absurd q (by decide)⟩
theorem xf_Y_24 (post : Int32 → Prop) {n : Nat} {B : Int32} (h1 : rl_fb 24 B n → post 1) (h0 : ¬ rl_fb 24 B n → post 0) : wpY_fits post 24 B (nI n) :=
  br_f (by decide) <| br_t (by decide) <| h1 ⟨fun q => absurd q (by decide), fun q => absurd q (by decide), fun q => absurd q (by decide), fun q => absurd q (by decide)⟩
theorem xf_Y (post : Int32 → Prop) {o n : Nat} {B : Int32} (ho : o < 25) (h1 : rl_fb o B n → post 1) (h0 : ¬ rl_fb o B n → post 0) : wpY_fits post (nI o) B (nI n) := by
  rcases ck_25 ho with rfl | rfl | rfl | rfl | rfl | rfl | rfl | rfl | rfl | rfl | rfl | rfl | rfl | rfl | rfl | rfl | rfl | rfl | rfl | rfl | rfl | rfl | rfl | rfl | rfl
  · exact xf_Y_0 post h1 h0
  · exact xf_Y_1 post h1 h0
  · exact xf_Y_2 post h1 h0
  · exact xf_Y_3 post h1 h0
  · exact xf_Y_4 post h1 h0
  · exact xf_Y_5 post h1 h0
  · exact xf_Y_6 post h1 h0
  · exact xf_Y_7 post h1 h0
  · exact xf_Y_8 post h1 h0
  · exact xf_Y_9 post h1 h0
  · exact xf_Y_10 post h1 h0
  · exact xf_Y_11 post h1 h0
  · exact xf_Y_12 post h1 h0
  · exact xf_Y_13 post h1 h0
  · exact xf_Y_14 post h1 h0
  · exact xf_Y_15 post h1 h0
  · exact xf_Y_16 post h1 h0
  · exact xf_Y_17 post h1 h0
  · exact xf_Y_18 post h1 h0
  · exact xf_Y_19 post h1 h0
  · exact xf_Y_20 post h1 h0
  · exact xf_Y_21 post h1 h0
  · exact xf_Y_22 post h1 h0
  · exact xf_Y_23 post h1 h0
  · exact xf_Y_24 post h1 h0
end
section
/-! THE CHECKS AS A WHOLE -/
section CH
variable {xlim xpc xnd xwc xit xfc xwt xan xlp : Int32}
variable {xpo xpb xwd xwk xnk xco xcb xml xme xro xow xol xla xsh xoe xoh xsr xss xse xms xfm xfa xfd xcv xcr : Nat → Int32}
variable {ylim ywa ysk ylo yrn ysp yaw yan ywh you ygd yop : Int32}
variable {ymd : Int64}
variable {yops ybs ysz yex yow yle yel yla ysh yro yoe yoh yor yrw ynx ydp ypl ykd ymt ytd yht : Nat → Int32}
variable {yst yos : Nat → Int64}
/-- every b fits -/
def ch_fb (op : Nat → Nat) (B : Nat → Int32) (n : Nat) : Prop := ∀ k, k < n → rl_fb (op k) (B k) n
theorem ch_X4 (post : Int32 → Prop) {op : Nat → Nat} {n : Nat} (hn : n ≤ 16) (hc : ∀ k, k < n → op k < 25 ∧ xpo k = nI (op k)) (h1 : ch_fb op xpb n → post 1) (h0 : ¬ ch_fb op xpb n → post 0) :
    ∀ e k m, k + e = n → e < m → (∀ j, j < k → rl_fb (op j) (xpb j) n) → wX_fitsEveryB_4 post (nI n) xlim xpc xnd xwc xit xfc xwt xan xlp xpo xpb xwd xwk xnk xco xcb xml xme xro xow xol xla xsh xoe xoh xsr xss xse xms xfm xfa xfd xcv xcr m 1 (nI k) := by
  intro e
  induction e with
  | zero =>
    intro k m hk hm hj
    obtain ⟨m, rfl⟩ : ∃ q, m = q + 1 := ⟨m - 1, by omega⟩
    obtain rfl : k = n := by omega
    exact br_t (nI_le (Nat.le_refl _) (by omega)) ⟨rfl, h1 hj⟩
  | succ e ih =>
    intro k m hk hm hj
    obtain ⟨m, rfl⟩ : ∃ q, m = q + 2 := ⟨m - 2, by omega⟩
    have e0 : (nI k).toNatClampNeg = k := nI_clamp (by omega)
    refine br_f (nI_ge (by omega) (by omega)) (br_f (by decide) ⟨pk_in k 16 (by omega), pk_in k 16 (by omega), ?_⟩)
    rw [e0, (hc k (by omega)).2]
    refine xf_X _ (hc k (by omega)).1 (fun z => nm_r (nI_1 k) (ih (k + 1) (m + 1) (by omega) (by omega) (fun j hj' => ?_))) (fun z => nm_r (nI_1 k) ?_)
    · by_cases q : j = k
      · rw [q]; exact z
      · exact hj j (by omega)
    · have hno : ¬ ch_fb op xpb n := fun y => z (y k (by omega))
      exact br_c (fun _ => ⟨rfl, h0 hno⟩) (fun _ => br_t rfl ⟨rfl, h0 hno⟩)
theorem ch_X (post : Int32 → Prop) {op : Nat → Nat} {n : Nat} (hn : n ≤ 16) (hc : ∀ k, k < n → op k < 25 ∧ xpo k = nI (op k)) (h1 : ch_fb op xpb n → post 1) (h0 : ¬ ch_fb op xpb n → post 0) : wpX_fitsEveryB post (xlim, xpc, xnd, xwc, xit, xfc, xwt, xan, xlp, xpo, xpb, xwd, xwk, xnk, xco, xcb, xml, xme, xro, xow, xol, xla, xsh, xoe, xoh, xsr, xss, xse, xms, xfm, xfa, xfd, xcv, xcr) (nI n) :=
  ⟨n + 1, ch_X4 post hn hc h1 h0 n 0 (n + 1) (by omega) (by omega) (fun j hj => absurd hj (by omega))⟩
theorem ch_Y54 (post : Int32 → SY → Prop) {op b : Nat → Nat} {n : Nat} (hn0 : 0 < n) (hc : yl_code yops ybs op b n) (hht : ∀ k, k < n → yht k = -1)
    (h1 : ck_good op b n → ∀ wa td mt ht sk lo gd, post 1 (ylim, wa, sk, lo, yrn, ysp, yaw, yan, ywh, you, ymd, gd, yop, yops, ybs, ysz, yex, yst, yow, yle, yel, yla, ysh, yro, yos, yoe, yoh, yor, yrw, ynx, ydp, ypl, ykd, mt, td, ht)) (h0 : ¬ ck_good op b n → ∀ wa td mt ht sk lo gd, post 0 (ylim, wa, sk, lo, yrn, ysp, yaw, yan, ywh, you, ymd, gd, yop, yops, ybs, ysz, yex, yst, yow, yle, yel, yla, ysh, yro, yos, yoe, yoh, yor, yrw, ynx, ydp, ypl, ykd, mt, td, ht)) :
    ∀ e i m mt, i + e = 4608 → e < m → (∀ j, j < i → mt j = 0) → wY_check_54 post (nI n) ylim ywa ysk ylo yrn ysp yaw yan ywh you ymd 1 yop m (nI i) yops ybs ysz yex yst yow yle yel yla ysh yro yos yoe yoh yor yrw ynx ydp ypl ykd mt ytd yht := by
  have hn := hc.1
  intro e
  induction e with
  | zero =>
    intro i m mt hi hm hj
    obtain ⟨m, rfl⟩ : ∃ q, m = q + 1 := ⟨m - 1, by omega⟩
    obtain rfl : i = 4608 := by omega
    have hM : ∃ M : Nat → Nat → (Nat → Nat) → Prop, (ck_good op b n → xw_Ce op b n M) ∧ M 0 0 ck_f0 := by
      by_cases g : ck_good op b n
      · obtain ⟨M, g1, g2, g3⟩ := g
        exact ⟨M, fun _ => ⟨g2, g3⟩, g1⟩
      · exact ⟨fun _ _ _ => True, fun z => absurd z g, trivial⟩
    obtain ⟨M, hM, hM0⟩ := hM
    have hv : ck_va 0 ck_f0 := ⟨by decide, by decide, by decide, fun j h2 hj => absurd hj (by omega)⟩
    have hun : 0 + yc_un mt ≤ 4608 := by
      have : yc_un mt ≤ ck_sm (fun _ => 1) 4608 := ck_sm_le 4608 (fun i _ => by
        show (if mt i = 0 then 1 else 0) ≤ 1
        split <;> omega)
      have h2 : ∀ q, ck_sm (fun _ => 1) q = q := fun q => by
        induction q with
        | zero => rfl
        | succ q ih => show ck_sm (fun _ => 1) q + 1 = q + 1; rw [ih]
      rw [h2] at this
      omega
    have hI : yc_I op b n M (fun _ => False) 0 ytd mt yht := ⟨fun i hi => absurd hi (by omega), fun k st lo a1 a2 a3 a4 => absurd (hj _ (yc_n_lt a1 a2 a3)) a4, fun k st lo a1 a2 a3 a4 => absurd (hj _ (yc_n_lt a1 a2 a3)) a4, fun k hk => Or.inl (hht k hk)⟩
    refine br_t (by decide) ?_
    refine yc_meet (M := M) (op := op) (b := b) (k := 0) (d := 0) (f := ck_f0) (w := 0) (e := 4608) _ hn (by omega) hv (fun _ => hM0) hI hun (by omega) (fun hk w' td' mt' ht' q1 q2 q3 q4 => ?_) (fun hC w' td' mt' ht' q1 => ?_)
    · exact ⟨4609, yl_87 (M := M) post hn0 hc hM h1 h0 4608 4609 w' td' mt' ht' _ _ (by omega) (by omega) q1 q2 q4⟩
    · have hg : ¬ ck_good op b n := fun g => hC (hM g)
      exact ⟨1, br_c (fun _ => ⟨rfl, h0 hg _ _ _ _ _ _ _⟩) (fun _ => br_t rfl ⟨rfl, h0 hg _ _ _ _ _ _ _⟩)⟩
  | succ e ih =>
    intro i m mt hi hm hj
    obtain ⟨m, rfl⟩ : ∃ q, m = q + 1 := ⟨m - 1, by omega⟩
    have b0 : vp_nar .boolean 0 = 0 := by decide
    refine br_f (nI_ge (b := 4608) (by omega) (by decide)) ⟨pk_in i 4608 (by omega), nm_e (nm_r (nI_1 i) (ih (i + 1) m _ (by omega) (by omega) (fun j hj' => ?_)))⟩
    rw [nI_clamp (by omega), b0]
    by_cases q : j = i
    · rw [q, pk_us]
    · rw [pk_un q]
      exact hj j (by omega)
theorem ch_Y7 (post : Int32 → SY → Prop) {op b : Nat → Nat} {n : Nat} (hn0 : 0 < n) (hn : n ≤ 16) (hc : ∀ k, k < n → op k < 25 ∧ yops (96 + k) = nI (op k)) (hb : ∀ k, k < n → b k = (ybs (96 + k)).toNatClampNeg)
    (h1 : ch_fb op (fun k => ybs (96 + k)) n ∧ ck_good op b n → ∀ wa td mt ht sk lo gd, post 1 (ylim, wa, sk, lo, yrn, ysp, yaw, yan, ywh, you, ymd, gd, yop, yops, ybs, ysz, yex, yst, yow, yle, yel, yla, ysh, yro, yos, yoe, yoh, yor, yrw, ynx, ydp, ypl, ykd, mt, td, ht)) (h0 : ¬ (ch_fb op (fun k => ybs (96 + k)) n ∧ ck_good op b n) → ∀ wa td mt ht sk lo gd, post 0 (ylim, wa, sk, lo, yrn, ysp, yaw, yan, ywh, you, ymd, gd, yop, yops, ybs, ysz, yex, yst, yow, yle, yel, yla, ysh, yro, yos, yoe, yoh, yor, yrw, ynx, ydp, ypl, ykd, mt, td, ht)) :
    ∀ e k m ht, k + e = n → e < m → (∀ j, j < k → rl_fb (op j) (ybs (96 + j)) n) → (∀ j, j < k → ht j = -1) → wY_check_7 post (nI n) ylim ywa ysk ylo yrn ysp yaw yan ywh you ymd 1 yop m (nI k) yops ybs ysz yex yst yow yle yel yla ysh yro yos yoe yoh yor yrw ynx ydp ypl ykd ymt ytd ht := by
  intro e
  induction e with
  | zero =>
    intro k m ht hk hm hj hh
    obtain ⟨m, rfl⟩ : ∃ q, m = q + 1 := ⟨m - 1, by omega⟩
    obtain rfl : k = n := by omega
    have hcc : yl_code yops ybs op b k := ⟨hn, fun j hj' => ⟨(hc j hj').1, (hc j hj').2, hj j hj', hb j hj'⟩⟩
    exact br_t (nI_le (Nat.le_refl _) (by omega)) ⟨4609, ch_Y54 post hn0 hcc hh (fun g => h1 ⟨hj, g⟩) (fun g => h0 (fun z => g z.2)) 4608 0 4609 ymt (by omega) (by omega) (fun j hj => absurd hj (by omega))⟩
  | succ e ih =>
    intro k m ht hk hm hj hh
    obtain ⟨m, rfl⟩ : ∃ q, m = q + 1 := ⟨m - 1, by omega⟩
    have e0 : ((96 : Int32) + nI k).toNatClampNeg = 96 + k := pk_cl (96 + k) (nI_add 96 k)
    refine br_f (nI_ge (by omega) (by omega)) ⟨pk_in (96 + k) 112 (by omega) (nI_add 96 k), pk_in (96 + k) 112 (by omega) (nI_add 96 k), ?_⟩
    rw [e0, (hc k (by omega)).2]
    refine xf_Y _ (hc k (by omega)).1 (fun z => br_f (by decide) ⟨pk_in k 16 (by omega), nm_e (nm_r (nI_1 k) (ih (k + 1) m _ (by omega) (by omega) (fun j hj' => ?_) (fun j hj' => ?_)))⟩) (fun z => br_t rfl (h0 (fun y => z (y.1 k (by omega))) _ _ _ _ _ _ _))
    · by_cases q : j = k
      · rw [q]; exact z
      · exact hj j (by omega)
    · rw [nI_clamp (by omega)]
      by_cases q : j = k
      · rw [q, pk_us]
      · rw [pk_un q]
        exact hh j (by omega)
theorem ch_Y (post : Int32 → SY → Prop) {op b : Nat → Nat} {n : Nat} (hn0 : 0 < n) (hn : n ≤ 16) (hc : ∀ k, k < n → op k < 25 ∧ yops (96 + k) = nI (op k)) (hb : ∀ k, k < n → b k = (ybs (96 + k)).toNatClampNeg)
    (h1 : ch_fb op (fun k => ybs (96 + k)) n ∧ ck_good op b n → ∀ wa td mt ht sk lo gd, post 1 (ylim, wa, sk, lo, yrn, ysp, yaw, yan, ywh, you, ymd, gd, yop, yops, ybs, ysz, yex, yst, yow, yle, yel, yla, ysh, yro, yos, yoe, yoh, yor, yrw, ynx, ydp, ypl, ykd, mt, td, ht)) (h0 : ¬ (ch_fb op (fun k => ybs (96 + k)) n ∧ ck_good op b n) → ∀ wa td mt ht sk lo gd, post 0 (ylim, wa, sk, lo, yrn, ysp, yaw, yan, ywh, you, ymd, gd, yop, yops, ybs, ysz, yex, yst, yow, yle, yel, yla, ysh, yro, yos, yoe, yoh, yor, yrw, ynx, ydp, ypl, ykd, mt, td, ht)) : wpY_check post (ylim, ywa, ysk, ylo, yrn, ysp, yaw, yan, ywh, you, ymd, ygd, yop, yops, ybs, ysz, yex, yst, yow, yle, yel, yla, ysh, yro, yos, yoe, yoh, yor, yrw, ynx, ydp, ypl, ykd, ymt, ytd, yht) (nI n) :=
  ⟨n + 1, ch_Y7 post hn0 hn hc hb h1 h0 n 0 (n + 1) yht (by omega) (by omega) (fun j hj => absurd hj (by omega)) (fun j hj => absurd hj (by omega))⟩
end CH
end
section
/-! LOOPS THAT FILL ARRAYS: clearing, undoing, beginning, losing power -/
def lo_f (val : Nat → Int32) (l h : Nat) (a : Nat → Int32) : Nat → Int32 := fun i => if l ≤ i ∧ i < h then val i else a i
def lo_L (val : Nat → Int64) (l h : Nat) (a : Nat → Int64) : Nat → Int64 := fun i => if l ≤ i ∧ i < h then val i else a i
theorem lo_i {val a : Nat → Int32} {l h i : Nat} (h1 : l ≤ i) (h2 : i < h) : lo_f val l h a i = val i := if_pos ⟨h1, h2⟩
theorem lo_o {val a : Nat → Int32} {l h i : Nat} (hn : ¬ (l ≤ i ∧ i < h)) : lo_f val l h a i = a i := if_neg hn
theorem lo_Li {val a : Nat → Int64} {l h i : Nat} (h1 : l ≤ i) (h2 : i < h) : lo_L val l h a i = val i := if_pos ⟨h1, h2⟩
theorem lo_e {val a : Nat → Int32} {h : Nat} : lo_f val h h a = a := by
  funext i
  exact lo_o (by omega)
theorem lo_Le {val a : Nat → Int64} {h : Nat} : lo_L val h h a = a := by
  funext i
  exact if_neg (by omega)
theorem lo_s {val a : Nat → Int32} {l h : Nat} (hl : l < h) : lo_f val (l + 1) h (upd a l (val l)) = lo_f val l h a := by
  funext i
  by_cases e : i = l
  · rw [e, lo_o (by omega), pk_us, lo_i (by omega) hl]
  · by_cases h1 : l + 1 ≤ i ∧ i < h
    · rw [lo_i h1.1 h1.2, lo_i (by omega) h1.2]
    · rw [lo_o h1, pk_un e, lo_o (by omega)]
theorem lo_Ls {val a : Nat → Int64} {l h : Nat} (hl : l < h) : lo_L val (l + 1) h (vp_updL a l (val l)) = lo_L val l h a := by
  funext i
  unfold lo_L
  by_cases e : i = l
  · subst e
    rw [if_neg (by omega), pk_uLs, if_pos (by omega)]
  · by_cases h1 : l + 1 ≤ i ∧ i < h
    · rw [if_pos h1, if_pos (by omega)]
    · rw [if_neg h1, pk_uLn e, if_neg (by omega)]
/-- elements cleared of every object from o on that isn't lasting -/
def lo_p (la : Nat → Int32) (o : Nat) (a : Nat → Int32) : Nat → Int32 := fun i => if 4 * o ≤ i ∧ i < 36 ∧ la (i / 4) = 0 then 0 else a i
theorem lo_p_s {la a : Nat → Int32} {o : Nat} (ho : o ≤ 8) (h : la o = 0) : lo_p la (o + 1) (lo_f (fun _ => 0) (4 * o) (4 * o + 4) a) = lo_p la o a := by
  funext i
  unfold lo_p
  by_cases h1 : 4 * (o + 1) ≤ i ∧ i < 36 ∧ la (i / 4) = 0
  · rw [if_pos h1, if_pos ⟨by omega, h1.2⟩]
  · rw [if_neg h1]
    by_cases h2 : 4 * o ≤ i ∧ i < 4 * o + 4
    · have : i / 4 = o := by omega
      rw [lo_i h2.1 h2.2, this, if_pos ⟨h2.1, by omega, h⟩]
    · rw [lo_o h2, if_neg (fun z => h1 ⟨by omega, z.2⟩)]
theorem lo_p_n {la a : Nat → Int32} {o : Nat} (h : ¬ la o = 0) : lo_p la (o + 1) a = lo_p la o a := by
  funext i
  unfold lo_p
  by_cases h1 : 4 * (o + 1) ≤ i ∧ i < 36 ∧ la (i / 4) = 0
  · rw [if_pos h1, if_pos ⟨by omega, h1.2⟩]
  · rw [if_neg h1, if_neg (fun z => ?_)]
    by_cases h2 : i < 4 * (o + 1)
    · have : i / 4 = o := by omega
      rw [this] at z
      exact h z.2.2
    · exact h1 ⟨by omega, z.2⟩
theorem lo_p_e {la a : Nat → Int32} : lo_p la 9 a = a := by
  funext i
  exact if_neg (by omega)
/-- the component's undo -/
def lo_xs (ms ss : Nat → Int32) (o : Nat) (a : Nat → Int32) : Nat → Int32 := fun i => if o ≤ i ∧ i < 9 ∧ ms i = 0 then vp_nar .boolean (ss i) else a i
def lo_xe (ms la se : Nat → Int32) (o : Nat) (a : Nat → Int32) : Nat → Int32 := fun i => if 4 * o ≤ i ∧ i < 36 ∧ ms (i / 4) = 0 ∧ ¬ la (i / 4) = 0 then se i else a i
theorem lo_xs_s {ms ss a : Nat → Int32} {o : Nat} (ho : o ≤ 8) (h : ms o = 0) : lo_xs ms ss (o + 1) (upd a o (vp_nar .boolean (ss o))) = lo_xs ms ss o a := by
  funext i
  unfold lo_xs
  by_cases e : i = o
  · subst e
    rw [if_neg (by omega), pk_us, if_pos ⟨by omega, by omega, h⟩]
  · rw [pk_un e]
    by_cases h1 : o + 1 ≤ i ∧ i < 9 ∧ ms i = 0
    · rw [if_pos h1, if_pos ⟨by omega, h1.2⟩]
    · rw [if_neg h1, if_neg (fun z => h1 ⟨by omega, z.2⟩)]
theorem lo_xs_n {ms ss a : Nat → Int32} {o : Nat} (h : ¬ ms o = 0) : lo_xs ms ss (o + 1) a = lo_xs ms ss o a := by
  funext i
  unfold lo_xs
  by_cases e : i = o
  · subst e
    rw [if_neg (by omega), if_neg (fun z => h z.2.2)]
  · by_cases h1 : o + 1 ≤ i ∧ i < 9 ∧ ms i = 0
    · rw [if_pos h1, if_pos ⟨by omega, h1.2⟩]
    · rw [if_neg h1, if_neg (fun z => h1 ⟨by omega, z.2⟩)]
theorem lo_xs_e {ms ss a : Nat → Int32} : lo_xs ms ss 9 a = a := by
  funext i
  exact if_neg (by omega)
theorem lo_xe_s {ms la se a : Nat → Int32} {o : Nat} (ho : o ≤ 8) (h : ms o = 0) (hl : ¬ la o = 0) : lo_xe ms la se (o + 1) (lo_f se (4 * o) (4 * o + 4) a) = lo_xe ms la se o a := by
  funext i
  unfold lo_xe
  by_cases h1 : 4 * (o + 1) ≤ i ∧ i < 36 ∧ ms (i / 4) = 0 ∧ ¬ la (i / 4) = 0
  · rw [if_pos h1, if_pos ⟨by omega, h1.2⟩]
  · rw [if_neg h1]
    by_cases h2 : 4 * o ≤ i ∧ i < 4 * o + 4
    · have : i / 4 = o := by omega
      rw [lo_i h2.1 h2.2, this, if_pos ⟨h2.1, by omega, h, hl⟩]
    · rw [lo_o h2, if_neg (fun z => h1 ⟨by omega, z.2⟩)]
theorem lo_xe_n {ms la se a : Nat → Int32} {o : Nat} (h : ¬ (ms o = 0 ∧ ¬ la o = 0)) : lo_xe ms la se (o + 1) a = lo_xe ms la se o a := by
  funext i
  unfold lo_xe
  by_cases h1 : 4 * (o + 1) ≤ i ∧ i < 36 ∧ ms (i / 4) = 0 ∧ ¬ la (i / 4) = 0
  · rw [if_pos h1, if_pos ⟨by omega, h1.2⟩]
  · rw [if_neg h1, if_neg (fun z => ?_)]
    by_cases h2 : i < 4 * (o + 1)
    · have : i / 4 = o := by omega
      rw [this] at z
      exact h z.2.2
    · exact h1 ⟨by omega, z.2⟩
theorem lo_xe_e {ms la se a : Nat → Int32} : lo_xe ms la se 9 a = a := by
  funext i
  exact if_neg (by omega)
theorem lo_4 (o : Nat) : (4 : Int32) * nI o = nI (4 * o) := pk_mul 4 o
theorem lo_41 (o : Nat) : (4 : Int32) * (nI o + 1) = nI (4 * o + 4) := by
  rw [nI_1, lo_4]
  exact congrArg nI (by omega)
section LX
variable {xlim xpc xnd xwc xit xfc xwt xan xlp : Int32}
variable {xpo xpb xwd xwk xnk xco xcb xml xme xro xow xol xla xsh xoe xoh xsr xss xse xms xfm xfa xfd xcv xcr : Nat → Int32}
theorem lo_clear (P : SX → Prop) {o : Nat} (ho : o ≤ 8) (h : P (xlim, xpc, xnd, xwc, xit, xfc, xwt, xan, xlp, xpo, xpb, xwd, xwk, xnk, xco, xcb, xml, xme, xro, xow, xol, xla, xsh, lo_f (fun _ => 0) (4 * o) (4 * o + 4) xoe, xoh, xsr, xss, xse, xms, xfm, xfa, xfd, xcv, xcr)) : wpX_clearElements P (xlim, xpc, xnd, xwc, xit, xfc, xwt, xan, xlp, xpo, xpb, xwd, xwk, xnk, xco, xcb, xml, xme, xro, xow, xol, xla, xsh, xoe, xoh, xsr, xss, xse, xms, xfm, xfa, xfd, xcv, xcr) (nI o) := by
  have key : ∀ e c m oe, c + e = 4 * o + 4 → e < m → P (xlim, xpc, xnd, xwc, xit, xfc, xwt, xan, xlp, xpo, xpb, xwd, xwk, xnk, xco, xcb, xml, xme, xro, xow, xol, xla, xsh, lo_f (fun _ => 0) c (4 * o + 4) oe, xoh, xsr, xss, xse, xms, xfm, xfa, xfd, xcv, xcr) → wX_clearElements_4 P (nI o) xlim xpc xnd xwc xit xfc xwt xan xlp m (nI c) xpo xpb xwd xwk xnk xco xcb xml xme xro xow xol xla xsh oe xoh xsr xss xse xms xfm xfa xfd xcv xcr := by
    intro e
    induction e with
    | zero =>
      intro c m oe hc hm hp
      obtain ⟨m, rfl⟩ : ∃ q, m = q + 1 := ⟨m - 1, by omega⟩
      obtain rfl : c = 4 * o + 4 := by omega
      rw [lo_e] at hp
      exact br_t (by rw [lo_41]; exact nI_le (Nat.le_refl _) (by omega)) hp
    | succ e ih =>
      intro c m oe hc hm hp
      obtain ⟨m, rfl⟩ : ∃ q, m = q + 1 := ⟨m - 1, by omega⟩
      rw [← lo_s (by omega)] at hp
      refine br_f (by rw [lo_41]; exact nI_ge (by omega) (by omega)) ⟨pk_in c 36 (by omega), nm_r (by rw [nI_clamp (by omega)]) (nm_r (nI_1 c) (ih (c + 1) m _ (by omega) (by omega) hp))⟩
  exact nm_r (lo_4 o) ⟨5, key 4 (4 * o) 5 xoe (by omega) (by omega) h⟩
theorem lo_restore (P : SX → Prop) {o : Nat} (ho : o ≤ 8) (h : P (xlim, xpc, xnd, xwc, xit, xfc, xwt, xan, xlp, xpo, xpb, xwd, xwk, xnk, xco, xcb, xml, xme, xro, xow, xol, xla, xsh, lo_f xse (4 * o) (4 * o + 4) xoe, xoh, xsr, xss, xse, xms, xfm, xfa, xfd, xcv, xcr)) : wpX_restoreElements P (xlim, xpc, xnd, xwc, xit, xfc, xwt, xan, xlp, xpo, xpb, xwd, xwk, xnk, xco, xcb, xml, xme, xro, xow, xol, xla, xsh, xoe, xoh, xsr, xss, xse, xms, xfm, xfa, xfd, xcv, xcr) (nI o) := by
  have key : ∀ e c m oe, c + e = 4 * o + 4 → e < m → P (xlim, xpc, xnd, xwc, xit, xfc, xwt, xan, xlp, xpo, xpb, xwd, xwk, xnk, xco, xcb, xml, xme, xro, xow, xol, xla, xsh, lo_f xse c (4 * o + 4) oe, xoh, xsr, xss, xse, xms, xfm, xfa, xfd, xcv, xcr) → wX_restoreElements_4 P (nI o) xlim xpc xnd xwc xit xfc xwt xan xlp m (nI c) xpo xpb xwd xwk xnk xco xcb xml xme xro xow xol xla xsh oe xoh xsr xss xse xms xfm xfa xfd xcv xcr := by
    intro e
    induction e with
    | zero =>
      intro c m oe hc hm hp
      obtain ⟨m, rfl⟩ : ∃ q, m = q + 1 := ⟨m - 1, by omega⟩
      obtain rfl : c = 4 * o + 4 := by omega
      rw [lo_e] at hp
      exact br_t (by rw [lo_41]; exact nI_le (Nat.le_refl _) (by omega)) hp
    | succ e ih =>
      intro c m oe hc hm hp
      obtain ⟨m, rfl⟩ : ∃ q, m = q + 1 := ⟨m - 1, by omega⟩
      rw [← lo_s (by omega)] at hp
      refine br_f (by rw [lo_41]; exact nI_ge (by omega) (by omega)) ⟨pk_in c 36 (by omega), pk_in c 36 (by omega), nm_r (by rw [nI_clamp (by omega)]) (nm_r (nI_1 c) (ih (c + 1) m _ (by omega) (by omega) hp))⟩
  exact nm_r (lo_4 o) ⟨5, key 4 (4 * o) 5 xoe (by omega) (by omega) h⟩
theorem lo_lose (P : SX → Prop) (h : P (xlim, xpc, xnd, xwc, xit, xfc, -1, xan, xlp, xpo, xpb, xwd, xwk, xnk, xco, xcb, xml, xme, xro, xow, xol, xla, xsh, lo_p xla 1 xoe, xoh, xsr, xss, xse, xms, xfm, xfa, xfd, xcv, xcr)) : wpX_losePower P (xlim, xpc, xnd, xwc, xit, xfc, xwt, xan, xlp, xpo, xpb, xwd, xwk, xnk, xco, xcb, xml, xme, xro, xow, xol, xla, xsh, xoe, xoh, xsr, xss, xse, xms, xfm, xfa, xfd, xcv, xcr) := by
  have key : ∀ e o m oe, o + e = 9 → e < m → P (xlim, xpc, xnd, xwc, xit, xfc, -1, xan, xlp, xpo, xpb, xwd, xwk, xnk, xco, xcb, xml, xme, xro, xow, xol, xla, xsh, lo_p xla o oe, xoh, xsr, xss, xse, xms, xfm, xfa, xfd, xcv, xcr) → wX_losePower_7 P m (nI o) xlim xpc xnd xwc xit xfc (-1) xan xlp xpo xpb xwd xwk xnk xco xcb xml xme xro xow xol xla xsh oe xoh xsr xss xse xms xfm xfa xfd xcv xcr := by
    intro e
    induction e with
    | zero =>
      intro o m oe hc hm hp
      obtain ⟨m, rfl⟩ : ∃ q, m = q + 1 := ⟨m - 1, by omega⟩
      obtain rfl : o = 9 := by omega
      rw [lo_p_e] at hp
      exact br_t (by decide) hp
    | succ e ih =>
      intro o m oe hc hm hp
      obtain ⟨m, rfl⟩ : ∃ q, m = q + 1 := ⟨m - 1, by omega⟩
      refine br_f (nI_nlt (a := 8) (by omega) (by decide)) ⟨pk_in o 9 (by omega), ?_⟩
      rw [nI_clamp (by omega)]
      refine br_c (fun z => lo_clear _ (by omega) (nm_r (nI_1 o) (ih (o + 1) m _ (by omega) (by omega) ?_))) (fun z => nm_r (nI_1 o) (ih (o + 1) m _ (by omega) (by omega) ?_))
      · rw [lo_p_s (by omega) z]
        exact hp
      · rw [lo_p_n z]
        exact hp
  exact ⟨9, key 8 1 9 xoe (by omega) (by omega) h⟩
theorem lo_xundo (P : SX → Prop) (h : P (xlim, xpc, xnd, xwc, 0, xfc, xwt, xan, xlp, xpo, xpb, xwd, xwk, xnk, xco, xcb, xml, xme, lo_f xsr 0 6 xro, xow, xol, xla, lo_xs xms xss 1 xsh, lo_xe xms xla xse 1 xoe, xoh, xsr, xss, xse, xms, xfm, xfa, xfd, xcv, xcr)) : wpX_undo P (xlim, xpc, xnd, xwc, xit, xfc, xwt, xan, xlp, xpo, xpb, xwd, xwk, xnk, xco, xcb, xml, xme, xro, xow, xol, xla, xsh, xoe, xoh, xsr, xss, xse, xms, xfm, xfa, xfd, xcv, xcr) := by
  have k2 : ∀ e o m ro sh oe, o + e = 9 → e < m → P (xlim, xpc, xnd, xwc, 0, xfc, xwt, xan, xlp, xpo, xpb, xwd, xwk, xnk, xco, xcb, xml, xme, ro, xow, xol, xla, lo_xs xms xss o sh, lo_xe xms xla xse o oe, xoh, xsr, xss, xse, xms, xfm, xfa, xfd, xcv, xcr) → wX_undo_33 P m (nI o) xlim xpc xnd xwc 0 xfc xwt xan xlp xpo xpb xwd xwk xnk xco xcb xml xme ro xow xol xla sh oe xoh xsr xss xse xms xfm xfa xfd xcv xcr := by
    intro e
    induction e with
    | zero =>
      intro o m ro sh oe hc hm hp
      obtain ⟨m, rfl⟩ : ∃ q, m = q + 1 := ⟨m - 1, by omega⟩
      obtain rfl : o = 9 := by omega
      rw [lo_xs_e, lo_xe_e] at hp
      exact br_t (by decide) hp
    | succ e ih =>
      intro o m ro sh oe hc hm hp
      obtain ⟨m, rfl⟩ : ∃ q, m = q + 1 := ⟨m - 1, by omega⟩
      have e0 : (nI o).toNatClampNeg = o := nI_clamp (by omega)
      have j60 : ∀ sh', lo_xs xms xss (o + 1) sh' = lo_xs xms xss o sh → wX_undo_60 P (wX_undo_33 P m) (nI o) xlim xpc xnd xwc 0 xfc xwt xan xlp xpo xpb xwd xwk xnk xco xcb xml xme ro xow xol xla sh' oe xoh xsr xss xse xms xfm xfa xfd xcv xcr := fun sh' hs => by
        rw [← hs] at hp
        refine ⟨pk_in o 9 (by omega), ?_⟩
        rw [e0]
        refine br_c (fun z => ⟨pk_in o 9 (by omega), ?_⟩) (fun z => nm_r (nI_1 o) (ih (o + 1) m ro sh' oe (by omega) (by omega) ?_))
        · refine br_c (fun y => nm_r (nI_1 o) (ih (o + 1) m ro sh' oe (by omega) (by omega) ?_)) (fun y => lo_restore _ (by omega) (nm_r (nI_1 o) (ih (o + 1) m ro sh' _ (by omega) (by omega) ?_)))
          · rw [lo_xe_n (fun q => q.2 y)]
            exact hp
          · rw [lo_xe_s (by omega) z y]
            exact hp
        · rw [lo_xe_n (fun q => z q.1)]
          exact hp
      refine br_f (nI_nlt (a := 8) (by omega) (by decide)) ⟨pk_in o 9 (by omega), ?_⟩
      rw [e0]
      exact br_c (fun z => ⟨pk_in o 9 (by omega), pk_in o 9 (by omega), nm_e (j60 _ (lo_xs_s (by omega) z))⟩) (fun z => j60 _ (lo_xs_n z))
  have k1 : ∀ e c m ro, c + e = 6 → e < m → P (xlim, xpc, xnd, xwc, 0, xfc, xwt, xan, xlp, xpo, xpb, xwd, xwk, xnk, xco, xcb, xml, xme, lo_f xsr c 6 ro, xow, xol, xla, lo_xs xms xss 1 xsh, lo_xe xms xla xse 1 xoe, xoh, xsr, xss, xse, xms, xfm, xfa, xfd, xcv, xcr) → wX_undo_7 P xlim xpc xnd xwc 0 xfc xwt xan xlp m (nI c) xpo xpb xwd xwk xnk xco xcb xml xme ro xow xol xla xsh xoe xoh xsr xss xse xms xfm xfa xfd xcv xcr := by
    intro e
    induction e with
    | zero =>
      intro c m ro hc hm hp
      obtain ⟨m, rfl⟩ : ∃ q, m = q + 1 := ⟨m - 1, by omega⟩
      obtain rfl : c = 6 := by omega
      rw [lo_e] at hp
      exact br_t (by decide) ⟨9, k2 8 1 9 ro xsh xoe (by omega) (by omega) hp⟩
    | succ e ih =>
      intro c m ro hc hm hp
      obtain ⟨m, rfl⟩ : ∃ q, m = q + 1 := ⟨m - 1, by omega⟩
      rw [← lo_s (by omega)] at hp
      refine br_f (nI_ge (b := 6) (by omega) (by decide)) ⟨pk_in c 6 (by omega), pk_in c 6 (by omega), nm_r (by rw [nI_clamp (by omega)]) (nm_r (nI_1 c) (ih (c + 1) m _ (by omega) (by omega) hp))⟩
  exact ⟨7, k1 6 0 7 xro (by omega) (by omega) h⟩
theorem lo_xbegin (P : SX → Prop) (h : P (xlim, xpc, xnd, xwc, 1, xfc, xwt, xan, xlp, xpo, xpb, xwd, xwk, xnk, xco, xcb, xml, xme, xro, xow, xol, xla, xsh, xoe, xoh, lo_f xro 0 6 xsr, lo_f (fun i => vp_nar .boolean (xsh i)) 1 9 xss, lo_f xoe 0 36 xse, lo_f (fun _ => vp_nar .boolean 0) 1 9 xms, xfm, xfa, xfd, xcv, xcr)) : wpX_begin P (xlim, xpc, xnd, xwc, xit, xfc, xwt, xan, xlp, xpo, xpb, xwd, xwk, xnk, xco, xcb, xml, xme, xro, xow, xol, xla, xsh, xoe, xoh, xsr, xss, xse, xms, xfm, xfa, xfd, xcv, xcr) := by
  have k3 : ∀ e c m sr ss ms se, c + e = 36 → e < m → P (xlim, xpc, xnd, xwc, 1, xfc, xwt, xan, xlp, xpo, xpb, xwd, xwk, xnk, xco, xcb, xml, xme, xro, xow, xol, xla, xsh, xoe, xoh, sr, ss, lo_f xoe c 36 se, ms, xfm, xfa, xfd, xcv, xcr) → wX_begin_66 P xlim xpc xnd xwc 1 xfc xwt xan xlp m (nI c) xpo xpb xwd xwk xnk xco xcb xml xme xro xow xol xla xsh xoe xoh sr ss se ms xfm xfa xfd xcv xcr := by
    intro e
    induction e with
    | zero =>
      intro c m sr ss ms se hc hm hp
      obtain ⟨m, rfl⟩ : ∃ q, m = q + 1 := ⟨m - 1, by omega⟩
      obtain rfl : c = 36 := by omega
      rw [lo_e] at hp
      exact br_t (by decide) hp
    | succ e ih =>
      intro c m sr ss ms se hc hm hp
      obtain ⟨m, rfl⟩ : ∃ q, m = q + 1 := ⟨m - 1, by omega⟩
      rw [← lo_s (by omega)] at hp
      refine br_f (nI_ge (b := 36) (by omega) (by decide)) ⟨pk_in c 36 (by omega), pk_in c 36 (by omega), nm_r (by rw [nI_clamp (by omega)]) (nm_r (nI_1 c) (ih (c + 1) m _ _ _ _ (by omega) (by omega) hp))⟩
  have k2 : ∀ e c m sr ss ms, c + e = 9 → e < m → P (xlim, xpc, xnd, xwc, 1, xfc, xwt, xan, xlp, xpo, xpb, xwd, xwk, xnk, xco, xcb, xml, xme, xro, xow, xol, xla, xsh, xoe, xoh, sr, lo_f (fun i => vp_nar .boolean (xsh i)) c 9 ss, lo_f xoe 0 36 xse, lo_f (fun _ => vp_nar .boolean 0) c 9 ms, xfm, xfa, xfd, xcv, xcr) → wX_begin_33 P xlim xpc xnd xwc 1 xfc xwt xan xlp m (nI c) xpo xpb xwd xwk xnk xco xcb xml xme xro xow xol xla xsh xoe xoh sr ss xse ms xfm xfa xfd xcv xcr := by
    intro e
    induction e with
    | zero =>
      intro c m sr ss ms hc hm hp
      obtain ⟨m, rfl⟩ : ∃ q, m = q + 1 := ⟨m - 1, by omega⟩
      obtain rfl : c = 9 := by omega
      rw [lo_e, lo_e] at hp
      exact br_t (by decide) ⟨37, k3 36 0 37 sr ss ms xse (by omega) (by omega) hp⟩
    | succ e ih =>
      intro c m sr ss ms hc hm hp
      obtain ⟨m, rfl⟩ : ∃ q, m = q + 1 := ⟨m - 1, by omega⟩
      rw [← lo_s (val := fun i => vp_nar .boolean (xsh i)) (by omega), ← lo_s (val := fun _ => vp_nar .boolean 0) (by omega)] at hp
      refine br_f (nI_nlt (a := 8) (by omega) (by decide)) ⟨pk_in c 9 (by omega), pk_in c 9 (by omega), nm_r (by rw [nI_clamp (by omega)]) ⟨pk_in c 9 (by omega), nm_r (by rw [nI_clamp (by omega)]) (nm_r (nI_1 c) (ih (c + 1) m _ _ _ (by omega) (by omega) hp))⟩⟩
  have k1 : ∀ e c m sr, c + e = 6 → e < m → P (xlim, xpc, xnd, xwc, 1, xfc, xwt, xan, xlp, xpo, xpb, xwd, xwk, xnk, xco, xcb, xml, xme, xro, xow, xol, xla, xsh, xoe, xoh, lo_f xro c 6 sr, lo_f (fun i => vp_nar .boolean (xsh i)) 1 9 xss, lo_f xoe 0 36 xse, lo_f (fun _ => vp_nar .boolean 0) 1 9 xms, xfm, xfa, xfd, xcv, xcr) → wX_begin_7 P xlim xpc xnd xwc 1 xfc xwt xan xlp m (nI c) xpo xpb xwd xwk xnk xco xcb xml xme xro xow xol xla xsh xoe xoh sr xss xse xms xfm xfa xfd xcv xcr := by
    intro e
    induction e with
    | zero =>
      intro c m sr hc hm hp
      obtain ⟨m, rfl⟩ : ∃ q, m = q + 1 := ⟨m - 1, by omega⟩
      obtain rfl : c = 6 := by omega
      rw [lo_e] at hp
      exact br_t (by decide) ⟨9, k2 8 1 9 sr xss xms (by omega) (by omega) hp⟩
    | succ e ih =>
      intro c m sr hc hm hp
      obtain ⟨m, rfl⟩ : ∃ q, m = q + 1 := ⟨m - 1, by omega⟩
      rw [← lo_s (by omega)] at hp
      refine br_f (nI_ge (b := 6) (by omega) (by decide)) ⟨pk_in c 6 (by omega), pk_in c 6 (by omega), nm_r (by rw [nI_clamp (by omega)]) (nm_r (nI_1 c) (ih (c + 1) m _ (by omega) (by omega) hp))⟩
  exact ⟨7, k1 6 0 7 xsr (by omega) (by omega) h⟩
end LX
/-- the reference's reset, undo, begin -/
def lo_yr (la : Nat → Int32) (c : Nat) (a : Nat → Int32) : Nat → Int32 := fun i => if c ≤ i ∧ i < 32 ∧ la (i / 4) = 0 then vp_nar .short 0 else a i
theorem lo_yr_s {la a : Nat → Int32} {c : Nat} (hc : c < 32) (h : la (c / 4) = 0) : lo_yr la (c + 1) (upd a c (vp_nar .short 0)) = lo_yr la c a := by
  funext i
  unfold lo_yr
  by_cases e : i = c
  · subst e
    rw [if_neg (by omega), pk_us, if_pos ⟨by omega, hc, h⟩]
  · rw [pk_un e]
    by_cases h1 : c + 1 ≤ i ∧ i < 32 ∧ la (i / 4) = 0
    · rw [if_pos h1, if_pos ⟨by omega, h1.2⟩]
    · rw [if_neg h1, if_neg (fun z => h1 ⟨by omega, z.2⟩)]
theorem lo_yr_n {la a : Nat → Int32} {c : Nat} (h : ¬ la (c / 4) = 0) : lo_yr la (c + 1) a = lo_yr la c a := by
  funext i
  unfold lo_yr
  by_cases e : i = c
  · subst e
    rw [if_neg (by omega), if_neg (fun z => h z.2.2)]
  · by_cases h1 : c + 1 ≤ i ∧ i < 32 ∧ la (i / 4) = 0
    · rw [if_pos h1, if_pos ⟨by omega, h1.2⟩]
    · rw [if_neg h1, if_neg (fun z => h1 ⟨by omega, z.2⟩)]
theorem lo_yr_e {la a : Nat → Int32} : lo_yr la 32 a = a := by
  funext i
  exact if_neg (by omega)
def lo_ys (st os : Nat → Int64) (oh : Nat → Int32) (o : Nat) (a : Nat → Int32) : Nat → Int32 := fun i => if o ≤ i ∧ i < 8 ∧ st i = os i then vp_nar .boolean (oh i) else a i
theorem lo_ys_s {st os : Nat → Int64} {oh a : Nat → Int32} {o : Nat} (ho : o < 8) (h : st o = os o) : lo_ys st os oh (o + 1) (upd a o (vp_nar .boolean (oh o))) = lo_ys st os oh o a := by
  funext i
  unfold lo_ys
  by_cases e : i = o
  · subst e
    rw [if_neg (by omega), pk_us, if_pos ⟨by omega, ho, h⟩]
  · rw [pk_un e]
    by_cases h1 : o + 1 ≤ i ∧ i < 8 ∧ st i = os i
    · rw [if_pos h1, if_pos ⟨by omega, h1.2⟩]
    · rw [if_neg h1, if_neg (fun z => h1 ⟨by omega, z.2⟩)]
theorem lo_ys_n {st os : Nat → Int64} {oh a : Nat → Int32} {o : Nat} (h : ¬ st o = os o) : lo_ys st os oh (o + 1) a = lo_ys st os oh o a := by
  funext i
  unfold lo_ys
  by_cases e : i = o
  · subst e
    rw [if_neg (by omega), if_neg (fun z => h z.2.2)]
  · by_cases h1 : o + 1 ≤ i ∧ i < 8 ∧ st i = os i
    · rw [if_pos h1, if_pos ⟨by omega, h1.2⟩]
    · rw [if_neg h1, if_neg (fun z => h1 ⟨by omega, z.2⟩)]
theorem lo_ys_e {st os : Nat → Int64} {oh a : Nat → Int32} : lo_ys st os oh 8 a = a := by
  funext i
  exact if_neg (by omega)
def lo_ye (st os : Nat → Int64) (la oe : Nat → Int32) (o : Nat) (a : Nat → Int32) : Nat → Int32 := fun i => if 4 * o ≤ i ∧ i < 32 ∧ st (i / 4) = os (i / 4) ∧ ¬ la (i / 4) = 0 then vp_nar .short (oe i) else a i
theorem lo_ye_s {st os : Nat → Int64} {la oe a : Nat → Int32} {o : Nat} (ho : o < 8) (h : st o = os o) (hl : ¬ la o = 0) : lo_ye st os la oe (o + 1) (lo_f (fun i => vp_nar .short (oe i)) (4 * o) (4 * o + 4) a) = lo_ye st os la oe o a := by
  funext i
  unfold lo_ye
  by_cases h1 : 4 * (o + 1) ≤ i ∧ i < 32 ∧ st (i / 4) = os (i / 4) ∧ ¬ la (i / 4) = 0
  · rw [if_pos h1, if_pos ⟨by omega, h1.2⟩]
  · rw [if_neg h1]
    by_cases h2 : 4 * o ≤ i ∧ i < 4 * o + 4
    · have : i / 4 = o := by omega
      rw [lo_i h2.1 h2.2, this, if_pos ⟨h2.1, by omega, h, hl⟩]
    · rw [lo_o h2, if_neg (fun z => h1 ⟨by omega, z.2⟩)]
theorem lo_ye_n {st os : Nat → Int64} {la oe a : Nat → Int32} {o : Nat} (h : ¬ (st o = os o ∧ ¬ la o = 0)) : lo_ye st os la oe (o + 1) a = lo_ye st os la oe o a := by
  funext i
  unfold lo_ye
  by_cases h1 : 4 * (o + 1) ≤ i ∧ i < 32 ∧ st (i / 4) = os (i / 4) ∧ ¬ la (i / 4) = 0
  · rw [if_pos h1, if_pos ⟨by omega, h1.2⟩]
  · rw [if_neg h1, if_neg (fun z => ?_)]
    by_cases h2 : i < 4 * (o + 1)
    · have : i / 4 = o := by omega
      rw [this] at z
      exact h z.2.2
    · exact h1 ⟨by omega, z.2⟩
theorem lo_ye_e {st os : Nat → Int64} {la oe a : Nat → Int32} : lo_ye st os la oe 8 a = a := by
  funext i
  exact if_neg (by omega)
theorem lo_44 (o : Nat) : (4 : Int32) * nI o + 4 = nI (4 * o + 4) := by
  rw [lo_4]
  exact nI_add (4 * o) 4
section LY
variable {ylim ywa ysk ylo yrn ysp yaw yan ywh you ygd yop : Int32}
variable {ymd : Int64}
variable {yops ybs ysz yex yow yle yel yla ysh yro yoe yoh yor yrw ynx ydp ypl ykd ymt ytd yht : Nat → Int32}
variable {yst yos : Nat → Int64}
theorem lo_reset (P : SY → Prop) (h : P (ylim, ywa, ysk, ylo, yrn, ysp, -1, yan, ywh, you, ymd, ygd, yop, yops, ybs, ysz, yex, yst, yow, yle, lo_yr yla 0 yel, yla, ysh, yro, yos, yoe, yoh, yor, yrw, ynx, ydp, ypl, ykd, ymt, ytd, yht)) : wpY_reset P (ylim, ywa, ysk, ylo, yrn, ysp, yaw, yan, ywh, you, ymd, ygd, yop, yops, ybs, ysz, yex, yst, yow, yle, yel, yla, ysh, yro, yos, yoe, yoh, yor, yrw, ynx, ydp, ypl, ykd, ymt, ytd, yht) := by
  have key : ∀ e c m el, c + e = 32 → e < m → P (ylim, ywa, ysk, ylo, yrn, ysp, -1, yan, ywh, you, ymd, ygd, yop, yops, ybs, ysz, yex, yst, yow, yle, lo_yr yla c el, yla, ysh, yro, yos, yoe, yoh, yor, yrw, ynx, ydp, ypl, ykd, ymt, ytd, yht) → wY_reset_7 P ylim ywa ysk ylo yrn ysp (-1) yan ywh you ymd ygd yop m (nI c) yops ybs ysz yex yst yow yle el yla ysh yro yos yoe yoh yor yrw ynx ydp ypl ykd ymt ytd yht := by
    intro e
    induction e with
    | zero =>
      intro c m el hc hm hp
      obtain ⟨m, rfl⟩ : ∃ q, m = q + 1 := ⟨m - 1, by omega⟩
      obtain rfl : c = 32 := by omega
      rw [lo_yr_e] at hp
      exact br_t (by decide) hp
    | succ e ih =>
      intro c m el hc hm hp
      obtain ⟨m, rfl⟩ : ∃ q, m = q + 1 := ⟨m - 1, by omega⟩
      have e4 : nI c / 4 = nI (c / 4) := pk_div (d := 4) (by omega) (by decide) (by decide)
      have e5 : (nI c / 4).toNatClampNeg = c / 4 := by rw [e4]; exact nI_clamp (by omega)
      refine br_f (nI_ge (b := 32) (by omega) (by decide)) ⟨by decide, pk_in (c / 4) 8 (by omega) e4, ?_⟩
      rw [e5]
      refine br_c (fun z => ⟨pk_in c 32 (by omega), nm_r (by rw [nI_clamp (by omega)]) (nm_r (nI_1 c) (ih (c + 1) m _ (by omega) (by omega) ?_))⟩) (fun z => nm_r (nI_1 c) (ih (c + 1) m _ (by omega) (by omega) ?_))
      · rw [lo_yr_s (by omega) z]
        exact hp
      · rw [lo_yr_n z]
        exact hp
  exact ⟨33, key 32 0 33 yel (by omega) (by omega) h⟩
theorem lo_yundo (P : SY → Prop) (ho : ¬ yop = 0) (h : P (ylim, ywa, ysk, ylo, yrn, ysp, yaw, yan, ywh, you, ymd, ygd, 0, yops, ybs, ysz, yex, yst, yow, yle, lo_ye yst yos yla yoe 0 yel, yla, lo_ys yst yos yoh 0 ysh, lo_f yor 0 6 yro, yos, yoe, yoh, yor, yrw, ynx, ydp, ypl, ykd, ymt, ytd, yht)) : wpY_undo P (ylim, ywa, ysk, ylo, yrn, ysp, yaw, yan, ywh, you, ymd, ygd, yop, yops, ybs, ysz, yex, yst, yow, yle, yel, yla, ysh, yro, yos, yoe, yoh, yor, yrw, ynx, ydp, ypl, ykd, ymt, ytd, yht) := by
  have k2 : ∀ e o m ro sh el, o + e = 8 → e < m → P (ylim, ywa, ysk, ylo, yrn, ysp, yaw, yan, ywh, you, ymd, ygd, 0, yops, ybs, ysz, yex, yst, yow, yle, lo_ye yst yos yla yoe o el, yla, lo_ys yst yos yoh o sh, ro, yos, yoe, yoh, yor, yrw, ynx, ydp, ypl, ykd, ymt, ytd, yht) → wY_undo_41 P ylim ywa ysk ylo yrn ysp yaw yan ywh you ymd ygd 0 m (nI o) yops ybs ysz yex yst yow yle el yla sh ro yos yoe yoh yor yrw ynx ydp ypl ykd ymt ytd yht := by
    intro e
    induction e with
    | zero =>
      intro o m ro sh el hc hm hp
      obtain ⟨m, rfl⟩ : ∃ q, m = q + 1 := ⟨m - 1, by omega⟩
      obtain rfl : o = 8 := by omega
      rw [lo_ys_e, lo_ye_e] at hp
      exact br_t (by decide) hp
    | succ e ih =>
      intro o m ro sh el hc hm hp
      obtain ⟨m, rfl⟩ : ∃ q, m = q + 1 := ⟨m - 1, by omega⟩
      have e0 : (nI o).toNatClampNeg = o := nI_clamp (by omega)
      refine br_f (nI_ge (b := 8) (by omega) (by decide)) ⟨pk_in o 8 (by omega), pk_in o 8 (by omega), ?_⟩
      rw [e0]
      refine br_c (fun z => ⟨pk_in o 8 (by omega), pk_in o 8 (by omega), nm_e (nm_r (lo_4 o) ⟨5, ?_⟩)⟩) (fun z => nm_r (nI_1 o) (ih (o + 1) m ro sh el (by omega) (by omega) ?_))
      · have key : ∀ e' c m' el', c + e' = 4 * o + 4 → e' < m' → (¬ yla o = 0 → P (ylim, ywa, ysk, ylo, yrn, ysp, yaw, yan, ywh, you, ymd, ygd, 0, yops, ybs, ysz, yex, yst, yow, yle, lo_ye yst yos yla yoe (o + 1) (lo_f (fun i => vp_nar .short (yoe i)) c (4 * o + 4) el'), yla, lo_ys yst yos yoh o sh, ro, yos, yoe, yoh, yor, yrw, ynx, ydp, ypl, ykd, ymt, ytd, yht)) → (yla o = 0 → P (ylim, ywa, ysk, ylo, yrn, ysp, yaw, yan, ywh, you, ymd, ygd, 0, yops, ybs, ysz, yex, yst, yow, yle, lo_ye yst yos yla yoe (o + 1) el', yla, lo_ys yst yos yoh o sh, ro, yos, yoe, yoh, yor, yrw, ynx, ydp, ypl, ykd, ymt, ytd, yht)) → wY_undo_79 P (wY_undo_41 P ylim ywa ysk ylo yrn ysp yaw yan ywh you ymd ygd 0 m) (nI o) ylim ywa ysk ylo yrn ysp yaw yan ywh you ymd ygd 0 m' (nI c) yops ybs ysz yex yst yow yle el' yla (upd sh o (vp_nar .boolean (yoh o))) ro yos yoe yoh yor yrw ynx ydp ypl ykd ymt ytd yht := by
          intro e'
          induction e' with
          | zero =>
            intro c m' el' hc' hm' hp1 hp2
            obtain ⟨m', rfl⟩ : ∃ q, m' = q + 1 := ⟨m' - 1, by omega⟩
            obtain rfl : c = 4 * o + 4 := by omega
            rw [lo_e] at hp1
            refine br_t (by rw [lo_44]; exact nI_le (Nat.le_refl _) (by omega)) (nm_r (nI_1 o) (ih (o + 1) m ro _ el' (by omega) (by omega) ?_))
            rw [lo_ys_s (by omega) z]
            by_cases y : yla o = 0
            · exact hp2 y
            · exact hp1 y
          | succ e' ih' =>
            intro c m' el' hc' hm' hp1 hp2
            obtain ⟨m', rfl⟩ : ∃ q, m' = q + 1 := ⟨m' - 1, by omega⟩
            rw [← lo_s (val := fun i => vp_nar .short (yoe i)) (by omega)] at hp1
            refine br_f (by rw [lo_44]; exact nI_ge (by omega) (by omega)) ⟨pk_in o 8 (by omega), ?_⟩
            rw [e0]
            refine br_c (fun y => nm_r (nI_1 c) (ih' (c + 1) m' el' (by omega) (by omega) (fun w => absurd y w) hp2)) (fun y => ⟨pk_in c 32 (by omega), pk_in c 32 (by omega), nm_r (by rw [nI_clamp (by omega)]) (nm_r (nI_1 c) (ih' (c + 1) m' _ (by omega) (by omega) hp1 (fun w => absurd w y)))⟩)
        refine key 4 (4 * o) 5 el (by omega) (by omega) (fun y => ?_) (fun y => ?_)
        · rw [lo_ye_s (by omega) z y]
          exact hp
        · rw [lo_ye_n (fun q => q.2 y)]
          exact hp
      · rw [lo_ys_n z, lo_ye_n (fun q => z q.1)]
        exact hp
  have k1 : ∀ e c m ro, c + e = 6 → e < m → P (ylim, ywa, ysk, ylo, yrn, ysp, yaw, yan, ywh, you, ymd, ygd, 0, yops, ybs, ysz, yex, yst, yow, yle, lo_ye yst yos yla yoe 0 yel, yla, lo_ys yst yos yoh 0 ysh, lo_f yor c 6 ro, yos, yoe, yoh, yor, yrw, ynx, ydp, ypl, ykd, ymt, ytd, yht) → wY_undo_15 P ylim ywa ysk ylo yrn ysp yaw yan ywh you ymd ygd 0 m (nI c) yops ybs ysz yex yst yow yle yel yla ysh ro yos yoe yoh yor yrw ynx ydp ypl ykd ymt ytd yht := by
    intro e
    induction e with
    | zero =>
      intro c m ro hc hm hp
      obtain ⟨m, rfl⟩ : ∃ q, m = q + 1 := ⟨m - 1, by omega⟩
      obtain rfl : c = 6 := by omega
      rw [lo_e] at hp
      exact br_t (by decide) ⟨9, k2 8 0 9 ro ysh yel (by omega) (by omega) hp⟩
    | succ e ih =>
      intro c m ro hc hm hp
      obtain ⟨m, rfl⟩ : ∃ q, m = q + 1 := ⟨m - 1, by omega⟩
      rw [← lo_s (by omega)] at hp
      refine br_f (nI_ge (b := 6) (by omega) (by decide)) ⟨pk_in c 6 (by omega), pk_in c 6 (by omega), nm_r (by rw [nI_clamp (by omega)]) (nm_r (nI_1 c) (ih (c + 1) m _ (by omega) (by omega) hp))⟩
  exact br_f ho ⟨7, k1 6 0 7 yro (by omega) (by omega) h⟩
theorem lo_ybegin (P : SY → Prop) (h : P (ylim, ywa, ysk, ylo, yrn, ysp, yaw, yan, ywh, you, ymd, ygd, 1, yops, ybs, ysz, yex, yst, yow, yle, yel, yla, ysh, yro, lo_L yst 0 8 yos, lo_f (fun i => vp_nar .short (yel i)) 0 32 yoe, lo_f (fun i => vp_nar .boolean (ysh i)) 0 8 yoh, lo_f yro 0 6 yor, yrw, ynx, ydp, ypl, ykd, ymt, ytd, yht)) : wpY_begin P (ylim, ywa, ysk, ylo, yrn, ysp, yaw, yan, ywh, you, ymd, ygd, yop, yops, ybs, ysz, yex, yst, yow, yle, yel, yla, ysh, yro, yos, yoe, yoh, yor, yrw, ynx, ydp, ypl, ykd, ymt, ytd, yht) := by
  have k3 : ∀ e c m os oh oe or_, c + e = 6 → e < m → P (ylim, ywa, ysk, ylo, yrn, ysp, yaw, yan, ywh, you, ymd, ygd, 1, yops, ybs, ysz, yex, yst, yow, yle, yel, yla, ysh, yro, os, oe, oh, lo_f yro c 6 or_, yrw, ynx, ydp, ypl, ykd, ymt, ytd, yht) → wY_begin_71 P ylim ywa ysk ylo yrn ysp yaw yan ywh you ymd ygd 1 m (nI c) yops ybs ysz yex yst yow yle yel yla ysh yro os oe oh or_ yrw ynx ydp ypl ykd ymt ytd yht := by
    intro e
    induction e with
    | zero =>
      intro c m os oh oe or_ hc hm hp
      obtain ⟨m, rfl⟩ : ∃ q, m = q + 1 := ⟨m - 1, by omega⟩
      obtain rfl : c = 6 := by omega
      rw [lo_e] at hp
      exact br_t (by decide) hp
    | succ e ih =>
      intro c m os oh oe or_ hc hm hp
      obtain ⟨m, rfl⟩ : ∃ q, m = q + 1 := ⟨m - 1, by omega⟩
      rw [← lo_s (by omega)] at hp
      refine br_f (nI_ge (b := 6) (by omega) (by decide)) ⟨pk_in c 6 (by omega), pk_in c 6 (by omega), nm_r (by rw [nI_clamp (by omega)]) (nm_r (nI_1 c) (ih (c + 1) m _ _ _ _ (by omega) (by omega) hp))⟩
  have k2 : ∀ e c m os oh oe, c + e = 32 → e < m → P (ylim, ywa, ysk, ylo, yrn, ysp, yaw, yan, ywh, you, ymd, ygd, 1, yops, ybs, ysz, yex, yst, yow, yle, yel, yla, ysh, yro, os, lo_f (fun i => vp_nar .short (yel i)) c 32 oe, oh, lo_f yro 0 6 yor, yrw, ynx, ydp, ypl, ykd, ymt, ytd, yht) → wY_begin_45 P ylim ywa ysk ylo yrn ysp yaw yan ywh you ymd ygd 1 m (nI c) yops ybs ysz yex yst yow yle yel yla ysh yro os oe oh yor yrw ynx ydp ypl ykd ymt ytd yht := by
    intro e
    induction e with
    | zero =>
      intro c m os oh oe hc hm hp
      obtain ⟨m, rfl⟩ : ∃ q, m = q + 1 := ⟨m - 1, by omega⟩
      obtain rfl : c = 32 := by omega
      rw [lo_e] at hp
      exact br_t (by decide) ⟨7, k3 6 0 7 os oh oe yor (by omega) (by omega) hp⟩
    | succ e ih =>
      intro c m os oh oe hc hm hp
      obtain ⟨m, rfl⟩ : ∃ q, m = q + 1 := ⟨m - 1, by omega⟩
      rw [← lo_s (val := fun i => vp_nar .short (yel i)) (by omega)] at hp
      refine br_f (nI_ge (b := 32) (by omega) (by decide)) ⟨pk_in c 32 (by omega), pk_in c 32 (by omega), nm_r (by rw [nI_clamp (by omega)]) (nm_r (nI_1 c) (ih (c + 1) m _ _ _ (by omega) (by omega) hp))⟩
  have k1 : ∀ e c m os oh, c + e = 8 → e < m → P (ylim, ywa, ysk, ylo, yrn, ysp, yaw, yan, ywh, you, ymd, ygd, 1, yops, ybs, ysz, yex, yst, yow, yle, yel, yla, ysh, yro, lo_L yst c 8 os, lo_f (fun i => vp_nar .short (yel i)) 0 32 yoe, lo_f (fun i => vp_nar .boolean (ysh i)) c 8 oh, lo_f yro 0 6 yor, yrw, ynx, ydp, ypl, ykd, ymt, ytd, yht) → wY_begin_7 P ylim ywa ysk ylo yrn ysp yaw yan ywh you ymd ygd 1 m (nI c) yops ybs ysz yex yst yow yle yel yla ysh yro os yoe oh yor yrw ynx ydp ypl ykd ymt ytd yht := by
    intro e
    induction e with
    | zero =>
      intro c m os oh hc hm hp
      obtain ⟨m, rfl⟩ : ∃ q, m = q + 1 := ⟨m - 1, by omega⟩
      obtain rfl : c = 8 := by omega
      rw [lo_Le, lo_e] at hp
      exact br_t (by decide) ⟨33, k2 32 0 33 os oh yoe (by omega) (by omega) hp⟩
    | succ e ih =>
      intro c m os oh hc hm hp
      obtain ⟨m, rfl⟩ : ∃ q, m = q + 1 := ⟨m - 1, by omega⟩
      rw [← lo_Ls (by omega), ← lo_s (val := fun i => vp_nar .boolean (ysh i)) (by omega)] at hp
      refine br_f (nI_ge (b := 8) (by omega) (by decide)) ⟨pk_in c 8 (by omega), pk_in c 8 (by omega), nm_r (by rw [nI_clamp (by omega)]) ⟨pk_in c 8 (by omega), pk_in c 8 (by omega), nm_r (by rw [nI_clamp (by omega)]) (nm_r (nI_1 c) (ih (c + 1) m _ _ (by omega) (by omega) hp))⟩⟩
  exact ⟨9, k1 8 0 9 yos yoh (by omega) (by omega) h⟩
end LY
end
section
/-! WHAT THE LOOPS KEEP OF THE RELATION -/
section PR
variable {xlim xpc xnd xwc xit xfc xwt xan xlp : Int32}
variable {xpo xpb xwd xwk xnk xco xcb xml xme xro xow xol xla xsh xoe xoh xsr xss xse xms xfm xfa xfd xcv xcr : Nat → Int32}
variable {ylim ywa ysk ylo yrn ysp yaw yan ywh you ygd yop : Int32}
variable {ymd : Int64}
variable {yops ybs ysz yex yow yle yel yla ysh yro yoe yoh yor yrw ynx ydp ypl ykd ymt ytd yht : Nat → Int32}
variable {yst yos : Nat → Int64}
theorem pr_undo {B : Nat} (hO : rl_O xro xow xol xla xsh xoe yro yow yle yla ysh yel) (hT : rl_T B xit xsr xss xse xms yop yor yoh yoe yst yos ymd) (h1 : yop = 1) :
    rl_O (lo_f xsr 0 6 xro) xow xol xla (lo_xs xms xss 1 xsh) (lo_xe xms xla xse 1 xoe) (lo_f yor 0 6 yro) yow yle yla (lo_ys yst yos yoh 0 ysh) (lo_ye yst yos yla yoe 0 yel) ∧ rl_T B 0 xsr xss xse xms 0 yor yoh yoe yst yos ymd := by
  obtain ⟨o1, o2, o3⟩ := hO
  obtain ⟨t1, t2, ⟨mm, m1, m2, m3, m4⟩, t4⟩ := hT
  obtain ⟨s1, s2, s3⟩ := t4 h1
  refine ⟨⟨fun r hr => ?_, fun o ho => ?_, fun i hi => ?_⟩, rfl, Or.inl rfl, ⟨mm, m1, m2, m3, fun z => absurd z (by decide)⟩, fun z => absurd z (by decide)⟩
  · rw [lo_i (by omega) hr, lo_i (by omega) hr]
    exact s1 r hr
  · obtain ⟨a1, a2, a3, a4, a5, a6, a7, a8⟩ := o2 o ho
    obtain ⟨b1, b2, b3⟩ := s2 o ho
    unfold lo_xs lo_ys
    by_cases z : xms (o + 1) = 0
    · rw [if_pos ⟨by omega, by omega, z⟩, if_pos ⟨by omega, ho, b3.mp z⟩, b1, rl_b_n b2]
      exact ⟨a1, a2, a3, rfl, a5, b2, a7, a8⟩
    · rw [if_neg (fun q => z q.2.2), if_neg (fun q => z (b3.mpr q.2.2))]
      exact ⟨a1, a2, a3, a4, a5, a6, a7, a8⟩
  · have e : (4 + i) / 4 = i / 4 + 1 := by omega
    obtain ⟨a1, a2, a3, a4, a5, a6, a7, a8⟩ := o2 (i / 4) (by omega)
    obtain ⟨b1, b2, b3⟩ := s2 (i / 4) (by omega)
    obtain ⟨c1, c2⟩ := s3 i hi
    unfold lo_xe lo_ye
    rw [e, a3]
    by_cases z : xms (i / 4 + 1) = 0 ∧ ¬ yla (i / 4) = 0
    · rw [if_pos ⟨by omega, by omega, z⟩, if_pos ⟨by omega, hi, b3.mp z.1, z.2⟩, c1, rl_sv_n c2]
      exact ⟨rfl, c2⟩
    · rw [if_neg (fun q => z q.2.2), if_neg (fun q => z ⟨b3.mpr q.2.2.1, q.2.2.2⟩)]
      exact o3 i hi
theorem pr_s0 : vp_nar .short 0 = 0 := by
  rw [vp_nar_short]
  decide
theorem pr_sv0 : rl_sv 0 := by
  unfold rl_sv
  decide
theorem pr_reset (hO : rl_O xro xow xol xla xsh xoe yro yow yle yla ysh yel) : rl_O xro xow xol xla xsh (lo_p xla 1 xoe) yro yow yle yla ysh (lo_yr yla 0 yel) := by
  obtain ⟨o1, o2, o3⟩ := hO
  refine ⟨o1, o2, fun i hi => ?_⟩
  have e : (4 + i) / 4 = i / 4 + 1 := by omega
  have a3 := (o2 (i / 4) (by omega)).2.2.1
  unfold lo_p lo_yr
  rw [e, a3]
  by_cases z : yla (i / 4) = 0
  · rw [if_pos ⟨by omega, by omega, z⟩, if_pos ⟨by omega, hi, z⟩, pr_s0]
    exact ⟨rfl, pr_sv0⟩
  · rw [if_neg (fun q => z q.2.2), if_neg (fun q => z q.2.2)]
    exact o3 i hi
theorem pr_begin {B : Nat} (hO : rl_O xro xow xol xla xsh xoe yro yow yle yla ysh yel) (hT : rl_T B xit xsr xss xse xms yop yor yoh yoe yst yos ymd) :
    rl_T B 1 (lo_f xro 0 6 xsr) (lo_f (fun i => vp_nar .boolean (xsh i)) 1 9 xss) (lo_f xoe 0 36 xse) (lo_f (fun _ => vp_nar .boolean 0) 1 9 xms) 1 (lo_f yro 0 6 yor) (lo_f (fun i => vp_nar .boolean (ysh i)) 0 8 yoh) (lo_f (fun i => vp_nar .short (yel i)) 0 32 yoe) yst (lo_L yst 0 8 yos) ymd := by
  obtain ⟨o1, o2, o3⟩ := hO
  obtain ⟨t1, t2, ⟨mm, m1, m2, m3, m4⟩, t4⟩ := hT
  refine ⟨rfl, Or.inr rfl, ⟨mm, m1, m2, m3, fun _ o ho => ?_⟩, fun _ => ⟨fun r hr => ?_, fun o ho => ?_, fun i hi => ?_⟩⟩
  · rw [lo_Li (by omega) ho]
    exact m3 o ho
  · rw [lo_i (by omega) hr, lo_i (by omega) hr]
    exact o1 r hr
  · obtain ⟨a1, a2, a3, a4, a5, a6, a7, a8⟩ := o2 o ho
    rw [lo_i (by omega) (by omega), lo_i (by omega) (by omega), lo_i (by omega) (by omega), lo_Li (by omega) ho, a4, rl_b_n a6]
    exact ⟨rfl, a6, fun _ => rfl, fun _ => by decide⟩
  · rw [lo_i (by omega) (by omega), lo_i (by omega) (by omega)]
    obtain ⟨c1, c2⟩ := o3 i hi
    rw [c1, rl_sv_n c2]
    exact ⟨rfl, c2⟩
/-! THE FRAMES' SMALL METHODS -/
theorem pr_6 (t d : Nat) : (6 : Int32) * nI t + 2 + nI d = nI (6 * t + (d + 2)) := by
  rw [show (6 : Int32) * nI t = nI (6 * t) from pk_mul 6 t, show nI (6 * t) + 2 = nI (6 * t + 2) from nI_add _ 2, nI_add]
  exact congrArg nI (by omega)
theorem pr_8 (t d : Nat) : (8 : Int32) * nI t + 2 + nI d = nI (8 * t + (d + 2)) := by
  rw [show (8 : Int32) * nI t = nI (8 * t) from pk_mul 8 t, show nI (8 * t) + 2 = nI (8 * t + 2) from nI_add _ 2, nI_add]
  exact congrArg nI (by omega)
theorem pr_81 (t d : Nat) : (8 : Int32) * nI t + 1 + nI d = nI (8 * t + (d + 1)) := by
  rw [show (8 : Int32) * nI t = nI (8 * t) from pk_mul 8 t, show nI (8 * t) + 1 = nI (8 * t + 1) from nI_add _ 1, nI_add]
  exact congrArg nI (by omega)
theorem pr_6b (t b : Nat) : (6 : Int32) * nI t + nI b = nI (6 * t + b) := by
  rw [show (6 : Int32) * nI t = nI (6 * t) from pk_mul 6 t, nI_add]
theorem pr_8b (t b : Nat) : (8 : Int32) * nI t + nI b = nI (8 * t + b) := by
  rw [show (8 : Int32) * nI t = nI (8 * t) from pk_mul 8 t, nI_add]
theorem pr_16 (m k : Nat) : (16 : Int32) * nI m + nI k = nI (16 * m + k) := by
  rw [show (16 : Int32) * nI m = nI (16 * m) from pk_mul 16 m, nI_add]
theorem pr_2b (a b : Nat) : (2 : Int32) * nI a + nI b = nI (2 * a + b) := by
  rw [show (2 : Int32) * nI a = nI (2 * a) from pk_mul 2 a, nI_add]
theorem pr_4b (a b : Nat) : (4 : Int32) * nI a + nI b = nI (4 * a + b) := by
  rw [show (4 : Int32) * nI a = nI (4 * a) from pk_mul 4 a, nI_add]
theorem pr_h (m : Nat) (hm : m < 6) : nI m / 2 = nI (m / 2) := pk_div (d := 2) (by omega) (by decide) (by decide)
theorem pr_xentry (P : Int32 → Prop) {t d j : Nat} (ht : t < 4) (hd : xfd t = nI d) (hd4 : d ≤ 4) (hj : 1 ≤ j) (hjd : j ≤ d) (h : P (xcv (6 * t + (d + 2 - j)))) : wpX_entry P (xlim, xpc, xnd, xwc, xit, nI (t + 1), xwt, xan, xlp, xpo, xpb, xwd, xwk, xnk, xco, xcb, xml, xme, xro, xow, xol, xla, xsh, xoe, xoh, xsr, xss, xse, xms, xfm, xfa, xfd, xcv, xcr) (nI j) := by
  have e0 : (nI t).toNatClampNeg = t := nI_clamp (by omega)
  have e1 : (6 : Int32) * nI t + 2 + xfd (nI t).toNatClampNeg - nI j = nI (6 * t + (d + 2 - j)) := by
    rw [e0, hd, pr_6, pk_sub (by omega)]
    exact congrArg nI (by omega)
  refine nm_r (nI_pred t) ⟨pk_in t 4 ht, ?_⟩
  rw [e1, nI_clamp (by omega)]
  exact ⟨vp_in_nI (by omega) (by omega), h⟩
theorem pr_own (P : Int32 → Prop) {t m : Nat} (ht : t < 4) (hm : xfm t = nI m) (hm6 : m < 6) (h : P (nI (m / 2))) : wpX_ownApplet P (xlim, xpc, xnd, xwc, xit, nI (t + 1), xwt, xan, xlp, xpo, xpb, xwd, xwk, xnk, xco, xcb, xml, xme, xro, xow, xol, xla, xsh, xoe, xoh, xsr, xss, xse, xms, xfm, xfa, xfd, xcv, xcr) := by
  have e : xfm (nI (t + 1) - 1).toNatClampNeg / 2 = nI (m / 2) := by
    rw [nI_pred, nI_clamp (by omega), hm]
    exact pr_h m hm6
  refine ⟨?_, by decide, ?_⟩
  · rw [nI_pred]
    exact pk_in t 4 ht
  · rw [e]
    exact h
theorem pr_xpush (P : SX → Prop) {t d : Nat} {v r : Int32} (ht : t < 4) (hd : xfd t = nI d) (hd4 : d < 4) (hr : rl_b r) (h : P (xlim, xpc, xnd, xwc, xit, nI (t + 1), xwt, xan, xlp, xpo, xpb, xwd, xwk, xnk, xco, xcb, xml, xme, xro, xow, xol, xla, xsh, xoe, xoh, xsr, xss, xse, xms, xfm, xfa, upd xfd t (nI (d + 1)), upd xcv (6 * t + (d + 2)) v, upd xcr (6 * t + (d + 2)) r)) : wpX_push P (xlim, xpc, xnd, xwc, xit, nI (t + 1), xwt, xan, xlp, xpo, xpb, xwd, xwk, xnk, xco, xcb, xml, xme, xro, xow, xol, xla, xsh, xoe, xoh, xsr, xss, xse, xms, xfm, xfa, xfd, xcv, xcr) v r := by
  have e0 : (nI t).toNatClampNeg = t := nI_clamp (by omega)
  have e1 : (6 : Int32) * nI t + 2 + xfd (nI t).toNatClampNeg = nI (6 * t + (d + 2)) := by rw [e0, hd, pr_6]
  have e2 : (nI (6 * t + (d + 2))).toNatClampNeg = 6 * t + (d + 2) := nI_clamp (by omega)
  refine nm_r (nI_pred t) ⟨pk_in t 4 ht, nm_r e1 ⟨vp_in_nI (by omega) (by omega), nm_r (by rw [e2]) ⟨vp_in_nI (by omega) (by omega), nm_r (by rw [e2, rl_b_n hr]) ⟨pk_in t 4 ht, pk_in t 4 ht, nm_r (by rw [e0, hd, nI_1]) h⟩⟩⟩⟩
theorem pr_xpop (P : Int32 → SX → Prop) {t d : Nat} (ht : t < 4) (hd : xfd t = nI (d + 1)) (hd4 : d < 4) (h : P (xcv (6 * t + (d + 2))) (xlim, xpc, xnd, xwc, xit, nI (t + 1), xwt, xan, xlp, xpo, xpb, xwd, xwk, xnk, xco, xcb, xml, xme, xro, xow, xol, xla, xsh, xoe, xoh, xsr, xss, xse, xms, xfm, xfa, upd xfd t (nI d), xcv, xcr)) : wpX_pop P (xlim, xpc, xnd, xwc, xit, nI (t + 1), xwt, xan, xlp, xpo, xpb, xwd, xwk, xnk, xco, xcb, xml, xme, xro, xow, xol, xla, xsh, xoe, xoh, xsr, xss, xse, xms, xfm, xfa, xfd, xcv, xcr) := by
  have e0 : (nI t).toNatClampNeg = t := nI_clamp (by omega)
  refine nm_r (nI_pred t) ⟨pk_in t 4 ht, pk_in t 4 ht, nm_r (e' := upd xfd t (nI d)) (by rw [e0, hd, nI_pred]) ⟨pk_in t 4 ht, ?_⟩⟩
  rw [e0, pk_us, pr_6, nI_clamp (by omega)]
  exact ⟨vp_in_nI (by omega) (by omega), h⟩
theorem pr_yentry (P : Int32 → Prop) {t d j : Nat} (ht : t < 4) (hd : ydp t = nI d) (hd4 : d ≤ 4) (hjd : j < d) (h : P (ypl (8 * t + (d + 1 - j)))) : wpY_entry P (ylim, ywa, ysk, ylo, nI (t + 1), ysp, yaw, yan, ywh, you, ymd, ygd, yop, yops, ybs, ysz, yex, yst, yow, yle, yel, yla, ysh, yro, yos, yoe, yoh, yor, yrw, ynx, ydp, ypl, ykd, ymt, ytd, yht) (nI j) := by
  have e0 : (nI (t + 1) - 1) = nI t := nI_pred t
  have e1 : (8 : Int32) * (nI (t + 1) - 1) + 1 + ydp (nI (t + 1) - 1).toNatClampNeg - nI j = nI (8 * t + (d + 1 - j)) := by
    rw [e0, nI_clamp (by omega), hd, pr_81, pk_sub (by omega)]
    exact congrArg nI (by omega)
  refine ⟨by rw [e0]; exact pk_in t 4 ht, ?_⟩
  rw [e1, nI_clamp (by omega)]
  exact ⟨vp_in_nI (by omega) (by omega), h⟩
theorem pr_app (P : Int32 → Prop) {t m : Nat} (ht : t < 4) (hm : yrw t = nI m) (hm6 : m < 6) (h : P (nI (m / 2))) : wpY_applet P (ylim, ywa, ysk, ylo, nI (t + 1), ysp, yaw, yan, ywh, you, ymd, ygd, yop, yops, ybs, ysz, yex, yst, yow, yle, yel, yla, ysh, yro, yos, yoe, yoh, yor, yrw, ynx, ydp, ypl, ykd, ymt, ytd, yht) := by
  have e : yrw (nI (t + 1) - 1).toNatClampNeg / 2 = nI (m / 2) := by
    rw [nI_pred, nI_clamp (by omega), hm]
    exact pr_h m hm6
  refine ⟨?_, by decide, ?_⟩
  · rw [nI_pred]
    exact pk_in t 4 ht
  · rw [e]
    exact h
theorem pr_b012 : ∀ c, c < 3 → vp_nar .byte (nI c).toInt8.toInt32 = nI c := by
  intro c hc
  obtain rfl | rfl | rfl : c = 0 ∨ c = 1 ∨ c = 2 := by omega
  all_goals (rw [vp_nar_byte]; decide)
theorem pr_b012' : ∀ c, c < 3 → vp_nar .byte (nI c) = nI c := by
  intro c hc
  obtain rfl | rfl | rfl : c = 0 ∨ c = 1 ∨ c = 2 := by omega
  all_goals (rw [vp_nar_byte]; decide)
theorem pr_ypush (P : SY → Prop) {t d c : Nat} {v : Int32} (ht : t < 4) (hd : ydp t = nI d) (hd4 : d < 4) (hc : c < 3) (h : P (ylim, ywa, ysk, ylo, nI (t + 1), ysp, yaw, yan, ywh, you, ymd, ygd, yop, yops, ybs, ysz, yex, yst, yow, yle, yel, yla, ysh, yro, yos, yoe, yoh, yor, yrw, ynx, upd ydp t (nI (d + 1)), upd ypl (8 * t + (d + 2)) v, upd ykd (8 * t + (d + 2)) (nI c), ymt, ytd, yht)) : wpY_push P (ylim, ywa, ysk, ylo, nI (t + 1), ysp, yaw, yan, ywh, you, ymd, ygd, yop, yops, ybs, ysz, yex, yst, yow, yle, yel, yla, ysh, yro, yos, yoe, yoh, yor, yrw, ynx, ydp, ypl, ykd, ymt, ytd, yht) (nI c) v := by
  have e0 : (nI t).toNatClampNeg = t := nI_clamp (by omega)
  have e1 : (8 : Int32) * nI t + 2 + ydp (nI t).toNatClampNeg = nI (8 * t + (d + 2)) := by rw [e0, hd, pr_8]
  have e2 : (nI (8 * t + (d + 2))).toNatClampNeg = 8 * t + (d + 2) := nI_clamp (by omega)
  refine nm_r (nI_pred t) ⟨pk_in t 4 ht, pk_in t 4 ht, nm_r (by rw [e0, hd, nI_1]) (nm_r e1 ⟨vp_in_nI (by omega) (by omega), nm_r (by rw [e2, pr_b012 c hc]) ⟨vp_in_nI (by omega) (by omega), nm_r (by rw [e2]) h⟩⟩)⟩
theorem pr_drop (P : SY → Prop) {t d j : Nat} (ht : t < 4) (hd : ydp t = nI d) (hd4 : d ≤ 4) (hjd : j ≤ d) (h : P (ylim, ywa, ysk, ylo, nI (t + 1), ysp, yaw, yan, ywh, you, ymd, ygd, yop, yops, ybs, ysz, yex, yst, yow, yle, yel, yla, ysh, yro, yos, yoe, yoh, yor, yrw, ynx, upd ydp t (nI (d - j)), ypl, ykd, ymt, ytd, yht)) : wpY_drop P (ylim, ywa, ysk, ylo, nI (t + 1), ysp, yaw, yan, ywh, you, ymd, ygd, yop, yops, ybs, ysz, yex, yst, yow, yle, yel, yla, ysh, yro, yos, yoe, yoh, yor, yrw, ynx, ydp, ypl, ykd, ymt, ytd, yht) (nI j) := by
  have e0 : (nI (t + 1) - 1).toNatClampNeg = t := by rw [nI_pred]; exact nI_clamp (by omega)
  have i0 : vp_in (nI (t + 1) - 1) 4 := by rw [nI_pred]; exact pk_in t 4 ht
  exact ⟨i0, i0, nm_r (by rw [e0, hd, pk_sub hjd]) h⟩
theorem pr_on (P : SY → Prop) {t k : Nat} (ht : t < 4) (hk : ynx t = nI k) (h : P (ylim, ywa, ysk, ylo, nI (t + 1), ysp, yaw, yan, ywh, you, ymd, ygd, yop, yops, ybs, ysz, yex, yst, yow, yle, yel, yla, ysh, yro, yos, yoe, yoh, yor, yrw, upd ynx t (nI (k + 1)), ydp, ypl, ykd, ymt, ytd, yht)) : wpY_on P (ylim, ywa, ysk, ylo, nI (t + 1), ysp, yaw, yan, ywh, you, ymd, ygd, yop, yops, ybs, ysz, yex, yst, yow, yle, yel, yla, ysh, yro, yos, yoe, yoh, yor, yrw, ynx, ydp, ypl, ykd, ymt, ytd, yht) := by
  have e0 : (nI (t + 1) - 1).toNatClampNeg = t := by rw [nI_pred]; exact nI_clamp (by omega)
  have i0 : vp_in (nI (t + 1) - 1) 4 := by rw [nI_pred]; exact pk_in t 4 ht
  exact ⟨i0, i0, nm_r (by rw [e0, hk, nI_1]) h⟩
theorem pr_enter (P : SX → Prop) {t m : Nat} {v : Int32} (ht : t < 4) (h : P (xlim, xpc, xnd, xwc, xit, nI (t + 1), xwt, xan, xlp, xpo, xpb, xwd, xwk, xnk, xco, xcb, xml, xme, xro, xow, xol, xla, xsh, xoe, xoh, xsr, xss, xse, xms, upd xfm t (nI m), upd xfa t 0, upd xfd t 0, upd xcv (6 * t) v, upd (upd xcr (6 * t) 0) (6 * t + 1) 0)) : wpX_enter P (xlim, xpc, xnd, xwc, xit, nI t, xwt, xan, xlp, xpo, xpb, xwd, xwk, xnk, xco, xcb, xml, xme, xro, xow, xol, xla, xsh, xoe, xoh, xsr, xss, xse, xms, xfm, xfa, xfd, xcv, xcr) (nI m) v := by
  have e0 : (nI t).toNatClampNeg = t := nI_clamp (by omega)
  have e6 : (6 : Int32) * nI t = nI (6 * t) := pk_mul 6 t
  have e2 : (nI (6 * t)).toNatClampNeg = 6 * t := nI_clamp (by omega)
  have e3 : (nI (6 * t) + 1).toNatClampNeg = 6 * t + 1 := by rw [nI_1]; exact nI_clamp (by omega)
  have b0 : vp_nar .boolean 0 = 0 := by decide
  exact nm_r e6 ⟨pk_in t 4 ht, nm_r (by rw [e0]) ⟨pk_in t 4 ht, nm_r (by rw [e0]) ⟨pk_in t 4 ht, nm_r (by rw [e0]) ⟨vp_in_nI (by omega) (by omega), nm_r (by rw [e2]) ⟨vp_in_nI (by omega) (by omega), nm_r (by rw [e2, b0]) ⟨pk_in (6 * t + 1) 24 (by omega) (nI_1 _), nm_r (by rw [e3, b0]) (nm_r (nI_1 t) h)⟩⟩⟩⟩⟩⟩
theorem pr_start (P : SY → Prop) {t m : Nat} {v : Int32} (ht : t < 4) (hv : v.toInt16.toInt32 = v) (h : P (ylim, ywa, ysk, ylo, nI (t + 1), ysp, yaw, yan, ywh, you, ymd, ygd, yop, yops, ybs, ysz, yex, yst, yow, yle, yel, yla, ysh, yro, yos, yoe, yoh, yor, upd yrw t (nI m), upd ynx t 0, upd ydp t 0, upd ypl (8 * t) v, upd (upd ykd (8 * t) 1) (8 * t + 1) 0, ymt, ytd, yht)) : wpY_start P (ylim, ywa, ysk, ylo, nI t, ysp, yaw, yan, ywh, you, ymd, ygd, yop, yops, ybs, ysz, yex, yst, yow, yle, yel, yla, ysh, yro, yos, yoe, yoh, yor, yrw, ynx, ydp, ypl, ykd, ymt, ytd, yht) (nI m) v := by
  have e0 : (nI t).toNatClampNeg = t := nI_clamp (by omega)
  have e6 : (8 : Int32) * nI t = nI (8 * t) := pk_mul 8 t
  have e2 : (nI (8 * t)).toNatClampNeg = 8 * t := nI_clamp (by omega)
  have e3 : (nI (8 * t) + 1).toNatClampNeg = 8 * t + 1 := by rw [nI_1]; exact nI_clamp (by omega)
  have b0 : vp_nar .byte 0 = 0 := pr_b012' 0 (by decide)
  have b1 : vp_nar .byte 1 = 1 := pr_b012' 1 (by decide)
  exact ⟨pk_in t 4 ht, nm_r (by rw [e0]) ⟨pk_in t 4 ht, nm_r (by rw [e0]) ⟨pk_in t 4 ht, nm_r (by rw [e0]) (nm_r e6 ⟨vp_in_nI (by omega) (by omega), nm_r (by rw [e2, b1]) ⟨vp_in_nI (by omega) (by omega), nm_r (by rw [e2, hv]) ⟨pk_in (8 * t + 1) 32 (by omega) (nI_1 _), nm_r (by rw [e3, b0]) (nm_r (nI_1 t) h)⟩⟩⟩)⟩⟩⟩
end PR
end
section
/-! HELD OBJECTS -/
def he_M (oh : Nat → Int32) (Q : Nat → Prop) : Prop := ∀ o, o ≤ 8 → (oh o = 0 ∨ oh o = 1) ∧ (oh o = 1 ↔ Q o)
theorem he_M_u {oh : Nat → Int32} {Q : Nat → Prop} {x : Nat} (h : he_M oh Q) : he_M (upd oh x 1) (fun o => Q o ∨ o = x) := by
  intro o ho
  by_cases e : o = x
  · rw [e, pk_us]
    exact ⟨Or.inr rfl, fun _ => Or.inr rfl, fun _ => rfl⟩
  · rw [pk_un e]
    exact ⟨(h o ho).1, fun z => Or.inl ((h o ho).2.mp z), fun z => (h o ho).2.mpr (z.resolve_right e)⟩
theorem he_M_c {oh : Nat → Int32} {Q Q' : Nat → Prop} (h : he_M oh Q) (e : ∀ o, o ≤ 8 → (Q o ↔ Q' o)) : he_M oh Q' := fun o ho => ⟨(h o ho).1, (h o ho).2.trans (e o ho)⟩
theorem he_eq {x : Int32} {p o : Nat} (h : x = nI p) (hp : p ≤ 8) (ho : o ≤ 8) : x = nI o ↔ o = p := by
  rw [h, nI_eq (by omega) (by omega)]
  omega
theorem he_b1 : vp_nar .boolean 1 = 1 := by decide
theorem he_b0 : vp_nar .boolean 0 = 0 := by decide
section HX
variable {xlim xpc xnd xwc xit xfc xwt xan xlp : Int32}
variable {xpo xpb xwd xwk xnk xco xcb xml xme xro xow xol xla xsh xoe xoh xsr xss xse xms xfm xfa xfd xcv xcr : Nat → Int32}
/-- held by a cell of frame g -/
def he_xf (fd cr cv : Nat → Int32) (g o : Nat) : Prop := ∃ d j, d ≤ 4 ∧ fd g = nI d ∧ j < d + 2 ∧ ¬ cr (6 * g + j) = 0 ∧ cv (6 * g + j) = nI o
def he_xr (it : Int32) (ro sr : Nat → Int32) (r o : Nat) : Prop := ro r = nI o ∨ (¬ it = 0 ∧ sr r = nI o)
/-- the cells are as they must be -/
def he_ok (fd cr cv : Nat → Int32) (g : Nat) : Prop := ∃ d, d ≤ 4 ∧ fd g = nI d ∧ ∀ j, j < d + 2 → cr (6 * g + j) = 0 ∨ (¬ cr (6 * g + j) = 0 ∧ ∃ o, o ≤ 8 ∧ cv (6 * g + j) = nI o)
theorem he_from {g : Nat} {oh : Nat → Int32} {Q : Nat → Prop} (hg : g < 4) (hk : he_ok xfd xcr xcv g) (hM : he_M oh Q) : ∃ oh', he_M oh' (fun o => Q o ∨ he_xf xfd xcr xcv g o) ∧ ∀ P : SX → Prop, P (xlim, xpc, xnd, xwc, xit, xfc, xwt, xan, xlp, xpo, xpb, xwd, xwk, xnk, xco, xcb, xml, xme, xro, xow, xol, xla, xsh, xoe, oh', xsr, xss, xse, xms, xfm, xfa, xfd, xcv, xcr) → wpX_holdFrom P (xlim, xpc, xnd, xwc, xit, xfc, xwt, xan, xlp, xpo, xpb, xwd, xwk, xnk, xco, xcb, xml, xme, xro, xow, xol, xla, xsh, xoe, oh, xsr, xss, xse, xms, xfm, xfa, xfd, xcv, xcr) (nI g) := by
  obtain ⟨d, hd4, hd, hc⟩ := hk
  have e0 : (nI g).toNatClampNeg = g := nI_clamp (by omega)
  have key : ∀ e c oh (Q : Nat → Prop), c + e = d + 2 → he_M oh Q → ∃ oh', he_M oh' (fun o => Q o ∨ ∃ j, c ≤ j ∧ j < d + 2 ∧ ¬ xcr (6 * g + j) = 0 ∧ xcv (6 * g + j) = nI o) ∧ ∀ (P : SX → Prop) m, e < m → P (xlim, xpc, xnd, xwc, xit, xfc, xwt, xan, xlp, xpo, xpb, xwd, xwk, xnk, xco, xcb, xml, xme, xro, xow, xol, xla, xsh, xoe, oh', xsr, xss, xse, xms, xfm, xfa, xfd, xcv, xcr) → wX_holdFrom_2 P (nI g) xlim xpc xnd xwc xit xfc xwt xan xlp m (nI c) xpo xpb xwd xwk xnk xco xcb xml xme xro xow xol xla xsh xoe oh xsr xss xse xms xfm xfa xfd xcv xcr := by
    intro e
    induction e with
    | zero =>
      intro c oh Q hce hM
      refine ⟨oh, he_M_c hM (fun o _ => ⟨Or.inl, fun z => z.elim id (fun ⟨j, h1, h2, _⟩ => absurd h2 (by omega))⟩), fun P m hm hp => ?_⟩
      obtain ⟨m, rfl⟩ : ∃ q, m = q + 1 := ⟨m - 1, by omega⟩
      refine ⟨pk_in g 4 hg, ?_⟩
      rw [e0, hd, xk_2]
      exact br_t (nI_le (by omega) (by omega)) hp
    | succ e ih =>
      intro c oh Q hce hM
      have e6 := pr_6b g c
      have ec : ((6 : Int32) * nI g + nI c).toNatClampNeg = 6 * g + c := pk_cl _ e6
      rcases hc c (by omega) with z | ⟨z, x, hx, ex⟩
      · obtain ⟨oh', h1, h2⟩ := ih (c + 1) oh Q (by omega) hM
        refine ⟨oh', he_M_c h1 (fun o _ => ⟨fun w => ?_, fun w => ?_⟩), fun P m hm hp => ?_⟩
        · rcases w with w | ⟨j, a, b⟩
          · exact Or.inl w
          · exact Or.inr ⟨j, by omega, b⟩
        · rcases w with w | ⟨j, a, b, cc, dd⟩
          · exact Or.inl w
          · by_cases q : j = c
            · rw [q] at cc
              exact absurd z cc
            · exact Or.inr ⟨j, by omega, b, cc, dd⟩
        · obtain ⟨m, rfl⟩ : ∃ q, m = q + 1 := ⟨m - 1, by omega⟩
          refine ⟨pk_in g 4 hg, ?_⟩
          rw [e0, hd, xk_2]
          refine br_f (nI_ge (by omega) (by omega)) ⟨pk_in (6 * g + c) 24 (by omega) e6, ?_⟩
          rw [ec]
          exact br_t z (nm_r (nI_1 c) (h2 P m (by omega) hp))
      · obtain ⟨oh', h1, h2⟩ := ih (c + 1) (upd oh x 1) _ (by omega) (he_M_u (x := x) hM)
        refine ⟨oh', he_M_c h1 (fun o ho => ⟨fun w => ?_, fun w => ?_⟩), fun P m hm hp => ?_⟩
        · rcases w with (w | w) | ⟨j, a, b⟩
          · exact Or.inl w
          · exact Or.inr ⟨c, by omega, by omega, z, by rw [w]; exact ex⟩
          · exact Or.inr ⟨j, by omega, b⟩
        · rcases w with w | ⟨j, a, b, cc, dd⟩
          · exact Or.inl (Or.inl w)
          · by_cases q : j = c
            · rw [q, he_eq ex hx ho] at dd
              exact Or.inl (Or.inr dd)
            · exact Or.inr ⟨j, by omega, b, cc, dd⟩
        · obtain ⟨m, rfl⟩ : ∃ q, m = q + 1 := ⟨m - 1, by omega⟩
          have exc : (xcv (6 * g + c)).toNatClampNeg = x := by rw [ex]; exact nI_clamp (by omega)
          refine ⟨pk_in g 4 hg, ?_⟩
          rw [e0, hd, xk_2]
          refine br_f (nI_ge (by omega) (by omega)) ⟨pk_in (6 * g + c) 24 (by omega) e6, ?_⟩
          rw [ec]
          exact br_f z ⟨pk_in (6 * g + c) 24 (by omega) e6, pk_in x 9 (by omega) ex, nm_r (by rw [exc, he_b1]) (nm_r (nI_1 c) (h2 P m (by omega) hp))⟩
  obtain ⟨oh', h1, h2⟩ := key (d + 2) 0 oh Q (by omega) hM
  refine ⟨oh', he_M_c h1 (fun o _ => ⟨fun w => ?_, fun w => ?_⟩), fun P hp => ⟨d + 3, h2 P _ (by omega) hp⟩⟩
  · rcases w with w | ⟨j, _, b⟩
    · exact Or.inl w
    · exact Or.inr ⟨d, j, hd4, hd, b⟩
  · rcases w with w | ⟨d', j, a1, a2, b⟩
    · exact Or.inl w
    · rw [hd] at a2
      have : d = d' := (nI_eq (by omega) (by omega)).mp a2
      rw [← this] at b
      exact Or.inr ⟨j, by omega, b⟩
/-- the whole count: what is marked, and how many -/
theorem he_count {T : Nat} (hT : T ≤ 4) (hfc : xfc = nI T) (hro : ∀ r, r < 6 → ∃ o, o ≤ 8 ∧ xro r = nI o) (hsr : ¬ xit = 0 → ∀ r, r < 6 → ∃ o, o ≤ 8 ∧ xsr r = nI o) (hfr : ∀ g, g < T → he_ok xfd xcr xcv g) :
    ∃ oh, he_M oh (fun o => (∃ r, r < 6 ∧ he_xr xit xro xsr r o) ∨ ∃ g, g < T ∧ he_xf xfd xcr xcv g o) ∧ ∀ P : Int32 → SX → Prop, P (nI (ck_sm (fun o => (oh (o + 1)).toNatClampNeg) 8)) (xlim, xpc, xnd, xwc, xit, xfc, xwt, xan, xlp, xpo, xpb, xwd, xwk, xnk, xco, xcb, xml, xme, xro, xow, xol, xla, xsh, xoe, oh, xsr, xss, xse, xms, xfm, xfa, xfd, xcv, xcr) → wpX_countHeld P (xlim, xpc, xnd, xwc, xit, xfc, xwt, xan, xlp, xpo, xpb, xwd, xwk, xnk, xco, xcb, xml, xme, xro, xow, xol, xla, xsh, xoe, xoh, xsr, xss, xse, xms, xfm, xfa, xfd, xcv, xcr) := by
  have k91 : ∀ (P : Int32 → SX → Prop) oh, (∀ o, o ≤ 8 → oh o = 0 ∨ oh o = 1) → P (nI (ck_sm (fun o => (oh (o + 1)).toNatClampNeg) 8)) (xlim, xpc, xnd, xwc, xit, xfc, xwt, xan, xlp, xpo, xpb, xwd, xwk, xnk, xco, xcb, xml, xme, xro, xow, xol, xla, xsh, xoe, oh, xsr, xss, xse, xms, xfm, xfa, xfd, xcv, xcr) → ∀ e c m, c + e = 8 → e < m → wX_countHeld_91 P xlim xpc xnd xwc xit xfc xwt xan xlp xpo xpb xwd xwk xnk xco xcb xml xme xro xow xol xla xsh xoe oh xsr xss xse xms xfm xfa xfd xcv xcr m (nI (ck_sm (fun o => (oh (o + 1)).toNatClampNeg) c)) (nI (c + 1)) := by
    intro P oh h01 hp e
    induction e with
    | zero =>
      intro c m hc hm
      obtain ⟨m, rfl⟩ : ∃ q, m = q + 1 := ⟨m - 1, by omega⟩
      obtain rfl : c = 8 := by omega
      exact br_t (by decide) hp
    | succ e ih =>
      intro c m hc hm
      obtain ⟨m, rfl⟩ : ∃ q, m = q + 1 := ⟨m - 1, by omega⟩
      have i := ih (c + 1) m (by omega) (by omega)
      have es : ck_sm (fun o => (oh (o + 1)).toNatClampNeg) (c + 1) = ck_sm (fun o => (oh (o + 1)).toNatClampNeg) c + (oh (c + 1)).toNatClampNeg := rfl
      rw [es] at i
      refine br_f (nI_nlt (a := 8) (by omega) (by decide)) ⟨pk_in (c + 1) 9 (by omega), ?_⟩
      rw [nI_clamp (by omega)]
      rcases h01 (c + 1) (by omega) with z | z
      · rw [z, show (0 : Int32).toNatClampNeg = 0 by decide] at i
        exact br_t z (nm_r (nI_add _ 0) (nm_r (nI_1 (c + 1)) i))
      · rw [z, show (1 : Int32).toNatClampNeg = 1 by decide] at i
        exact br_f (by rw [z]; decide) (nm_r (nI_add _ 1) (nm_r (nI_1 (c + 1)) i))
  have k68 : ∀ e g oh (Q : Nat → Prop), g + e = T → he_M oh Q → ∃ oh', he_M oh' (fun o => Q o ∨ ∃ g', g ≤ g' ∧ g' < T ∧ he_xf xfd xcr xcv g' o) ∧ ∀ (P : Int32 → SX → Prop) m, e < m → P (nI (ck_sm (fun o => (oh' (o + 1)).toNatClampNeg) 8)) (xlim, xpc, xnd, xwc, xit, xfc, xwt, xan, xlp, xpo, xpb, xwd, xwk, xnk, xco, xcb, xml, xme, xro, xow, xol, xla, xsh, xoe, oh', xsr, xss, xse, xms, xfm, xfa, xfd, xcv, xcr) → wX_countHeld_68 P m (nI g) xlim xpc xnd xwc xit xfc xwt xan xlp xpo xpb xwd xwk xnk xco xcb xml xme xro xow xol xla xsh xoe oh xsr xss xse xms xfm xfa xfd xcv xcr := by
    intro e
    induction e with
    | zero =>
      intro g oh Q hg hM
      refine ⟨oh, he_M_c hM (fun o _ => ⟨Or.inl, fun z => z.elim id (fun ⟨j, h1, h2, _⟩ => absurd h2 (by omega))⟩), fun P m hm hp => ?_⟩
      obtain ⟨m, rfl⟩ : ∃ q, m = q + 1 := ⟨m - 1, by omega⟩
      exact br_t (by rw [hfc]; exact nI_le (by omega) (by omega)) ⟨9, k91 P oh (fun o ho => (hM o ho).1) hp 8 0 9 (by omega) (by omega)⟩
    | succ e ih =>
      intro g oh Q hg hM
      obtain ⟨oh1, a1, a2⟩ := he_from (xlim := xlim) (xpc := xpc) (xnd := xnd) (xwc := xwc) (xit := xit) (xfc := xfc) (xwt := xwt) (xan := xan) (xlp := xlp) (xpo := xpo) (xpb := xpb) (xwd := xwd) (xwk := xwk) (xnk := xnk) (xco := xco) (xcb := xcb) (xml := xml) (xme := xme) (xro := xro) (xow := xow) (xol := xol) (xla := xla) (xsh := xsh) (xoe := xoe) (xsr := xsr) (xss := xss) (xse := xse) (xms := xms) (xfm := xfm) (xfa := xfa) (g := g) (by omega) (hfr g (by omega)) hM
      obtain ⟨oh', h1, h2⟩ := ih (g + 1) oh1 _ (by omega) a1
      refine ⟨oh', he_M_c h1 (fun o _ => ⟨fun w => ?_, fun w => ?_⟩), fun P m hm hp => ?_⟩
      · rcases w with (w | w) | ⟨j, a, b⟩
        · exact Or.inl w
        · exact Or.inr ⟨g, by omega, by omega, w⟩
        · exact Or.inr ⟨j, by omega, b⟩
      · rcases w with w | ⟨j, a, b, cc⟩
        · exact Or.inl (Or.inl w)
        · by_cases q : j = g
          · rw [q] at cc
            exact Or.inl (Or.inr cc)
          · exact Or.inr ⟨j, by omega, b, cc⟩
      · obtain ⟨m, rfl⟩ : ∃ q, m = q + 1 := ⟨m - 1, by omega⟩
        exact br_f (by rw [hfc]; exact nI_ge (by omega) (by omega)) (a2 _ (nm_r (nI_1 g) (h2 P m (by omega) hp)))
  have k23 : ∀ e c oh (Q : Nat → Prop), c + e = 6 → he_M oh Q → ∃ oh', he_M oh' (fun o => Q o ∨ ∃ r, c ≤ r ∧ r < 6 ∧ he_xr xit xro xsr r o) ∧ ∀ (P : Int32 → SX → Prop) m, e < m → (∃ n, wX_countHeld_68 P n 0 xlim xpc xnd xwc xit xfc xwt xan xlp xpo xpb xwd xwk xnk xco xcb xml xme xro xow xol xla xsh xoe oh' xsr xss xse xms xfm xfa xfd xcv xcr) → wX_countHeld_23 P xlim xpc xnd xwc xit xfc xwt xan xlp m (nI c) xpo xpb xwd xwk xnk xco xcb xml xme xro xow xol xla xsh xoe oh xsr xss xse xms xfm xfa xfd xcv xcr := by
    intro e
    induction e with
    | zero =>
      intro c oh Q hc hM
      refine ⟨oh, he_M_c hM (fun o _ => ⟨Or.inl, fun z => z.elim id (fun ⟨j, h1, h2, _⟩ => absurd h2 (by omega))⟩), fun P m hm hp => ?_⟩
      obtain ⟨m, rfl⟩ : ∃ q, m = q + 1 := ⟨m - 1, by omega⟩
      obtain rfl : c = 6 := by omega
      exact br_t (by decide) hp
    | succ e ih =>
      intro c oh Q hc hM
      have e0 : (nI c).toNatClampNeg = c := nI_clamp (by omega)
      obtain ⟨x, hx, ex⟩ := hro c (by omega)
      have exc : (xro c).toNatClampNeg = x := by rw [ex]; exact nI_clamp (by omega)
      by_cases z : xit = 0
      · obtain ⟨oh', h1, h2⟩ := ih (c + 1) (upd oh x 1) _ (by omega) (he_M_u (x := x) hM)
        refine ⟨oh', he_M_c h1 (fun o ho => ⟨fun w => ?_, fun w => ?_⟩), fun P m hm hp => ?_⟩
        · rcases w with (w | w) | ⟨j, a, b⟩
          · exact Or.inl w
          · exact Or.inr ⟨c, by omega, by omega, Or.inl (by rw [w]; exact ex)⟩
          · exact Or.inr ⟨j, by omega, b⟩
        · rcases w with w | ⟨j, a, b, cc | cc⟩
          · exact Or.inl (Or.inl w)
          · by_cases q : j = c
            · rw [q, he_eq ex hx ho] at cc
              exact Or.inl (Or.inr cc)
            · exact Or.inr ⟨j, by omega, b, Or.inl cc⟩
          · exact absurd z cc.1
        · obtain ⟨m, rfl⟩ : ∃ q, m = q + 1 := ⟨m - 1, by omega⟩
          refine br_f (nI_ge (b := 6) (by omega) (by decide)) ⟨pk_in c 6 (by omega), ?_⟩
          rw [e0]
          exact ⟨pk_in x 9 (by omega) ex, nm_r (by rw [exc, he_b1]) (br_t z (nm_r (nI_1 c) (h2 P m (by omega) hp)))⟩
      · obtain ⟨y, hy, ey⟩ := hsr z c (by omega)
        have eyc : (xsr c).toNatClampNeg = y := by rw [ey]; exact nI_clamp (by omega)
        obtain ⟨oh', h1, h2⟩ := ih (c + 1) (upd (upd oh x 1) y 1) _ (by omega) (he_M_u (x := y) (he_M_u (x := x) hM))
        refine ⟨oh', he_M_c h1 (fun o ho => ⟨fun w => ?_, fun w => ?_⟩), fun P m hm hp => ?_⟩
        · rcases w with ((w | w) | w) | ⟨j, a, b⟩
          · exact Or.inl w
          · exact Or.inr ⟨c, by omega, by omega, Or.inl (by rw [w]; exact ex)⟩
          · exact Or.inr ⟨c, by omega, by omega, Or.inr ⟨z, by rw [w]; exact ey⟩⟩
          · exact Or.inr ⟨j, by omega, b⟩
        · rcases w with w | ⟨j, a, b, cc⟩
          · exact Or.inl (Or.inl (Or.inl w))
          · by_cases q : j = c
            · rw [q] at cc
              rcases cc with cc | cc
              · rw [he_eq ex hx ho] at cc
                exact Or.inl (Or.inl (Or.inr cc))
              · have := (he_eq ey hy ho).mp cc.2
                exact Or.inl (Or.inr this)
            · exact Or.inr ⟨j, by omega, b, cc⟩
        · obtain ⟨m, rfl⟩ : ∃ q, m = q + 1 := ⟨m - 1, by omega⟩
          refine br_f (nI_ge (b := 6) (by omega) (by decide)) ⟨pk_in c 6 (by omega), ?_⟩
          rw [e0]
          exact ⟨pk_in x 9 (by omega) ex, nm_r (by rw [exc, he_b1]) (br_f z ⟨pk_in c 6 (by omega), pk_in y 9 (by omega) ey, nm_r (by rw [eyc, he_b1]) (nm_r (nI_1 c) (h2 P m (by omega) hp))⟩)⟩
  have hM0 : he_M (lo_f (fun _ => 0) 0 9 xoh) (fun _ => False) := fun o ho => by
    rw [lo_i (by omega) (by omega)]
    exact ⟨Or.inl rfl, fun z => absurd z (by decide), fun z => z.elim⟩
  obtain ⟨oh1, a1, a2⟩ := k23 6 0 _ _ (by omega) hM0
  obtain ⟨oh2, b1, b2⟩ := k68 T 0 oh1 _ (by omega) a1
  refine ⟨oh2, he_M_c b1 (fun o _ => ⟨fun w => ?_, fun w => ?_⟩), fun P hp => ?_⟩
  · rcases w with (w | ⟨r, _, hr⟩) | ⟨g, _, hg⟩
    · exact w.elim
    · exact Or.inl ⟨r, hr⟩
    · exact Or.inr ⟨g, hg⟩
  · rcases w with ⟨r, hr⟩ | ⟨g, hg⟩
    · exact Or.inl (Or.inr ⟨r, by omega, hr⟩)
    · exact Or.inr ⟨g, by omega, hg⟩
  · have k2 : ∀ e c m oh, c + e = 9 → e < m → (∃ n, wX_countHeld_23 P xlim xpc xnd xwc xit xfc xwt xan xlp n 0 xpo xpb xwd xwk xnk xco xcb xml xme xro xow xol xla xsh xoe (lo_f (fun _ => 0) c 9 oh) xsr xss xse xms xfm xfa xfd xcv xcr) → wX_countHeld_2 P xlim xpc xnd xwc xit xfc xwt xan xlp m (nI c) xpo xpb xwd xwk xnk xco xcb xml xme xro xow xol xla xsh xoe oh xsr xss xse xms xfm xfa xfd xcv xcr := by
      intro e
      induction e with
      | zero =>
        intro c m oh hc hm hq
        obtain ⟨m, rfl⟩ : ∃ q, m = q + 1 := ⟨m - 1, by omega⟩
        obtain rfl : c = 9 := by omega
        rw [lo_e] at hq
        exact br_t (by decide) hq
      | succ e ih =>
        intro c m oh hc hm hq
        obtain ⟨m, rfl⟩ : ∃ q, m = q + 1 := ⟨m - 1, by omega⟩
        rw [← lo_s (by omega)] at hq
        exact br_f (nI_nlt (a := 8) (by omega) (by decide)) ⟨pk_in c 9 (by omega), nm_r (by rw [nI_clamp (by omega), he_b0]) (nm_r (nI_1 c) (ih (c + 1) m _ (by omega) (by omega) hq))⟩
    exact ⟨10, k2 9 0 10 xoh (by omega) (by omega) ⟨7, a2 P 7 (by omega) ⟨T + 1, b2 P (T + 1) (by omega) hp⟩⟩⟩
/-- the first that isn't marked -/
theorem he_first (P : Int32 → Prop) {q : Nat} (hq : q < 8) (hb : ∀ o, o < q → ¬ xoh (o + 1) = 0) (h0 : q = 7 ∨ xoh (q + 1) = 0) (h : P (nI (q + 1))) : wpX_firstFreeObject P (xlim, xpc, xnd, xwc, xit, xfc, xwt, xan, xlp, xpo, xpb, xwd, xwk, xnk, xco, xcb, xml, xme, xro, xow, xol, xla, xsh, xoe, xoh, xsr, xss, xse, xms, xfm, xfa, xfd, xcv, xcr) := by
  have key : ∀ e c m, c + e = q → e < m → wX_firstFreeObject_2 P xlim xpc xnd xwc xit xfc xwt xan xlp xpo xpb xwd xwk xnk xco xcb xml xme xro xow xol xla xsh xoe xoh xsr xss xse xms xfm xfa xfd xcv xcr m (nI (c + 1)) := by
    intro e
    induction e with
    | zero =>
      intro c m hc hm
      obtain ⟨m, rfl⟩ : ∃ q, m = q + 1 := ⟨m - 1, by omega⟩
      obtain rfl : c = q := by omega
      by_cases e7 : c = 7
      · subst e7
        exact br_t (by decide) h
      · refine br_f (nI_ge (b := 8) (by omega) (by decide)) ⟨pk_in (c + 1) 9 (by omega), ?_⟩
        rw [nI_clamp (by omega)]
        exact br_t (h0.resolve_left e7) h
    | succ e ih =>
      intro c m hc hm
      obtain ⟨m, rfl⟩ : ∃ q, m = q + 1 := ⟨m - 1, by omega⟩
      refine br_f (nI_ge (b := 8) (by omega) (by decide)) ⟨pk_in (c + 1) 9 (by omega), ?_⟩
      rw [nI_clamp (by omega)]
      exact br_f (hb c (by omega)) (nm_r (nI_1 (c + 1)) (ih (c + 1) m (by omega) (by omega)))
  exact ⟨q + 1, key q 0 (q + 1) (by omega) (by omega)⟩
end HX
section HY
variable {ylim ywa ysk ylo yrn ysp yaw yan ywh you ygd yop : Int32}
variable {ymd : Int64}
variable {yops ybs ysz yex yow yle yel yla ysh yro yoe yoh yor yrw ynx ydp ypl ykd ymt ytd yht : Nat → Int32}
variable {yst yos : Nat → Int64}
def he_yf (dp kd pl : Nat → Int32) (g o : Nat) : Prop := ∃ d j, d ≤ 4 ∧ dp g = nI d ∧ j < d + 2 ∧ kd (8 * g + j) = 2 ∧ pl (8 * g + j) = nI o
def he_yr (op : Int32) (ro or_ : Nat → Int32) (r o : Nat) : Prop := ro r = nI o ∨ (¬ op = 0 ∧ or_ r = nI o)
def he_Y (op : Int32) (ro or_ dp kd pl : Nat → Int32) (T o : Nat) : Prop := (∃ r, r < 6 ∧ he_yr op ro or_ r o) ∨ ∃ g, g < T ∧ he_yf dp kd pl g o
theorem he_isHeld (P : Int32 → Prop) {T o : Nat} (hT : T ≤ 4) (hrn : yrn = nI T) (hdp : ∀ g, g < T → ∃ d, d ≤ 4 ∧ ydp g = nI d) (h1 : he_Y yop yro yor ydp ykd ypl T o → P 1) (h0 : ¬ he_Y yop yro yor ydp ykd ypl T o → P 0) : wpY_isHeld P (ylim, ywa, ysk, ylo, yrn, ysp, yaw, yan, ywh, you, ymd, ygd, yop, yops, ybs, ysz, yex, yst, yow, yle, yel, yla, ysh, yro, yos, yoe, yoh, yor, yrw, ynx, ydp, ypl, ykd, ymt, ytd, yht) (nI o) := by
  have k45 : (∀ r, r < 6 → ¬ he_yr yop yro yor r o) → ∀ e g m, g + e = T → e < m → (∀ g', g' < g → ¬ he_yf ydp ykd ypl g' o) → wY_isHeld_45 P (nI o) ylim ywa ysk ylo yrn ysp yaw yan ywh you ymd ygd yop yops ybs ysz yex yst yow yle yel yla ysh yro yos yoe yoh yor yrw ynx ydp ypl ykd ymt ytd yht m (nI g) := by
    intro hr e
    induction e with
    | zero =>
      intro g m hg hm hf
      obtain ⟨m, rfl⟩ : ∃ q, m = q + 1 := ⟨m - 1, by omega⟩
      refine br_t (by rw [hrn]; exact nI_le (by omega) (by omega)) (h0 (fun z => ?_))
      rcases z with ⟨r, a, b⟩ | ⟨g', a, b⟩
      · exact hr r a b
      · exact hf g' (by omega) b
    | succ e ih =>
      intro g m hg hm hf
      obtain ⟨m, rfl⟩ : ∃ q, m = q + 1 := ⟨m - 1, by omega⟩
      obtain ⟨d, hd4, hd⟩ := hdp g (by omega)
      have e0 : (nI g).toNatClampNeg = g := nI_clamp (by omega)
      have e8 : (8 : Int32) * nI g + 2 + ydp (nI g).toNatClampNeg = nI (8 * g + (d + 2)) := by rw [e0, hd, pr_8]
      have k58 : ∀ e' c m', c + e' = d + 2 → e' < m' → (∀ j, j < c → ¬ (ykd (8 * g + j) = 2 ∧ ypl (8 * g + j) = nI o)) → wY_isHeld_58 P (wY_isHeld_45 P (nI o) ylim ywa ysk ylo yrn ysp yaw yan ywh you ymd ygd yop yops ybs ysz yex yst yow yle yel yla ysh yro yos yoe yoh yor yrw ynx ydp ypl ykd ymt ytd yht m) (nI o) (nI g) ylim ywa ysk ylo yrn ysp yaw yan ywh you ymd ygd yop yops ybs ysz yex yst yow yle yel yla ysh yro yos yoe yoh yor yrw ynx ydp ypl ykd ymt ytd yht m' (nI (8 * g + c)) := by
        intro e'
        induction e' with
        | zero =>
          intro c m' hc hm' hj
          obtain ⟨m', rfl⟩ : ∃ q, m' = q + 1 := ⟨m' - 1, by omega⟩
          refine ⟨pk_in g 4 (by omega), ?_⟩
          rw [e8]
          refine br_t (nI_le (by omega) (by omega)) (nm_r (nI_1 g) (ih (g + 1) m (by omega) (by omega) (fun g' hg' => ?_)))
          by_cases q : g' = g
          · rw [q]
            intro ⟨d', j, a1, a2, a3, a4⟩
            rw [hd] at a2
            have : d = d' := (nI_eq (by omega) (by omega)).mp a2
            exact hj j (by omega) a4
          · exact hf g' (by omega)
        | succ e' ih' =>
          intro c m' hc hm' hj
          obtain ⟨m', rfl⟩ : ∃ q, m' = q + 1 := ⟨m' - 1, by omega⟩
          have ec : (nI (8 * g + c)).toNatClampNeg = 8 * g + c := nI_clamp (by omega)
          refine ⟨pk_in g 4 (by omega), ?_⟩
          rw [e8]
          refine br_f (nI_ge (by omega) (by omega)) ⟨vp_in_nI (by omega) (by omega), ?_⟩
          rw [ec]
          have next : ¬ (ykd (8 * g + c) = 2 ∧ ypl (8 * g + c) = nI o) → wY_isHeld_58 P (wY_isHeld_45 P (nI o) ylim ywa ysk ylo yrn ysp yaw yan ywh you ymd ygd yop yops ybs ysz yex yst yow yle yel yla ysh yro yos yoe yoh yor yrw ynx ydp ypl ykd ymt ytd yht m) (nI o) (nI g) ylim ywa ysk ylo yrn ysp yaw yan ywh you ymd ygd yop yops ybs ysz yex yst yow yle yel yla ysh yro yos yoe yoh yor yrw ynx ydp ypl ykd ymt ytd yht m' (nI (8 * g + c + 1)) := fun w => ih' (c + 1) m' (by omega) (by omega) (fun j hj' => by
            by_cases q : j = c
            · rw [q]; exact w
            · exact hj j (by omega))
          exact br_c (fun z => ⟨vp_in_nI (by omega) (by omega), br_c (fun y => h1 (Or.inr ⟨g, by omega, d, c, hd4, hd, by omega, z, y⟩)) (fun y => nm_r (nI_1 _) (next (fun w => y w.2)))⟩) (fun z => nm_r (nI_1 _) (next (fun w => z w.1)))
      exact br_f (by rw [hrn]; exact nI_ge (by omega) (by omega)) (nm_r (show (8 : Int32) * nI g = nI (8 * g + 0) from pk_mul 8 g) ⟨d + 3, k58 (d + 2) 0 (d + 3) (by omega) (by omega) (fun j hj => absurd hj (by omega))⟩)
  have k2 : ∀ e c m, c + e = 6 → e < m → (∀ r, r < c → ¬ he_yr yop yro yor r o) → wY_isHeld_2 P (nI o) ylim ywa ysk ylo yrn ysp yaw yan ywh you ymd ygd yop yops ybs ysz yex yst yow yle yel yla ysh yro yos yoe yoh yor yrw ynx ydp ypl ykd ymt ytd yht m (nI c) := by
    intro e
    induction e with
    | zero =>
      intro c m hc hm hr
      obtain ⟨m, rfl⟩ : ∃ q, m = q + 1 := ⟨m - 1, by omega⟩
      obtain rfl : c = 6 := by omega
      exact br_t (by decide) ⟨T + 1, k45 hr T 0 (T + 1) (by omega) (by omega) (fun g' hg' => absurd hg' (by omega))⟩
    | succ e ih =>
      intro c m hc hm hr
      obtain ⟨m, rfl⟩ : ∃ q, m = q + 1 := ⟨m - 1, by omega⟩
      have e0 : (nI c).toNatClampNeg = c := nI_clamp (by omega)
      have next : ¬ he_yr yop yro yor c o → wY_isHeld_2 P (nI o) ylim ywa ysk ylo yrn ysp yaw yan ywh you ymd ygd yop yops ybs ysz yex yst yow yle yel yla ysh yro yos yoe yoh yor yrw ynx ydp ypl ykd ymt ytd yht m (nI (c + 1)) := fun w => ih (c + 1) m (by omega) (by omega) (fun r hr' => by
        by_cases q : r = c
        · rw [q]; exact w
        · exact hr r (by omega))
      refine br_f (nI_ge (b := 6) (by omega) (by decide)) ⟨pk_in c 6 (by omega), ?_⟩
      rw [e0]
      exact br_c (fun z => h1 (Or.inl ⟨c, by omega, Or.inl z⟩)) (fun z => br_c (fun y => nm_r (nI_1 c) (next (fun w => w.elim z (fun x => x.1 y)))) (fun y => ⟨pk_in c 6 (by omega), br_c (fun x => h1 (Or.inl ⟨c, by omega, Or.inr ⟨y, x⟩⟩)) (fun x => nm_r (nI_1 c) (next (fun w => w.elim z (fun v => x v.2))))⟩))
  exact ⟨7, k2 6 0 7 (by omega) (by omega) (fun r hr => absurd hr (by omega))⟩
theorem he_free (P : Int32 → Prop) {T : Nat} (hT : T ≤ 4) (hrn : yrn = nI T) (hdp : ∀ g, g < T → ∃ d, d ≤ 4 ∧ ydp g = nI d) (h1 : ∀ q, q < 8 → (∀ o, o < q → he_Y yop yro yor ydp ykd ypl T o) → ¬ he_Y yop yro yor ydp ykd ypl T q → P (nI q)) (h0 : (∀ o, o < 8 → he_Y yop yro yor ydp ykd ypl T o) → P (-1)) : wpY_free P (ylim, ywa, ysk, ylo, yrn, ysp, yaw, yan, ywh, you, ymd, ygd, yop, yops, ybs, ysz, yex, yst, yow, yle, yel, yla, ysh, yro, yos, yoe, yoh, yor, yrw, ynx, ydp, ypl, ykd, ymt, ytd, yht) := by
  have key : ∀ e c m, c + e = 8 → e < m → (∀ o, o < c → he_Y yop yro yor ydp ykd ypl T o) → wY_free_2 P ylim ywa ysk ylo yrn ysp yaw yan ywh you ymd ygd yop yops ybs ysz yex yst yow yle yel yla ysh yro yos yoe yoh yor yrw ynx ydp ypl ykd ymt ytd yht m (nI c) := by
    intro e
    induction e with
    | zero =>
      intro c m hc hm hb
      obtain ⟨m, rfl⟩ : ∃ q, m = q + 1 := ⟨m - 1, by omega⟩
      obtain rfl : c = 8 := by omega
      exact br_t (by decide) (h0 hb)
    | succ e ih =>
      intro c m hc hm hb
      obtain ⟨m, rfl⟩ : ∃ q, m = q + 1 := ⟨m - 1, by omega⟩
      refine br_f (nI_ge (b := 8) (by omega) (by decide)) (he_isHeld _ hT hrn hdp (fun z => br_f (by decide) (nm_r (nI_1 c) (ih (c + 1) m (by omega) (by omega) (fun o ho => ?_)))) (fun z => br_t rfl (h1 c (by omega) hb z)))
      by_cases q : o = c
      · rw [q]; exact z
      · exact hb o (by omega)
  exact ⟨9, key 8 0 9 (by omega) (by omega) (fun o ho => absurd ho (by omega))⟩
theorem he_or : ∀ x : Int32, (x = 0 ∨ x = 1) → x ||| 1 = 1 ∧ x ||| 0 = x := by
  intro x h
  rcases h with rfl | rfl
  · decide
  · decide
theorem he_held (P : Int32 → Prop) {G : Nat → Nat} (hG : ∀ o, o < 8 → (G o = 0 ∨ G o = 1) ∧ (G o = 1 ↔ ∃ r, r < 6 ∧ yro r = nI o)) (h : P (nI (ck_sm G 8))) : wpY_held P (ylim, ywa, ysk, ylo, yrn, ysp, yaw, yan, ywh, you, ymd, ygd, yop, yops, ybs, ysz, yex, yst, yow, yle, yel, yla, ysh, yro, yos, yoe, yoh, yor, yrw, ynx, ydp, ypl, ykd, ymt, ytd, yht) := by
  have key : ∀ e c m, c + e = 8 → e < m → wY_held_4 P ylim ywa ysk ylo yrn ysp yaw yan ywh you ymd ygd yop yops ybs ysz yex yst yow yle yel yla ysh yro yos yoe yoh yor yrw ynx ydp ypl ykd ymt ytd yht m (nI (ck_sm G c)) (nI c) := by
    intro e
    induction e with
    | zero =>
      intro c m hc hm
      obtain ⟨m, rfl⟩ : ∃ q, m = q + 1 := ⟨m - 1, by omega⟩
      obtain rfl : c = 8 := by omega
      exact br_t (by decide) h
    | succ e ih =>
      intro c m hc hm
      obtain ⟨m, rfl⟩ : ∃ q, m = q + 1 := ⟨m - 1, by omega⟩
      have i := ih (c + 1) m (by omega) (by omega)
      have es : ck_sm G (c + 1) = ck_sm G c + G c := rfl
      rw [es] at i
      obtain ⟨g1, g2⟩ := hG c (by omega)
      have k15 : ∀ e' r m' x, r + e' = 6 → e' < m' → (x = 0 ∨ x = 1) → (x = 1 ↔ ∃ r', r' < r ∧ yro r' = nI c) → wY_held_15 P (wY_held_4 P ylim ywa ysk ylo yrn ysp yaw yan ywh you ymd ygd yop yops ybs ysz yex yst yow yle yel yla ysh yro yos yoe yoh yor yrw ynx ydp ypl ykd ymt ytd yht m) (nI (ck_sm G c)) (nI c) ylim ywa ysk ylo yrn ysp yaw yan ywh you ymd ygd yop yops ybs ysz yex yst yow yle yel yla ysh yro yos yoe yoh yor yrw ynx ydp ypl ykd ymt ytd yht m' x (nI r) := by
        intro e'
        induction e' with
        | zero =>
          intro r m' x hr hm' hx hxr
          obtain ⟨m', rfl⟩ : ∃ q, m' = q + 1 := ⟨m' - 1, by omega⟩
          obtain rfl : r = 6 := by omega
          refine br_t (by decide) (br_c (fun z => nm_r (nI_1 c) ?_) (fun z => nm_r (nI_1 _) (nm_r (nI_1 c) ?_)))
          · have : G c = 0 := by
              rcases g1 with q | q
              · exact q
              · have := hxr.mpr (g2.mp q)
                rw [z] at this
                exact absurd this (by decide)
            rw [this] at i
            exact i
          · have : G c = 1 := g2.mpr (hxr.mp (hx.resolve_left z))
            rw [this] at i
            exact i
        | succ e' ih' =>
          intro r m' x hr hm' hx hxr
          obtain ⟨m', rfl⟩ : ∃ q, m' = q + 1 := ⟨m' - 1, by omega⟩
          have e0 : (nI r).toNatClampNeg = r := nI_clamp (by omega)
          refine br_f (nI_ge (b := 6) (by omega) (by decide)) ⟨pk_in r 6 (by omega), ?_⟩
          rw [e0]
          refine br_c (fun z => nm_r (he_or x hx).1 (nm_r (nI_1 r) (ih' (r + 1) m' 1 (by omega) (by omega) (Or.inr rfl) ⟨fun _ => ⟨r, by omega, z⟩, fun _ => rfl⟩))) (fun z => nm_r (he_or x hx).2 (nm_r (nI_1 r) (ih' (r + 1) m' x (by omega) (by omega) hx ⟨fun w => ?_, fun w => ?_⟩)))
          · obtain ⟨r', a, b⟩ := hxr.mp w
            exact ⟨r', by omega, b⟩
          · obtain ⟨r', a, b⟩ := w
            by_cases q : r' = r
            · rw [q] at b
              exact absurd b z
            · exact hxr.mpr ⟨r', by omega, b⟩
      exact br_f (nI_ge (b := 8) (by omega) (by decide)) ⟨7, k15 6 0 7 0 (by omega) (by omega) (Or.inl rfl) ⟨fun z => absurd z (by decide), fun ⟨r', a, _⟩ => absurd a (by omega)⟩⟩
  exact ⟨9, key 8 0 9 (by omega) (by omega)⟩
end HY
end
section
/-! THE RELATION, THE END OF A RUN, THE HEADS OF A STEP -/
section RE
variable {xlim xpc xnd xwc xit xfc xwt xan xlp : Int32}
variable {xpo xpb xwd xwk xnk xco xcb xml xme xro xow xol xla xsh xoe xoh xsr xss xse xms xfm xfa xfd xcv xcr : Nat → Int32}
variable {ylim ywa ysk ylo yrn ysp yaw yan ywh you ygd yop : Int32}
variable {ymd : Int64}
variable {yops ybs ysz yex yow yle yel yla ysh yro yoe yoh yor yrw ynx ydp ypl ykd ymt ytd yht : Nat → Int32}
variable {yst yos : Nat → Int64}
/-- the relation at the head of a turn -/
def i_Rel (K : Nat) (u : SX) (v : SY) : Prop := match u, v with
  | (xlim, xpc, xnd, xwc, xit, xfc, xwt, xan, xlp, xpo, xpb, xwd, xwk, xnk, xco, xcb, xml, xme, xro, xow, xol, xla, xsh, xoe, xoh, xsr, xss, xse, xms, xfm, xfa, xfd, xcv, xcr), (ylim, ywa, ysk, ylo, yrn, ysp, yaw, yan, ywh, you, ymd, ygd, yop, yops, ybs, ysz, yex, yst, yow, yle, yel, yla, ysh, yro, yos, yoe, yoh, yor, yrw, ynx, ydp, ypl, ykd, ymt, ytd, yht) => xfc = 0 ∧ xit = 0 ∧ rl_L xlim ylim ∧ rl_P xpo xpb xpc yops ybs ysz ∧ rl_M xco xcb xml xme yops ybs ysz yex ∧ rl_O xro xow xol xla xsh xoe yro yow yle yla ysh yel ∧ rl_T (300 * K) xit xsr xss xse xms yop yor yoh yoe yst yos ymd ∧ rl_W xwt yaw ∧ xan = yan ∧ xlp = ywh
/-- the relation between two steps: t frames wait below the top, which is in method m, at instruction k, with d entries, of kinds f -/
def rr (B t m k d : Nat) (f : Nat → Nat) (u : SX) (v : SY) : Prop := match u, v with
  | (xlim, xpc, xnd, xwc, xit, xfc, xwt, xan, xlp, xpo, xpb, xwd, xwk, xnk, xco, xcb, xml, xme, xro, xow, xol, xla, xsh, xoe, xoh, xsr, xss, xse, xms, xfm, xfa, xfd, xcv, xcr), (ylim, ywa, ysk, ylo, yrn, ysp, yaw, yan, ywh, you, ymd, ygd, yop, yops, ybs, ysz, yex, yst, yow, yle, yel, yla, ysh, yro, yos, yoe, yoh, yor, yrw, ynx, ydp, ypl, ykd, ymt, ytd, yht) => t < 4 ∧ xfc = nI (t + 1) ∧ yrn = nI (t + 1) ∧ yan = 0 ∧ rl_L xlim ylim ∧ rl_P xpo xpb xpc yops ybs ysz ∧ rl_M xco xcb xml xme yops ybs ysz yex ∧ rl_O xro xow xol xla xsh xoe yro yow yle yla ysh yel ∧ rl_T B xit xsr xss xse xms yop yor yoh yoe yst yos ymd ∧ rl_W xwt yaw ∧ rl_lo yops ybs ysz t xfm xfa xfd xcv xcr yrw ynx ydp ypl ykd ∧ rl_tp yops ybs ysz t m k d f xfm xfa xfd xcv xcr yrw ynx ydp ypl ykd
theorem re_T_up {B B' : Nat} (h : rl_T B xit xsr xss xse xms yop yor yoh yoe yst yos ymd) (hB : B ≤ B') : rl_T B' xit xsr xss xse xms yop yor yoh yoe yst yos ymd := by
  obtain ⟨t1, t2, ⟨mm, m1, m2, m3, m4⟩, t4⟩ := h
  exact ⟨t1, t2, ⟨mm, by omega, m2, m3, m4⟩, t4⟩
theorem i_up {k : Nat} {u : SX} {v : SY} (h : i_Rel k u v) : i_Rel (k + 4) u v := by
  obtain ⟨a1, a2, a3, a4, a5, a6, a7, a8, a9, a10⟩ := h
  exact ⟨a1, a2, a3, a4, a5, a6, re_T_up a7 (by omega), a8, a9, a10⟩
/-! the end of a run -/
theorem re_fin {B : Nat} {r : Int32} (hO : rl_O xro xow xol xla xsh xoe yro yow yle yla ysh yel) (hT : rl_T B xit xsr xss xse xms yop yor yoh yoe yst yos ymd) (hW : rl_W xwt yaw) :
    ∃ ro sh oe wt yro' ysh' yel' yaw', (∀ P : SX → Prop, P (xlim, xpc, xnd, xwc, 0, 0, wt, xan, xlp, xpo, xpb, xwd, xwk, xnk, xco, xcb, xml, xme, ro, xow, xol, xla, sh, oe, xoh, xsr, xss, xse, xms, xfm, xfa, xfd, xcv, xcr) → wX_finish_44 P r xlim xpc xnd xwc xit xfc xwt xan xlp xpo xpb xwd xwk xnk xco xcb xml xme xro xow xol xla xsh xoe xoh xsr xss xse xms xfm xfa xfd xcv xcr) ∧ (∀ (Q : SY → Prop) z, Q (ylim, ywa, ysk, ylo, 0, ysp, yaw', yan, z, you, ymd, ygd, 0, yops, ybs, ysz, yex, yst, yow, yle, yel', yla, ysh', yro', yos, yoe, yoh, yor, yrw, ynx, ydp, ypl, ykd, ymt, ytd, yht) → wY_end_40 Q r z ylim ywa ysk ylo yrn ysp yaw yan ywh you ymd ygd yop yops ybs ysz yex yst yow yle yel yla ysh yro yos yoe yoh yor yrw ynx ydp ypl ykd ymt ytd yht) ∧ rl_O ro xow xol xla sh oe yro' yow yle yla ysh' yel' ∧ rl_T B 0 xsr xss xse xms 0 yor yoh yoe yst yos ymd ∧ rl_W wt yaw' := by
  have w9 : rl_W (-1) (-1) := ⟨rfl, Or.inl rfl⟩
  rcases hT.2.1 with h0 | h1
  · have hx : xit = 0 := hT.1.trans h0
    subst hx
    subst h0
    by_cases r9 : r = 9
    · refine ⟨xro, xsh, lo_p xla 1 xoe, -1, yro, ysh, lo_yr yla 0 yel, -1, fun P hp => ?_, fun Q z hq => ?_, pr_reset hO, hT, w9⟩
      · exact br_t rfl (br_t r9 (lo_lose _ hp))
      · unfold wY_end_40
        exact br_t rfl (br_t r9 (lo_reset _ hq))
    · refine ⟨xro, xsh, xoe, xwt, yro, ysh, yel, yaw, fun P hp => ?_, fun Q z hq => ?_, hO, hT, hW⟩
      · exact br_t rfl (br_f r9 hp)
      · unfold wY_end_40
        exact br_t rfl (br_f r9 hq)
  · have hx : xit = 1 := hT.1.trans h1
    obtain ⟨O', T'⟩ := pr_undo hO hT h1
    have n1 : ¬ (1 : Int32) = 0 := by decide
    subst hx
    subst h1
    by_cases r9 : r = 9
    · refine ⟨_, _, lo_p xla 1 _, -1, _, _, lo_yr yla 0 _, -1, fun P hp => ?_, fun Q z hq => ?_, pr_reset O', T', w9⟩
      · exact br_f n1 (lo_xundo _ (br_t r9 (lo_lose _ hp)))
      · unfold wY_end_40
        exact lo_yundo _ n1 (br_t r9 (lo_reset _ hq))
    · refine ⟨_, _, _, xwt, _, _, _, yaw, fun P hp => ?_, fun Q z hq => ?_, O', T', hW⟩
      · exact br_f n1 (lo_xundo _ (br_f r9 hp))
      · unfold wY_end_40
        exact lo_yundo _ n1 (br_f r9 hq)
/-! power -/
def re_pd (w : Int32) : Int32 := if w ≤ 0 then w else w - 1
theorem re_W_pd (hW : rl_W xwt yaw) (h0 : ¬ xwt = 0) : rl_W (re_pd xwt) (re_pd yaw) := by
  obtain ⟨rfl, h⟩ := hW
  refine ⟨rfl, ?_⟩
  unfold re_pd
  rcases h with rfl | ⟨a, ha, rfl⟩
  · rw [if_pos (by decide)]
    exact Or.inl rfl
  · cases a with
    | zero => exact absurd rfl h0
    | succ a =>
      rw [if_neg (nI_nle (by omega) (by omega)), nI_pred]
      exact Or.inr ⟨a, by omega, rfl⟩
theorem re_power (P : Int32 → SX → Prop) (h0 : ¬ xwt = 0) (h : P 0 (xlim, xpc, xnd, xwc, xit, xfc, re_pd xwt, xan, xlp, xpo, xpb, xwd, xwk, xnk, xco, xcb, xml, xme, xro, xow, xol, xla, xsh, xoe, xoh, xsr, xss, xse, xms, xfm, xfa, xfd, xcv, xcr)) : wpX_powerFails P (xlim, xpc, xnd, xwc, xit, xfc, xwt, xan, xlp, xpo, xpb, xwd, xwk, xnk, xco, xcb, xml, xme, xro, xow, xol, xla, xsh, xoe, xoh, xsr, xss, xse, xms, xfm, xfa, xfd, xcv, xcr) := by
  unfold re_pd at h
  refine br_f h0 (br_c (fun z => ?_) (fun z => nm_e ?_))
  · rw [if_pos z] at h
    exact h
  · rw [if_neg z] at h
    exact h
theorem re_write (P : Int32 → SY → Prop) (h0 : ¬ yaw = 0) (h : P 1 (ylim, ywa, ysk, ylo, yrn, ysp, re_pd yaw, yan, ywh, you, ymd, ygd, yop, yops, ybs, ysz, yex, yst, yow, yle, yel, yla, ysh, yro, yos, yoe, yoh, yor, yrw, ynx, ydp, ypl, ykd, ymt, ytd, yht)) : wpY_write P (ylim, ywa, ysk, ylo, yrn, ysp, yaw, yan, ywh, you, ymd, ygd, yop, yops, ybs, ysz, yex, yst, yow, yle, yel, yla, ysh, yro, yos, yoe, yoh, yor, yrw, ynx, ydp, ypl, ykd, ymt, ytd, yht) := by
  unfold re_pd at h
  refine br_f h0 (br_c (fun z => ?_) (fun z => nm_e ?_))
  · rw [if_pos z] at h
    exact h
  · rw [if_neg z] at h
    exact h
/-! the head of the component's step -/
theorem re_76p (P : Int32 → SX → Prop) {t k o : Nat} {Bv : Int32} {u' : SX} (ht : t < 4) (hfa : xfa t = nI k) (ho : o < 9 ∨ 16 < o) (h25 : o < 25) (hp : ∀ post : SX → Prop, post u' → wpX_perform post (xlim, xpc, xnd, xwc, xit, xfc, xwt, xan, xlp, xpo, xpb, xwd, xwk, xnk, xco, xcb, xml, xme, xro, xow, xol, xla, xsh, xoe, xoh, xsr, xss, xse, xms, xfm, upd xfa t (nI (k + 1)), xfd, xcv, xcr) (nI o) Bv) (h : P 0 u') : wX_execute_76 P (nI t) (nI o) Bv xlim xpc xnd xwc xit xfc xwt xan xlp xpo xpb xwd xwk xnk xco xcb xml xme xro xow xol xla xsh xoe xoh xsr xss xse xms xfm xfa xfd xcv xcr := by
  have e0 : (nI t).toNatClampNeg = t := nI_clamp (by omega)
  obtain ⟨a1, a2, a3, a4, a5, a6, a7, a8, a9, c1, c2, c3, c4, c5, c6, c7, c8, c9, d1, d2, d3, d4, d5, d6, d7, d8, d9, e1, e2, e3, e4, e5, e6, e7⟩ := u'
  refine ⟨pk_in t 4 ht, pk_in t 4 ht, nm_r (by rw [e0, hfa, nI_1]) (pk_lt o 9 (fun z => hp _ h) (fun z => pk_lt 16 o (fun y => hp _ h) (fun y => absurd ho (by omega))))⟩
theorem re_76o (P : Int32 → SX → Prop) {t k o : Nat} {Bv : Int32} {u' : SX} (ht : t < 4) (hfa : xfa t = nI k) (ho : 9 ≤ o) (ho2 : o ≤ 16) (hp : ∀ post : SX → Prop, post u' → wpX_performOnObjects post (xlim, xpc, xnd, xwc, xit, xfc, xwt, xan, xlp, xpo, xpb, xwd, xwk, xnk, xco, xcb, xml, xme, xro, xow, xol, xla, xsh, xoe, xoh, xsr, xss, xse, xms, xfm, upd xfa t (nI (k + 1)), xfd, xcv, xcr) (nI o) Bv) (h : P 0 u') : wX_execute_76 P (nI t) (nI o) Bv xlim xpc xnd xwc xit xfc xwt xan xlp xpo xpb xwd xwk xnk xco xcb xml xme xro xow xol xla xsh xoe xoh xsr xss xse xms xfm xfa xfd xcv xcr := by
  have e0 : (nI t).toNatClampNeg = t := nI_clamp (by omega)
  obtain ⟨a1, a2, a3, a4, a5, a6, a7, a8, a9, c1, c2, c3, c4, c5, c6, c7, c8, c9, d1, d2, d3, d4, d5, d6, d7, d8, d9, e1, e2, e3, e4, e5, e6, e7⟩ := u'
  refine ⟨pk_in t 4 ht, pk_in t 4 ht, nm_r (by rw [e0, hfa, nI_1]) (pk_lt o 9 (fun z => absurd ho (by omega)) (fun z => pk_lt 16 o (fun y => absurd ho2 (by omega)) (fun y => hp _ h)))⟩
def re_H (fm fa co cb : Nat → Int32) (t m k o : Nat) (Bv : Int32) : Prop := t < 4 ∧ m < 6 ∧ k < 16 ∧ fm t = nI m ∧ fa t = nI k ∧ co (16 * m + k) = nI o ∧ cb (16 * m + k) = Bv
/-- no failure, no write -/
theorem re_xn (P : Int32 → SX → Prop) {t m k o : Nat} {Bv : Int32} {oh : Nat → Int32} (H : re_H xfm xfa xco xcb t m k o Bv) (hf : ∀ post : Int32 → SX → Prop, post 0 (xlim, xpc, xnd, xwc, xit, nI (t + 1), xwt, xan, xlp, xpo, xpb, xwd, xwk, xnk, xco, xcb, xml, xme, xro, xow, xol, xla, xsh, xoe, oh, xsr, xss, xse, xms, xfm, xfa, xfd, xcv, xcr) → wpX_failureOf post (xlim, xpc, xnd, xwc, xit, nI (t + 1), xwt, xan, xlp, xpo, xpb, xwd, xwk, xnk, xco, xcb, xml, xme, xro, xow, xol, xla, xsh, xoe, xoh, xsr, xss, xse, xms, xfm, xfa, xfd, xcv, xcr) (nI o) Bv) (hw : ∀ post : Int32 → Prop, post 0 → wpX_isWrite post (xlim, xpc, xnd, xwc, xit, nI (t + 1), xwt, xan, xlp, xpo, xpb, xwd, xwk, xnk, xco, xcb, xml, xme, xro, xow, xol, xla, xsh, xoe, oh, xsr, xss, xse, xms, xfm, xfa, xfd, xcv, xcr) (nI o) Bv) (h : wX_execute_76 P (nI t) (nI o) Bv xlim xpc xnd xwc xit (nI (t + 1)) xwt xan xlp xpo xpb xwd xwk xnk xco xcb xml xme xro xow xol xla xsh xoe oh xsr xss xse xms xfm xfa xfd xcv xcr) : wpX_execute P (xlim, xpc, xnd, xwc, xit, nI (t + 1), xwt, xan, xlp, xpo, xpb, xwd, xwk, xnk, xco, xcb, xml, xme, xro, xow, xol, xla, xsh, xoe, xoh, xsr, xss, xse, xms, xfm, xfa, xfd, xcv, xcr) := by
  obtain ⟨ht, hm, hk, hfm, hfa, ho, hb⟩ := H
  have e0 : (nI t).toNatClampNeg = t := nI_clamp (by omega)
  have e2 : (nI (16 * m + k)).toNatClampNeg = 16 * m + k := nI_clamp (by omega)
  exact nm_r (nI_pred t) ⟨pk_in t 4 ht, pk_in t 4 ht, nm_r (e' := nI (16 * m + k)) (by rw [e0, hfm, hfa, pr_16]) ⟨vp_in_nI (by omega) (by omega), nm_r (e' := nI o) (by rw [e2, ho]) ⟨vp_in_nI (by omega) (by omega), nm_r (e' := Bv) (by rw [e2, hb]) (hf _ (br_t rfl (hw _ (br_t rfl h))))⟩⟩⟩
/-- a write that goes well -/
theorem re_xw (P : Int32 → SX → Prop) {t m k o : Nat} {Bv : Int32} {oh : Nat → Int32} (H : re_H xfm xfa xco xcb t m k o Bv) (h0 : ¬ xwt = 0) (hf : ∀ post : Int32 → SX → Prop, post 0 (xlim, xpc, xnd, xwc, xit, nI (t + 1), xwt, xan, xlp, xpo, xpb, xwd, xwk, xnk, xco, xcb, xml, xme, xro, xow, xol, xla, xsh, xoe, oh, xsr, xss, xse, xms, xfm, xfa, xfd, xcv, xcr) → wpX_failureOf post (xlim, xpc, xnd, xwc, xit, nI (t + 1), xwt, xan, xlp, xpo, xpb, xwd, xwk, xnk, xco, xcb, xml, xme, xro, xow, xol, xla, xsh, xoe, xoh, xsr, xss, xse, xms, xfm, xfa, xfd, xcv, xcr) (nI o) Bv) (hw : ∀ post : Int32 → Prop, post 1 → wpX_isWrite post (xlim, xpc, xnd, xwc, xit, nI (t + 1), xwt, xan, xlp, xpo, xpb, xwd, xwk, xnk, xco, xcb, xml, xme, xro, xow, xol, xla, xsh, xoe, oh, xsr, xss, xse, xms, xfm, xfa, xfd, xcv, xcr) (nI o) Bv) (h : wX_execute_76 P (nI t) (nI o) Bv xlim xpc xnd xwc xit (nI (t + 1)) (re_pd xwt) xan xlp xpo xpb xwd xwk xnk xco xcb xml xme xro xow xol xla xsh xoe oh xsr xss xse xms xfm xfa xfd xcv xcr) : wpX_execute P (xlim, xpc, xnd, xwc, xit, nI (t + 1), xwt, xan, xlp, xpo, xpb, xwd, xwk, xnk, xco, xcb, xml, xme, xro, xow, xol, xla, xsh, xoe, xoh, xsr, xss, xse, xms, xfm, xfa, xfd, xcv, xcr) := by
  obtain ⟨ht, hm, hk, hfm, hfa, ho, hb⟩ := H
  have e0 : (nI t).toNatClampNeg = t := nI_clamp (by omega)
  have e2 : (nI (16 * m + k)).toNatClampNeg = 16 * m + k := nI_clamp (by omega)
  exact nm_r (nI_pred t) ⟨pk_in t 4 ht, pk_in t 4 ht, nm_r (e' := nI (16 * m + k)) (by rw [e0, hfm, hfa, pr_16]) ⟨vp_in_nI (by omega) (by omega), nm_r (e' := nI o) (by rw [e2, ho]) ⟨vp_in_nI (by omega) (by omega), nm_r (e' := Bv) (by rw [e2, hb]) (hf _ (br_t rfl (hw _ (br_f (by decide) (re_power _ h0 (br_t rfl h))))))⟩⟩⟩
/-- a write that power fails at -/
theorem re_xt (P : Int32 → SX → Prop) {t m k o : Nat} {Bv : Int32} {oh : Nat → Int32} (H : re_H xfm xfa xco xcb t m k o Bv) (h0 : xwt = 0) (hf : ∀ post : Int32 → SX → Prop, post 0 (xlim, xpc, xnd, xwc, xit, nI (t + 1), xwt, xan, xlp, xpo, xpb, xwd, xwk, xnk, xco, xcb, xml, xme, xro, xow, xol, xla, xsh, xoe, oh, xsr, xss, xse, xms, xfm, xfa, xfd, xcv, xcr) → wpX_failureOf post (xlim, xpc, xnd, xwc, xit, nI (t + 1), xwt, xan, xlp, xpo, xpb, xwd, xwk, xnk, xco, xcb, xml, xme, xro, xow, xol, xla, xsh, xoe, xoh, xsr, xss, xse, xms, xfm, xfa, xfd, xcv, xcr) (nI o) Bv) (hw : ∀ post : Int32 → Prop, post 1 → wpX_isWrite post (xlim, xpc, xnd, xwc, xit, nI (t + 1), xwt, xan, xlp, xpo, xpb, xwd, xwk, xnk, xco, xcb, xml, xme, xro, xow, xol, xla, xsh, xoe, oh, xsr, xss, xse, xms, xfm, xfa, xfd, xcv, xcr) (nI o) Bv) (h : P 9 (xlim, xpc, xnd, xwc, xit, nI (t + 1), xwt, xan, xlp, xpo, xpb, xwd, xwk, xnk, xco, xcb, xml, xme, xro, xow, xol, xla, xsh, xoe, oh, xsr, xss, xse, xms, xfm, xfa, xfd, xcv, xcr)) : wpX_execute P (xlim, xpc, xnd, xwc, xit, nI (t + 1), xwt, xan, xlp, xpo, xpb, xwd, xwk, xnk, xco, xcb, xml, xme, xro, xow, xol, xla, xsh, xoe, xoh, xsr, xss, xse, xms, xfm, xfa, xfd, xcv, xcr) := by
  obtain ⟨ht, hm, hk, hfm, hfa, ho, hb⟩ := H
  have e0 : (nI t).toNatClampNeg = t := nI_clamp (by omega)
  have e2 : (nI (16 * m + k)).toNatClampNeg = 16 * m + k := nI_clamp (by omega)
  exact nm_r (nI_pred t) ⟨pk_in t 4 ht, pk_in t 4 ht, nm_r (e' := nI (16 * m + k)) (by rw [e0, hfm, hfa, pr_16]) ⟨vp_in_nI (by omega) (by omega), nm_r (e' := nI o) (by rw [e2, ho]) ⟨vp_in_nI (by omega) (by omega), nm_r (e' := Bv) (by rw [e2, hb]) (hf _ (br_t rfl (hw _ (br_f (by decide) (br_t h0 (br_f (by decide) h))))))⟩⟩⟩
/-- a failure -/
theorem re_xf (P : Int32 → SX → Prop) {t m k o : Nat} {Bv r : Int32} {oh : Nat → Int32} (H : re_H xfm xfa xco xcb t m k o Bv) (hr : ¬ r = 0) (hf : ∀ post : Int32 → SX → Prop, post r (xlim, xpc, xnd, xwc, xit, nI (t + 1), xwt, xan, xlp, xpo, xpb, xwd, xwk, xnk, xco, xcb, xml, xme, xro, xow, xol, xla, xsh, xoe, oh, xsr, xss, xse, xms, xfm, xfa, xfd, xcv, xcr) → wpX_failureOf post (xlim, xpc, xnd, xwc, xit, nI (t + 1), xwt, xan, xlp, xpo, xpb, xwd, xwk, xnk, xco, xcb, xml, xme, xro, xow, xol, xla, xsh, xoe, xoh, xsr, xss, xse, xms, xfm, xfa, xfd, xcv, xcr) (nI o) Bv) (h : P r (xlim, xpc, xnd, xwc, xit, nI (t + 1), xwt, xan, xlp, xpo, xpb, xwd, xwk, xnk, xco, xcb, xml, xme, xro, xow, xol, xla, xsh, xoe, oh, xsr, xss, xse, xms, xfm, xfa, xfd, xcv, xcr)) : wpX_execute P (xlim, xpc, xnd, xwc, xit, nI (t + 1), xwt, xan, xlp, xpo, xpb, xwd, xwk, xnk, xco, xcb, xml, xme, xro, xow, xol, xla, xsh, xoe, xoh, xsr, xss, xse, xms, xfm, xfa, xfd, xcv, xcr) := by
  obtain ⟨ht, hm, hk, hfm, hfa, ho, hb⟩ := H
  have e0 : (nI t).toNatClampNeg = t := nI_clamp (by omega)
  have e2 : (nI (16 * m + k)).toNatClampNeg = 16 * m + k := nI_clamp (by omega)
  exact nm_r (nI_pred t) ⟨pk_in t 4 ht, pk_in t 4 ht, nm_r (e' := nI (16 * m + k)) (by rw [e0, hfm, hfa, pr_16]) ⟨vp_in_nI (by omega) (by omega), nm_r (e' := nI o) (by rw [e2, ho]) ⟨vp_in_nI (by omega) (by omega), nm_r (e' := Bv) (by rw [e2, hb]) (hf _ (br_f hr h))⟩⟩⟩
/-! the head of the reference's step -/
theorem re_eta (Q : SY → Prop) : (fun u : SY => match u with | (ylim, ywa, ysk, ylo, yrn, ysp, yaw, yan, ywh, you, ymd, ygd, yop, yops, ybs, ysz, yex, yst, yow, yle, yel, yla, ysh, yro, yos, yoe, yoh, yor, yrw, ynx, ydp, ypl, ykd, ymt, ytd, yht) => Q (ylim, ywa, ysk, ylo, yrn, ysp, yaw, yan, ywh, you, ymd, ygd, yop, yops, ybs, ysz, yex, yst, yow, yle, yel, yla, ysh, yro, yos, yoe, yoh, yor, yrw, ynx, ydp, ypl, ykd, ymt, ytd, yht)) = Q := by
  funext u
  obtain ⟨a1, a2, a3, a4, a5, a6, a7, a8, a9, c1, c2, c3, c4, c5, c6, c7, c8, c9, d1, d2, d3, d4, d5, d6, d7, d8, d9, e1, e2, e3, e4, e5, e6, e7, e8, e9⟩ := u
  rfl
def re_S (rw_ nx ops bs : Nat → Int32) (t m k o : Nat) (Bv : Int32) : Prop := t < 4 ∧ m < 6 ∧ k < 16 ∧ rw_ t = nI m ∧ nx t = nI k ∧ ops (16 * m + k) = nI o ∧ bs (16 * m + k) = Bv
theorem re_ys (Q : SY → Prop) (F : (SY → Prop) → Prop) {t m k o s : Nat} {Bv : Int32} (H : re_S yrw ynx yops ybs t m k o Bv) (hs : ¬ nI s = ylim) (h25 : o < 25)
    (h1 : o < 9 → ∀ post, F post → wpY_simple post (ylim, ywa, ysk, ylo, nI (t + 1), nI (s + 1), yaw, yan, ywh, you, ymd, ygd, yop, yops, ybs, ysz, yex, yst, yow, yle, yel, yla, ysh, yro, yos, yoe, yoh, yor, yrw, ynx, ydp, ypl, ykd, ymt, ytd, yht) (nI o) Bv) (h2 : 9 ≤ o → o < 18 → o ≠ 9 → o ≠ 10 → o ≠ 16 → o ≠ 17 → ∀ post, F post → wpY_onObject post (ylim, ywa, ysk, ylo, nI (t + 1), nI (s + 1), yaw, yan, ywh, you, ymd, ygd, yop, yops, ybs, ysz, yex, yst, yow, yle, yel, yla, ysh, yro, yos, yoe, yoh, yor, yrw, ynx, ydp, ypl, ykd, ymt, ytd, yht) (nI o) Bv) (h3 : o = 9 ∨ o = 10 ∨ o = 16 ∨ o = 17 ∨ 18 ≤ o → ∀ post, F post → wpY_other post (ylim, ywa, ysk, ylo, nI (t + 1), nI (s + 1), yaw, yan, ywh, you, ymd, ygd, yop, yops, ybs, ysz, yex, yst, yow, yle, yel, yla, ysh, yro, yos, yoe, yoh, yor, yrw, ynx, ydp, ypl, ykd, ymt, ytd, yht) (nI o) Bv) (h : F Q) : wpY_step Q (ylim, ywa, ysk, ylo, nI (t + 1), nI s, yaw, yan, ywh, you, ymd, ygd, yop, yops, ybs, ysz, yex, yst, yow, yle, yel, yla, ysh, yro, yos, yoe, yoh, yor, yrw, ynx, ydp, ypl, ykd, ymt, ytd, yht) := by
  obtain ⟨ht, hm, hk, hfm, hfa, ho, hb⟩ := H
  have e0 : (nI t).toNatClampNeg = t := nI_clamp (by omega)
  have e2 : (nI (16 * m + k)).toNatClampNeg = 16 * m + k := nI_clamp (by omega)
  have v1 : vp_in (nI (16 * m + k)) 112 := vp_in_nI (by omega) (by omega)
  have k3 : (o = 9 ∨ o = 10 ∨ o = 16 ∨ o = 17 ∨ 18 ≤ o) → wY_step_122 Q (nI (16 * m + k)) (nI o) ylim ywa ysk ylo (nI (t + 1)) (nI (s + 1)) yaw yan ywh you ymd ygd yop yops ybs ysz yex yst yow yle yel yla ysh yro yos yoe yoh yor yrw ynx ydp ypl ykd ymt ytd yht := fun z => by
    refine ⟨v1, ?_⟩
    rw [e2, hb, re_eta]
    exact h3 z Q h
  refine nm_r (nI_pred t) ⟨pk_in t 4 ht, pk_in t 4 ht, nm_r (e' := nI (16 * m + k)) (by rw [e0, hfm, hfa, pr_16]) (br_f hs (nm_r (nI_1 s) ⟨v1, nm_r (e' := nI o) (by rw [e2, ho]) (pk_le 9 o (fun z => pk_le 18 o (fun y => k3 (by omega)) (fun y => pk_eq o 9 (fun x => k3 (by omega)) (fun x9 => pk_eq o 10 (fun x => k3 (by omega)) (fun x10 => pk_eq o 16 (fun x => k3 (by omega)) (fun x16 => pk_eq o 17 (fun x => k3 (by omega)) (fun x17 => ⟨v1, ?_⟩)))))) (fun z => ⟨v1, ?_⟩))⟩))⟩
  · rw [e2, hb, re_eta]
    exact h2 z (by omega) x9 x10 x16 x17 Q h
  · rw [e2, hb, re_eta]
    exact h1 (by omega) Q h
end RE
end
section
/-! ONE STEP: what it gives -/
section SO
variable {xlim xpc xnd xwc xit xfc xwt xan xlp : Int32}
variable {xpo xpb xwd xwk xnk xco xcb xml xme xro xow xol xla xsh xoe xoh xsr xss xse xms xfm xfa xfd xcv xcr : Nat → Int32}
variable {ylim ywa ysk ylo yrn ysp yaw yan ywh you ygd yop : Int32}
variable {ymd : Int64}
variable {yops ybs ysz yex yow yle yel yla ysh yro yoe yoh yor yrw ynx ydp ypl ykd ymt ytd yht : Nat → Int32}
variable {yst yos : Nat → Int64}
def so_fc (u : SX) : Int32 := match u with | (xlim, xpc, xnd, xwc, xit, xfc, xwt, xan, xlp, xpo, xpb, xwd, xwk, xnk, xco, xcb, xml, xme, xro, xow, xol, xla, xsh, xoe, xoh, xsr, xss, xse, xms, xfm, xfa, xfd, xcv, xcr) => xfc
def so_xl (u : SX) : Int32 := match u with | (xlim, xpc, xnd, xwc, xit, xfc, xwt, xan, xlp, xpo, xpb, xwd, xwk, xnk, xco, xcb, xml, xme, xro, xow, xol, xla, xsh, xoe, xoh, xsr, xss, xse, xms, xfm, xfa, xfd, xcv, xcr) => xlim
def so_yl (v : SY) : Int32 := match v with | (ylim, ywa, ysk, ylo, yrn, ysp, yaw, yan, ywh, you, ymd, ygd, yop, yops, ybs, ysz, yex, yst, yow, yle, yel, yla, ysh, yro, yos, yoe, yoh, yor, yrw, ynx, ydp, ypl, ykd, ymt, ytd, yht) => ylim
def so_sp (v : SY) : Int32 := match v with | (ylim, ywa, ysk, ylo, yrn, ysp, yaw, yan, ywh, you, ymd, ygd, yop, yops, ybs, ysz, yex, yst, yow, yle, yel, yla, ysh, yro, yos, yoe, yoh, yor, yrw, ynx, ydp, ypl, ykd, ymt, ytd, yht) => ysp
/-- both are done, with outcome r -/
def so_fi (r : Int32) (B : Nat) (u : SX) (v : SY) : Prop := match u, v with
  | (xlim, xpc, xnd, xwc, xit, xfc, xwt, xan, xlp, xpo, xpb, xwd, xwk, xnk, xco, xcb, xml, xme, xro, xow, xol, xla, xsh, xoe, xoh, xsr, xss, xse, xms, xfm, xfa, xfd, xcv, xcr), (ylim, ywa, ysk, ylo, yrn, ysp, yaw, yan, ywh, you, ymd, ygd, yop, yops, ybs, ysz, yex, yst, yow, yle, yel, yla, ysh, yro, yos, yoe, yoh, yor, yrw, ynx, ydp, ypl, ykd, ymt, ytd, yht) => yrn = 0 ∧ you = r ∧ xfc = 0 ∧ xit = 0 ∧ rl_L xlim ylim ∧ rl_P xpo xpb xpc yops ybs ysz ∧ rl_M xco xcb xml xme yops ybs ysz yex ∧ rl_O xro xow xol xla xsh xoe yro yow yle yla ysh yel ∧ rl_T B xit xsr xss xse xms yop yor yoh yoe yst yos ymd ∧ rl_W xwt yaw ∧ xan = yan ∧ xlp = ywh
def so (B l s : Nat) (u : SX) (v : SY) : Prop :=
  (∃ u' v' t m k d f, (∀ P : Int32 → SX → Prop, P 0 u' → wpX_execute P u) ∧ (∀ Q : SY → Prop, Q v' → wpY_step Q v) ∧ rr (B + 1) t m k d f u' v' ∧ so_xl u' = nI l ∧ so_yl v' = nI l ∧ so_sp v' = nI (s + 1)) ∨
  (∃ r u' u'' v', (∀ P : Int32 → SX → Prop, P r u' → wpX_execute P u) ∧ (¬ r = 0 ∨ (r = 0 ∧ so_fc u' = 0)) ∧ so_xl u' = nI l ∧ (∀ P : SX → Prop, P u'' → wpX_finish P u' r) ∧ (∀ Q : SY → Prop, Q v' → wpY_step Q v) ∧ so_fi r (B + 1) u'' v')
/-- a failure: where both sides end -/
theorem so_fail {B t m k d : Nat} {f : Nat → Nat} {r : Int32} (hr : ¬ r = 0) (h : rr B t m k d f (xlim, xpc, xnd, xwc, xit, xfc, xwt, xan, xlp, xpo, xpb, xwd, xwk, xnk, xco, xcb, xml, xme, xro, xow, xol, xla, xsh, xoe, xoh, xsr, xss, xse, xms, xfm, xfa, xfd, xcv, xcr) (ylim, ywa, ysk, ylo, yrn, ysp, yaw, yan, ywh, you, ymd, ygd, yop, yops, ybs, ysz, yex, yst, yow, yle, yel, yla, ysh, yro, yos, yoe, yoh, yor, yrw, ynx, ydp, ypl, ykd, ymt, ytd, yht)) : ∃ u'' v', (∀ P : SX → Prop, P u'' → wpX_finish P (xlim, xpc, xnd, xwc, xit, xfc, xwt, xan, xlp, xpo, xpb, xwd, xwk, xnk, xco, xcb, xml, xme, xro, xow, xol, xla, xsh, xoe, xoh, xsr, xss, xse, xms, xfm, xfa, xfd, xcv, xcr) r) ∧ (∀ Q : SY → Prop, Q v' → wpY_end Q (ylim, ywa, ysk, ylo, yrn, ysp, yaw, yan, ywh, you, ymd, ygd, yop, yops, ybs, ysz, yex, yst, yow, yle, yel, yla, ysh, yro, yos, yoe, yoh, yor, yrw, ynx, ydp, ypl, ykd, ymt, ytd, yht) r) ∧ so_fi r (B + 1) u'' v' := by
  obtain ⟨ht, hfc, hrn, hya, hL, hP, hM, hO, hT, hW, hlo, htp⟩ := h
  obtain ⟨hm, hk, hd, hsz, hfm, hrw, hfa, hnx, hfd, hdp, hty, hcs⟩ := htp
  obtain ⟨ro, sh, oe, wt, yro', ysh', yel', yaw', hX, hY, hO', hT', hW'⟩ := re_fin (r := r) (xlim := xlim) (xpc := xpc) (xnd := xnd) (xwc := xwc) (xfc := xfc) (xan := 0) (xlp := nI (16 * m + k)) (xpo := xpo) (xpb := xpb) (xwd := xwd) (xwk := xwk) (xnk := xnk) (xco := xco) (xcb := xcb) (xml := xml) (xme := xme) (xoh := xoh) (xfm := xfm) (xfa := xfa) (xfd := xfd) (xcv := xcv) (xcr := xcr) (ylim := ylim) (ywa := ywa) (ysk := ysk) (ylo := ylo) (yrn := yrn) (ysp := ysp) (yan := yan) (ywh := ywh) (you := r) (ygd := ygd) (yops := yops) (ybs := ybs) (ysz := ysz) (yex := yex) (yrw := yrw) (ynx := ynx) (ydp := ydp) (ypl := ypl) (ykd := ykd) (ymt := ymt) (ytd := ytd) (yht := yht) hO hT hW
  subst hfc
  subst hrn
  have e0 : (nI t).toNatClampNeg = t := nI_clamp (by omega)
  have e1 : (nI (t + 1) - 1).toNatClampNeg = t := by rw [nI_pred]; exact e0
  have i1 : vp_in (nI (t + 1) - 1) 4 := by rw [nI_pred]; exact pk_in t 4 ht
  have hle : B ≤ B + 1 := by omega
  refine ⟨(xlim, xpc, xnd, xwc, 0, 0, wt, 0, nI (16 * m + k), xpo, xpb, xwd, xwk, xnk, xco, xcb, xml, xme, ro, xow, xol, xla, sh, oe, xoh, xsr, xss, xse, xms, xfm, xfa, xfd, xcv, xcr), (ylim, ywa, ysk, ylo, 0, ysp, yaw', yan, nI (16 * m + k), r, ymd, ygd, 0, yops, ybs, ysz, yex, yst, yow, yle, yel', yla, ysh', yro', yos, yoe, yoh, yor, yrw, ynx, ydp, ypl, ykd, ymt, ytd, yht), fun P hp => ?_, fun Q hq => ?_, ⟨rfl, rfl, rfl, rfl, hL, hP, hM, hO', re_T_up hT' hle, hW', hya.symm, rfl⟩⟩
  · exact br_f hr (nm_r (nI_pred t) ⟨pk_in t 4 ht, pk_in t 4 ht, nm_r (e' := nI (16 * m + k)) (by rw [e0, hfm, hfa, pr_16]) (hX P hp)⟩)
  · refine br_f hr ⟨i1, i1, ?_⟩
    rw [e1, hrw, hnx, pr_16]
    exact hY Q _ hq
/-- the failure of a step -/
theorem so_f {B t m k d l s : Nat} {f : Nat → Nat} {r : Int32} {oh : Nat → Int32} (hr : ¬ r = 0) (h : rr B t m k d f (nI l, xpc, xnd, xwc, xit, nI (t + 1), xwt, xan, xlp, xpo, xpb, xwd, xwk, xnk, xco, xcb, xml, xme, xro, xow, xol, xla, xsh, xoe, xoh, xsr, xss, xse, xms, xfm, xfa, xfd, xcv, xcr) (nI l, ywa, ysk, ylo, nI (t + 1), nI s, yaw, yan, ywh, you, ymd, ygd, yop, yops, ybs, ysz, yex, yst, yow, yle, yel, yla, ysh, yro, yos, yoe, yoh, yor, yrw, ynx, ydp, ypl, ykd, ymt, ytd, yht))
    (hX : ∀ P : Int32 → SX → Prop, P r (nI l, xpc, xnd, xwc, xit, nI (t + 1), xwt, xan, xlp, xpo, xpb, xwd, xwk, xnk, xco, xcb, xml, xme, xro, xow, xol, xla, xsh, xoe, oh, xsr, xss, xse, xms, xfm, xfa, xfd, xcv, xcr) → wpX_execute P (nI l, xpc, xnd, xwc, xit, nI (t + 1), xwt, xan, xlp, xpo, xpb, xwd, xwk, xnk, xco, xcb, xml, xme, xro, xow, xol, xla, xsh, xoe, xoh, xsr, xss, xse, xms, xfm, xfa, xfd, xcv, xcr))
    (hY : ∀ v', (∀ Q : SY → Prop, Q v' → wpY_end Q (nI l, ywa, ysk, ylo, nI (t + 1), nI (s + 1), yaw, yan, ywh, you, ymd, ygd, yop, yops, ybs, ysz, yex, yst, yow, yle, yel, yla, ysh, yro, yos, yoe, yoh, yor, yrw, ynx, ydp, ypl, ykd, ymt, ytd, yht) r) → ∀ Q : SY → Prop, Q v' → wpY_step Q (nI l, ywa, ysk, ylo, nI (t + 1), nI s, yaw, yan, ywh, you, ymd, ygd, yop, yops, ybs, ysz, yex, yst, yow, yle, yel, yla, ysh, yro, yos, yoe, yoh, yor, yrw, ynx, ydp, ypl, ykd, ymt, ytd, yht)) : so B l s (nI l, xpc, xnd, xwc, xit, nI (t + 1), xwt, xan, xlp, xpo, xpb, xwd, xwk, xnk, xco, xcb, xml, xme, xro, xow, xol, xla, xsh, xoe, xoh, xsr, xss, xse, xms, xfm, xfa, xfd, xcv, xcr) (nI l, ywa, ysk, ylo, nI (t + 1), nI s, yaw, yan, ywh, you, ymd, ygd, yop, yops, ybs, ysz, yex, yst, yow, yle, yel, yla, ysh, yro, yos, yoe, yoh, yor, yrw, ynx, ydp, ypl, ykd, ymt, ytd, yht) := by
  obtain ⟨ht, hfc, hrn, hya, hL, hP, hM, hO, hT, hW, hlo, htp⟩ := h
  have h' : rr B t m k d f (nI l, xpc, xnd, xwc, xit, nI (t + 1), xwt, xan, xlp, xpo, xpb, xwd, xwk, xnk, xco, xcb, xml, xme, xro, xow, xol, xla, xsh, xoe, oh, xsr, xss, xse, xms, xfm, xfa, xfd, xcv, xcr) (nI l, ywa, ysk, ylo, nI (t + 1), nI (s + 1), yaw, yan, ywh, you, ymd, ygd, yop, yops, ybs, ysz, yex, yst, yow, yle, yel, yla, ysh, yro, yos, yoe, yoh, yor, yrw, ynx, ydp, ypl, ykd, ymt, ytd, yht) := ⟨ht, rfl, rfl, hya, hL, hP, hM, hO, hT, hW, hlo, htp⟩
  obtain ⟨u'', v', h1, h2, h3⟩ := so_fail hr h'
  exact Or.inr ⟨r, (nI l, xpc, xnd, xwc, xit, nI (t + 1), xwt, xan, xlp, xpo, xpb, xwd, xwk, xnk, xco, xcb, xml, xme, xro, xow, xol, xla, xsh, xoe, oh, xsr, xss, xse, xms, xfm, xfa, xfd, xcv, xcr), u'', v', hX, Or.inl hr, rfl, h1, hY v' h2, h3⟩
/-! the top frame after a step -/
theorem so_top {t m k d k' d' : Nat} {f f' : Nat → Nat} {cv cr pl kd : Nat → Int32} (ht : t < 4) (hlo : rl_lo yops ybs ysz t xfm xfa xfd xcv xcr yrw ynx ydp ypl ykd) (htp : rl_tp yops ybs ysz t m k d f xfm xfa xfd xcv xcr yrw ynx ydp ypl ykd) (hk' : k' < 16) (hd' : d' ≤ 4) (hty : rl_ty yops ybs ysz m k' d' f')
    (hcs : rl_cs t d' f' cv cr pl kd) (h4 : ∀ i, i < 6 * t → cv i = xcv i) (h5 : ∀ i, i < 6 * t → cr i = xcr i) (h9 : ∀ i, i < 8 * t → pl i = ypl i) (h10 : ∀ i, i < 8 * t → kd i = ykd i) :
    rl_lo yops ybs ysz t xfm (upd xfa t (nI k')) (upd xfd t (nI d')) cv cr yrw (upd ynx t (nI k')) (upd ydp t (nI d')) pl kd ∧ rl_tp yops ybs ysz t m k' d' f' xfm (upd xfa t (nI k')) (upd xfd t (nI d')) cv cr yrw (upd ynx t (nI k')) (upd ydp t (nI d')) pl kd := by
  obtain ⟨hm, hk, hd, hsz, hfm, hrw, hfa, hnx, hfd, hdp, _, _⟩ := htp
  refine ⟨rl_lo_up hlo (fun _ _ => rfl) (fun g hg => pk_un (by omega)) (fun g hg => pk_un (by omega)) h4 h5 (fun _ _ => rfl) (fun g hg => pk_un (by omega)) (fun g hg => pk_un (by omega)) h9 h10, hm, hk', hd', hsz, hfm, hrw, pk_us, pk_us, pk_us, pk_us, hty, hcs⟩
/-- a cell is stored into -/
theorem so_topc {t m k d k' d' c v : Nat} {f : Nat → Nat} {xv xr yv yk : Int32} (ht : t < 4) (hlo : rl_lo yops ybs ysz t xfm xfa xfd xcv xcr yrw ynx ydp ypl ykd) (htp : rl_tp yops ybs ysz t m k d f xfm xfa xfd xcv xcr yrw ynx ydp ypl ykd) (hk' : k' < 16) (hd' : d' ≤ 4) (hty : rl_ty yops ybs ysz m k' d' (ck_un f c v)) (hc : rl_ce v xv xr yv yk) (hc6 : c < 6) (hj : ∀ j, j < d' + 2 → j ≠ c → j < d + 2) :
    rl_lo yops ybs ysz t xfm (upd xfa t (nI k')) (upd xfd t (nI d')) (upd xcv (6 * t + c) xv) (upd xcr (6 * t + c) xr) yrw (upd ynx t (nI k')) (upd ydp t (nI d')) (upd ypl (8 * t + c) yv) (upd ykd (8 * t + c) yk) ∧ rl_tp yops ybs ysz t m k' d' (ck_un f c v) xfm (upd xfa t (nI k')) (upd xfd t (nI d')) (upd xcv (6 * t + c) xv) (upd xcr (6 * t + c) xr) yrw (upd ynx t (nI k')) (upd ydp t (nI d')) (upd ypl (8 * t + c) yv) (upd ykd (8 * t + c) yk) :=
  so_top ht hlo htp hk' hd' hty (rl_cs_up htp.2.2.2.2.2.2.2.2.2.2.2 hc hc6 hd' hj) (fun i hi => pk_un (by omega)) (fun i hi => pk_un (by omega)) (fun i hi => pk_un (by omega)) (fun i hi => pk_un (by omega))
theorem so_topn {t m k d k' d' : Nat} {f : Nat → Nat} (ht : t < 4) (hlo : rl_lo yops ybs ysz t xfm xfa xfd xcv xcr yrw ynx ydp ypl ykd) (htp : rl_tp yops ybs ysz t m k d f xfm xfa xfd xcv xcr yrw ynx ydp ypl ykd) (hk' : k' < 16) (hd' : d' ≤ d) (hty : rl_ty yops ybs ysz m k' d' f) :
    rl_lo yops ybs ysz t xfm (upd xfa t (nI k')) (upd xfd t (nI d')) xcv xcr yrw (upd ynx t (nI k')) (upd ydp t (nI d')) ypl ykd ∧ rl_tp yops ybs ysz t m k' d' f xfm (upd xfa t (nI k')) (upd xfd t (nI d')) xcv xcr yrw (upd ynx t (nI k')) (upd ydp t (nI d')) ypl ykd :=
  so_top ht hlo htp hk' (by have := htp.2.2.1; omega) hty (rl_cs_dn htp.2.2.2.2.2.2.2.2.2.2.2 hd') (fun _ _ => rfl) (fun _ _ => rfl) (fun _ _ => rfl) (fun _ _ => rfl)
theorem so_same {a : Nat → Int32} {t : Nat} {x : Int32} (h : a t = x) : upd a t x = a := by
  funext i
  by_cases e : i = t
  · rw [e, pk_us, h]
  · exact pk_un e
/-! the instruction that is due -/
theorem so_at {t m k d : Nat} {f : Nat → Nat} (ht : t < 4) (hM : rl_M xco xcb xml xme yops ybs ysz yex) (htp : rl_tp yops ybs ysz t m k d f xfm xfa xfd xcv xcr yrw ynx ydp ypl ykd) :
    ∃ o b n, o < 25 ∧ n ≤ 16 ∧ k < n ∧ b = (ybs (16 * m + k)).toNatClampNeg ∧ re_H xfm xfa xco xcb t m k o (ybs (16 * m + k)) ∧ re_S yrw ynx yops ybs t m k o (ybs (16 * m + k)) ∧ rl_fb o (ybs (16 * m + k)) n ∧ ck_os (ck_pg o b) d f ∧ ((o = 7 ∨ o = 8) → b < 16 ∧ ybs (16 * m + k) = nI b ∧ rl_ty yops ybs ysz m b (ck_rd (ck_pg o b) d) (ck_rk (ck_pg o b) d f)) ∧ ((o ≠ 7 ∧ o ≠ 19) → k + 1 < 16 ∧ rl_ty yops ybs ysz m (k + 1) (ck_rd (ck_pg o b) d) (ck_rk (ck_pg o b) d f)) := by
  obtain ⟨hm, hk, hd, hsz, hfm, hrw, hfa, hnx, hfd, hdp, hty, hcs⟩ := htp
  obtain ⟨n, hn, hml, hyz, hme, hex, hco, hcd⟩ := hM m hm
  have hn0 : 0 < n := by
    rw [hyz, nI_clamp (by omega)] at hsz
    exact hsz
  obtain ⟨_, hc2, _⟩ := hcd hn0
  have hz : (ysz m).toNatClampNeg = n := by rw [hyz]; exact nI_clamp (by omega)
  obtain ⟨s1, s2, s3, s4⟩ := ck_ty_s hty
  rw [hz] at s1
  obtain ⟨o, ho, eo, hfb⟩ := hc2 k s1
  have eo' : rl_nn yops m k = o := by
    unfold rl_nn
    rw [eo]
    exact nI_clamp (by omega)
  rw [eo'] at s2 s3 s4
  refine ⟨o, rl_nn ybs m k, n, ho, hn, s1, rfl, ⟨ht, hm, hk, hfm, hfa, by rw [(hco k s1).1, eo], (hco k s1).2⟩, ⟨ht, hm, hk, hrw, hnx, eo, rfl⟩, hfb, s2, fun z => ?_, fun z => ?_⟩
  · obtain ⟨e1, e2⟩ := hfb.2.2.1 z
    obtain ⟨j, hj, e⟩ := nI_of (x := ybs (16 * m + k)) (Int32.not_lt.mpr e1)
    have hj2 : j < n := by
      rw [e] at e2
      exact (nI_ltI hj (by omega)).mp e2
    have e3 : rl_nn ybs m k = j := by
      unfold rl_nn
      rw [e]
      exact nI_clamp hj
    refine ⟨by omega, by rw [e3]; exact e, s3 z⟩
  · have := (ck_ty_s (s4 z)).1
    rw [hz] at this
    exact ⟨by omega, s4 z⟩
end SO
end
section
/-! THE COMPONENT'S INSTRUCTIONS -/
section XO
variable {xlim xpc xnd xwc xit xfc xwt xan xlp : Int32}
variable {xpo xpb xwd xwk xnk xco xcb xml xme xro xow xol xla xsh xoe xoh xsr xss xse xms xfm xfa xfd xcv xcr : Nat → Int32}
variable {t d l : Nat}
theorem xo_0 (P : SX → Prop) {v : Int32} (ht : t < 4) (hd : xfd t = nI d) (h4 : d < 4) (h : P (nI l, xpc, xnd, xwc, xit, nI (t + 1), xwt, xan, xlp, xpo, xpb, xwd, xwk, xnk, xco, xcb, xml, xme, xro, xow, xol, xla, xsh, xoe, xoh, xsr, xss, xse, xms, xfm, xfa, upd xfd t (nI (d + 1)), upd xcv (6 * t + (d + 2)) v, upd xcr (6 * t + (d + 2)) 0)) : wpX_perform P (nI l, xpc, xnd, xwc, xit, nI (t + 1), xwt, xan, xlp, xpo, xpb, xwd, xwk, xnk, xco, xcb, xml, xme, xro, xow, xol, xla, xsh, xoe, xoh, xsr, xss, xse, xms, xfm, xfa, xfd, xcv, xcr) 0 v :=
  br_f (by decide) <| br_f (by decide) <| br_t rfl <|  pr_xpush _ ht hd h4 (Or.inl rfl) h
theorem xo_17 (P : SX → Prop) {v : Int32} (ht : t < 4) (hd : xfd t = nI d) (h4 : d < 4) (h : P (nI l, xpc, xnd, xwc, xit, nI (t + 1), xwt, xan, xlp, xpo, xpb, xwd, xwk, xnk, xco, xcb, xml, xme, xro, xow, xol, xla, xsh, xoe, xoh, xsr, xss, xse, xms, xfm, xfa, upd xfd t (nI (d + 1)), upd xcv (6 * t + (d + 2)) 0, upd xcr (6 * t + (d + 2)) 1)) : wpX_perform P (nI l, xpc, xnd, xwc, xit, nI (t + 1), xwt, xan, xlp, xpo, xpb, xwd, xwk, xnk, xco, xcb, xml, xme, xro, xow, xol, xla, xsh, xoe, xoh, xsr, xss, xse, xms, xfm, xfa, xfd, xcv, xcr) 17 v :=
  br_f (by decide) <| br_f (by decide) <| br_f (by decide) <| br_f (by decide) <| br_f (by decide) <| br_f (by decide) <| br_f (by decide) <| br_f (by decide) <| br_f (by decide) <| br_f (by decide) <| br_f (by decide) <| br_f (by decide) <| br_f (by decide) <| br_f (by decide) <| br_f (by decide) <| br_f (by decide) <| br_f (by decide) <| br_f (by decide) <| br_f (by decide) <| br_t rfl <|  pr_xpush _ ht hd h4 (Or.inr rfl) h
theorem xo_1 (P : SX → Prop) {b : Nat} (ht : t < 4) (hd : xfd t = nI d) (h4 : d < 4) (hb : b ≤ 1) (hr : rl_b (xcr (6 * t + b))) (h : P (nI l, xpc, xnd, xwc, xit, nI (t + 1), xwt, xan, xlp, xpo, xpb, xwd, xwk, xnk, xco, xcb, xml, xme, xro, xow, xol, xla, xsh, xoe, xoh, xsr, xss, xse, xms, xfm, xfa, upd xfd t (nI (d + 1)), upd xcv (6 * t + (d + 2)) (xcv (6 * t + b)), upd xcr (6 * t + (d + 2)) (xcr (6 * t + b)))) : wpX_perform P (nI l, xpc, xnd, xwc, xit, nI (t + 1), xwt, xan, xlp, xpo, xpb, xwd, xwk, xnk, xco, xcb, xml, xme, xro, xow, xol, xla, xsh, xoe, xoh, xsr, xss, xse, xms, xfm, xfa, xfd, xcv, xcr) 1 (nI b) := by
  have e1 : (6 : Int32) * (nI (t + 1) - 1) + nI b = nI (6 * t + b) := by rw [nI_pred, pr_6b]
  have v1 : vp_in (nI (6 * t + b)) 24 := vp_in_nI (by omega) (by omega)
  refine br_f (by decide) <| br_f (by decide) <| br_f (by decide) <| br_t rfl <|  nm_r e1 ⟨v1, v1, ?_⟩
  rw [nI_clamp (by omega)]
  exact pr_xpush _ ht hd h4 hr h
theorem xo_2 (P : SX → Prop) {b : Nat} (ht : t < 4) (hd : xfd t = nI (d + 1)) (h4 : d < 4) (hb : b ≤ 1) (hr : rl_b (xcr (6 * t + (d + 2)))) (h : P (nI l, xpc, xnd, xwc, xit, nI (t + 1), xwt, xan, xlp, xpo, xpb, xwd, xwk, xnk, xco, xcb, xml, xme, xro, xow, xol, xla, xsh, xoe, xoh, xsr, xss, xse, xms, xfm, xfa, upd xfd t (nI d), upd xcv (6 * t + b) (xcv (6 * t + (d + 2))), upd xcr (6 * t + b) (xcr (6 * t + (d + 2))))) : wpX_perform P (nI l, xpc, xnd, xwc, xit, nI (t + 1), xwt, xan, xlp, xpo, xpb, xwd, xwk, xnk, xco, xcb, xml, xme, xro, xow, xol, xla, xsh, xoe, xoh, xsr, xss, xse, xms, xfm, xfa, xfd, xcv, xcr) 2 (nI b) := by
  have e0 : (nI t).toNatClampNeg = t := nI_clamp (by omega)
  have e1 : (6 : Int32) * nI t + nI b = nI (6 * t + b) := pr_6b t b
  have e2 : (nI (6 * t + b)).toNatClampNeg = 6 * t + b := nI_clamp (by omega)
  have e3 : (nI (6 * t + (d + 2))).toNatClampNeg = 6 * t + (d + 2) := nI_clamp (by omega)
  have v1 : vp_in ((6 : Int32) * nI t + nI b) 24 := by rw [e1]; exact vp_in_nI (by omega) (by omega)
  have v2 : vp_in (nI (6 * t + (d + 2))) 24 := vp_in_nI (by omega) (by omega)
  exact br_f (by decide) <| br_f (by decide) <| br_f (by decide) <| br_f (by decide) <| br_t rfl <|  nm_r (nI_pred t) ⟨pk_in t 4 ht, pk_in t 4 ht, nm_r (e' := upd xfd t (nI d)) (by rw [e0, hd, nI_pred]) ⟨pk_in t 4 ht, nm_r (e' := nI (6 * t + (d + 2))) (by rw [e0, pk_us, pr_6]) ⟨v2, v1, nm_r (by rw [e1, e2, e3]) ⟨v2, v1, nm_r (by rw [e1, e2, e3, rl_b_n hr]) h⟩⟩⟩⟩
theorem xo_3 (P : SX → Prop) {v : Int32} (ht : t < 4) (hd : xfd t = nI (d + 2)) (h4 : d < 3) (h : P (nI l, xpc, xnd, xwc, xit, nI (t + 1), xwt, xan, xlp, xpo, xpb, xwd, xwk, xnk, xco, xcb, xml, xme, xro, xow, xol, xla, xsh, xoe, xoh, xsr, xss, xse, xms, xfm, xfa, upd xfd t (nI (d + 1)), upd xcv (6 * t + (d + 2)) ((xcv (6 * t + (d + 2)) + xcv (6 * t + (d + 3))).toInt16.toInt32), upd xcr (6 * t + (d + 2)) 0)) : wpX_perform P (nI l, xpc, xnd, xwc, xit, nI (t + 1), xwt, xan, xlp, xpo, xpb, xwd, xwk, xnk, xco, xcb, xml, xme, xro, xow, xol, xla, xsh, xoe, xoh, xsr, xss, xse, xms, xfm, xfa, xfd, xcv, xcr) 3 v := by
  refine br_f (by decide) <| br_f (by decide) <| br_f (by decide) <| br_f (by decide) <| br_f (by decide) <| br_t rfl <|  ?_
  unfold wX_perform_175 wpX_calculate
  refine pr_xpop _ ht hd (by omega) (pr_xpop _ (d := d) ht pk_us (by omega) ?_)
  refine br_f (by decide) <| br_f (by decide) <| br_t rfl <|  nm_e (pr_xpush _ (d := d) ht pk_us (by omega) (Or.inl rfl) ?_)
  rw [rl_uu, rl_uu]
  exact h
theorem xo_4 (P : SX → Prop) {v : Int32} (ht : t < 4) (hd : xfd t = nI (d + 2)) (h4 : d < 3) (h : P (nI l, xpc, xnd, xwc, xit, nI (t + 1), xwt, xan, xlp, xpo, xpb, xwd, xwk, xnk, xco, xcb, xml, xme, xro, xow, xol, xla, xsh, xoe, xoh, xsr, xss, xse, xms, xfm, xfa, upd xfd t (nI (d + 1)), upd xcv (6 * t + (d + 2)) ((xcv (6 * t + (d + 2)) - xcv (6 * t + (d + 3))).toInt16.toInt32), upd xcr (6 * t + (d + 2)) 0)) : wpX_perform P (nI l, xpc, xnd, xwc, xit, nI (t + 1), xwt, xan, xlp, xpo, xpb, xwd, xwk, xnk, xco, xcb, xml, xme, xro, xow, xol, xla, xsh, xoe, xoh, xsr, xss, xse, xms, xfm, xfa, xfd, xcv, xcr) 4 v := by
  refine br_f (by decide) <| br_f (by decide) <| br_f (by decide) <| br_f (by decide) <| br_f (by decide) <| br_f (by decide) <| br_t rfl <|  ?_
  unfold wX_perform_175 wpX_calculate
  refine pr_xpop _ ht hd (by omega) (pr_xpop _ (d := d) ht pk_us (by omega) ?_)
  refine br_f (by decide) <| br_f (by decide) <| br_f (by decide) <| br_t rfl <|  nm_e (pr_xpush _ (d := d) ht pk_us (by omega) (Or.inl rfl) ?_)
  rw [rl_uu, rl_uu]
  exact h
theorem xo_5 (P : SX → Prop) {v : Int32} (ht : t < 4) (hd : xfd t = nI (d + 2)) (h4 : d < 3) (h : P (nI l, xpc, xnd, xwc, xit, nI (t + 1), xwt, xan, xlp, xpo, xpb, xwd, xwk, xnk, xco, xcb, xml, xme, xro, xow, xol, xla, xsh, xoe, xoh, xsr, xss, xse, xms, xfm, xfa, upd xfd t (nI (d + 1)), upd xcv (6 * t + (d + 2)) ((xcv (6 * t + (d + 2)) * xcv (6 * t + (d + 3))).toInt16.toInt32), upd xcr (6 * t + (d + 2)) 0)) : wpX_perform P (nI l, xpc, xnd, xwc, xit, nI (t + 1), xwt, xan, xlp, xpo, xpb, xwd, xwk, xnk, xco, xcb, xml, xme, xro, xow, xol, xla, xsh, xoe, xoh, xsr, xss, xse, xms, xfm, xfa, xfd, xcv, xcr) 5 v := by
  refine br_f (by decide) <| br_f (by decide) <| br_f (by decide) <| br_f (by decide) <| br_f (by decide) <| br_f (by decide) <| br_f (by decide) <| br_t rfl <|  ?_
  unfold wX_perform_175 wpX_calculate
  refine pr_xpop _ ht hd (by omega) (pr_xpop _ (d := d) ht pk_us (by omega) ?_)
  refine br_f (by decide) <| br_f (by decide) <| br_f (by decide) <| br_f (by decide) <| br_t rfl <|  nm_e (pr_xpush _ (d := d) ht pk_us (by omega) (Or.inl rfl) ?_)
  rw [rl_uu, rl_uu]
  exact h
theorem xo_6 (P : SX → Prop) {v : Int32} (ht : t < 4) (hd : xfd t = nI (d + 2)) (h4 : d < 3) (h : P (nI l, xpc, xnd, xwc, xit, nI (t + 1), xwt, xan, xlp, xpo, xpb, xwd, xwk, xnk, xco, xcb, xml, xme, xro, xow, xol, xla, xsh, xoe, xoh, xsr, xss, xse, xms, xfm, xfa, upd xfd t (nI (d + 1)), upd xcv (6 * t + (d + 2)) (if xcv (6 * t + (d + 3)) ≤ xcv (6 * t + (d + 2)) then 0 else 1), upd xcr (6 * t + (d + 2)) 0)) : wpX_perform P (nI l, xpc, xnd, xwc, xit, nI (t + 1), xwt, xan, xlp, xpo, xpb, xwd, xwk, xnk, xco, xcb, xml, xme, xro, xow, xol, xla, xsh, xoe, xoh, xsr, xss, xse, xms, xfm, xfa, xfd, xcv, xcr) 6 v := by
  refine br_f (by decide) <| br_f (by decide) <| br_f (by decide) <| br_f (by decide) <| br_f (by decide) <| br_f (by decide) <| br_f (by decide) <| br_f (by decide) <| br_t rfl <|  ?_
  unfold wX_perform_175 wpX_calculate
  refine pr_xpop _ ht hd (by omega) (pr_xpop _ (d := d) ht pk_us (by omega) ?_)
  refine br_f (by decide) <| br_t (by decide) <| br_c (fun z => pr_xpush _ (d := d) ht pk_us (by omega) (Or.inl rfl) ?_) (fun z => pr_xpush _ (d := d) ht pk_us (by omega) (Or.inl rfl) ?_)
  · rw [rl_uu, rl_uu]
    rw [if_pos z] at h
    exact h
  · rw [rl_uu, rl_uu]
    rw [if_neg z] at h
    exact h
theorem xo_7 (P : SX → Prop) {v : Int32} (ht : t < 4) (h : P (nI l, xpc, xnd, xwc, xit, nI (t + 1), xwt, xan, xlp, xpo, xpb, xwd, xwk, xnk, xco, xcb, xml, xme, xro, xow, xol, xla, xsh, xoe, xoh, xsr, xss, xse, xms, xfm, upd xfa t v, xfd, xcv, xcr)) : wpX_perform P (nI l, xpc, xnd, xwc, xit, nI (t + 1), xwt, xan, xlp, xpo, xpb, xwd, xwk, xnk, xco, xcb, xml, xme, xro, xow, xol, xla, xsh, xoe, xoh, xsr, xss, xse, xms, xfm, xfa, xfd, xcv, xcr) 7 v := by
  have e1 : (nI (t + 1) - 1).toNatClampNeg = t := by rw [nI_pred]; exact nI_clamp (by omega)
  have i1 : vp_in (nI (t + 1) - 1) 4 := by rw [nI_pred]; exact pk_in t 4 ht
  exact br_f (by decide) <| br_f (by decide) <| br_f (by decide) <| br_f (by decide) <| br_f (by decide) <| br_f (by decide) <| br_f (by decide) <| br_f (by decide) <| br_f (by decide) <| br_t rfl <|  br_t rfl ⟨i1, nm_r (by rw [e1]) h⟩
theorem xo_8 (P : SX → Prop) {v : Int32} (ht : t < 4) (hd : xfd t = nI (d + 1)) (h4 : d < 4) (h0 : xcv (6 * t + (d + 2)) = 0 → P (nI l, xpc, xnd, xwc, xit, nI (t + 1), xwt, xan, xlp, xpo, xpb, xwd, xwk, xnk, xco, xcb, xml, xme, xro, xow, xol, xla, xsh, xoe, xoh, xsr, xss, xse, xms, xfm, upd xfa t v, upd xfd t (nI d), xcv, xcr)) (h1 : ¬ xcv (6 * t + (d + 2)) = 0 → P (nI l, xpc, xnd, xwc, xit, nI (t + 1), xwt, xan, xlp, xpo, xpb, xwd, xwk, xnk, xco, xcb, xml, xme, xro, xow, xol, xla, xsh, xoe, xoh, xsr, xss, xse, xms, xfm, xfa, upd xfd t (nI d), xcv, xcr)) : wpX_perform P (nI l, xpc, xnd, xwc, xit, nI (t + 1), xwt, xan, xlp, xpo, xpb, xwd, xwk, xnk, xco, xcb, xml, xme, xro, xow, xol, xla, xsh, xoe, xoh, xsr, xss, xse, xms, xfm, xfa, xfd, xcv, xcr) 8 v := by
  have e1 : (nI (t + 1) - 1).toNatClampNeg = t := by rw [nI_pred]; exact nI_clamp (by omega)
  have i1 : vp_in (nI (t + 1) - 1) 4 := by rw [nI_pred]; exact pk_in t 4 ht
  exact br_f (by decide) <| br_f (by decide) <| br_f (by decide) <| br_f (by decide) <| br_f (by decide) <| br_f (by decide) <| br_f (by decide) <| br_f (by decide) <| br_f (by decide) <| br_f (by decide) <| br_t rfl <|  br_f (by decide) (pr_xpop _ ht hd h4 (br_c (fun z => ⟨i1, nm_r (by rw [e1]) (h0 z)⟩) h1))
theorem xo_20 (P : SX → Prop) {v : Int32} (ht : t < 4) (hd : xfd t = nI (d + 1)) (h4 : d < 3) (hr : rl_b (xcr (6 * t + (d + 2)))) (h : P (nI l, xpc, xnd, xwc, xit, nI (t + 1), xwt, xan, xlp, xpo, xpb, xwd, xwk, xnk, xco, xcb, xml, xme, xro, xow, xol, xla, xsh, xoe, xoh, xsr, xss, xse, xms, xfm, xfa, upd xfd t (nI (d + 2)), upd xcv (6 * t + (d + 3)) (xcv (6 * t + (d + 2))), upd xcr (6 * t + (d + 3)) (xcr (6 * t + (d + 2))))) : wpX_perform P (nI l, xpc, xnd, xwc, xit, nI (t + 1), xwt, xan, xlp, xpo, xpb, xwd, xwk, xnk, xco, xcb, xml, xme, xro, xow, xol, xla, xsh, xoe, xoh, xsr, xss, xse, xms, xfm, xfa, xfd, xcv, xcr) 20 v := by
  have e0 : (nI t).toNatClampNeg = t := nI_clamp (by omega)
  have e1 : (6 : Int32) * nI t + 2 + xfd (nI t).toNatClampNeg - 1 = nI (6 * t + (d + 2)) := by
    rw [e0, hd, pr_6]
    exact nI_pred _
  have v2 : vp_in (nI (6 * t + (d + 2))) 24 := vp_in_nI (by omega) (by omega)
  refine br_f (by decide) <| br_f (by decide) <| br_f (by decide) <| br_f (by decide) <| br_f (by decide) <| br_f (by decide) <| br_f (by decide) <| br_f (by decide) <| br_f (by decide) <| br_f (by decide) <| br_f (by decide) <| br_f (by decide) <| br_f (by decide) <| br_f (by decide) <| br_f (by decide) <| br_f (by decide) <| br_f (by decide) <| br_f (by decide) <| br_f (by decide) <| br_f (by decide) <| br_f (by decide) <| br_f (by decide) <| br_t rfl <|  nm_r (nI_pred t) ⟨pk_in t 4 ht, nm_r e1 ⟨v2, v2, ?_⟩⟩
  rw [nI_clamp (by omega)]
  exact pr_xpush _ ht hd (by omega) hr h
theorem xo_21 (P : SX → Prop) {v : Int32} (ht : t < 4) (hd : xfd t = nI (d + 1)) (h : P (nI l, xpc, xnd, xwc, xit, nI (t + 1), xwt, xan, xlp, xpo, xpb, xwd, xwk, xnk, xco, xcb, xml, xme, xro, xow, xol, xla, xsh, xoe, xoh, xsr, xss, xse, xms, xfm, xfa, upd xfd t (nI d), xcv, xcr)) : wpX_perform P (nI l, xpc, xnd, xwc, xit, nI (t + 1), xwt, xan, xlp, xpo, xpb, xwd, xwk, xnk, xco, xcb, xml, xme, xro, xow, xol, xla, xsh, xoe, xoh, xsr, xss, xse, xms, xfm, xfa, xfd, xcv, xcr) 21 v := by
  have e1 : (nI (t + 1) - 1).toNatClampNeg = t := by rw [nI_pred]; exact nI_clamp (by omega)
  have i1 : vp_in (nI (t + 1) - 1) 4 := by rw [nI_pred]; exact pk_in t 4 ht
  exact br_f (by decide) <| br_f (by decide) <| br_f (by decide) <| br_f (by decide) <| br_f (by decide) <| br_f (by decide) <| br_f (by decide) <| br_f (by decide) <| br_f (by decide) <| br_f (by decide) <| br_f (by decide) <| br_f (by decide) <| br_f (by decide) <| br_f (by decide) <| br_f (by decide) <| br_f (by decide) <| br_f (by decide) <| br_f (by decide) <| br_f (by decide) <| br_f (by decide) <| br_f (by decide) <| br_f (by decide) <| br_f (by decide) <| br_t rfl <|  ⟨i1, i1, nm_r (by rw [e1, hd, nI_pred]) h⟩
theorem xo_call (P : SX → Prop) {m : Nat} (ht : t < 3) (hd : xfd t = nI (d + 1)) (h4 : d < 4) (h : P (nI l, xpc, xnd, xwc, xit, nI (t + 2), xwt, xan, xlp, xpo, xpb, xwd, xwk, xnk, xco, xcb, xml, xme, xro, xow, xol, xla, xsh, xoe, xoh, xsr, xss, xse, xms, upd xfm (t + 1) (nI m), upd xfa (t + 1) 0, upd (upd xfd t (nI d)) (t + 1) 0, upd xcv (6 * (t + 1)) (xcv (6 * t + (d + 2))), upd (upd xcr (6 * (t + 1)) 0) (6 * (t + 1) + 1) 0)) : wpX_perform P (nI l, xpc, xnd, xwc, xit, nI (t + 1), xwt, xan, xlp, xpo, xpb, xwd, xwk, xnk, xco, xcb, xml, xme, xro, xow, xol, xla, xsh, xoe, xoh, xsr, xss, xse, xms, xfm, xfa, xfd, xcv, xcr) 18 (nI m) := by
  refine br_f (by decide) <| br_f (by decide) <| br_f (by decide) <| br_f (by decide) <| br_f (by decide) <| br_f (by decide) <| br_f (by decide) <| br_f (by decide) <| br_f (by decide) <| br_f (by decide) <| br_f (by decide) <| br_f (by decide) <| br_f (by decide) <| br_f (by decide) <| br_f (by decide) <| br_f (by decide) <| br_f (by decide) <| br_f (by decide) <| br_f (by decide) <| br_f (by decide) <| br_t rfl <|  ?_
  unfold wpX_call
  exact pr_xpop _ (by omega) hd h4 (pr_enter _ (by omega) h)
theorem xo_leave0 (P : SX → Prop) {v : Int32} (hd : xfd 0 = nI (d + 1)) (h4 : d < 4) (h : P (nI l, xpc, xnd, xwc, xit, 0, xwt, xcv (d + 2), xlp, xpo, xpb, xwd, xwk, xnk, xco, xcb, xml, xme, xro, xow, xol, xla, xsh, xoe, xoh, xsr, xss, xse, xms, xfm, xfa, upd xfd 0 (nI d), xcv, xcr)) : wpX_perform P (nI l, xpc, xnd, xwc, xit, nI 1, xwt, xan, xlp, xpo, xpb, xwd, xwk, xnk, xco, xcb, xml, xme, xro, xow, xol, xla, xsh, xoe, xoh, xsr, xss, xse, xms, xfm, xfa, xfd, xcv, xcr) 19 v := by
  refine br_f (by decide) <| br_f (by decide) <| br_f (by decide) <| br_f (by decide) <| br_f (by decide) <| br_f (by decide) <| br_f (by decide) <| br_f (by decide) <| br_f (by decide) <| br_f (by decide) <| br_f (by decide) <| br_f (by decide) <| br_f (by decide) <| br_f (by decide) <| br_f (by decide) <| br_f (by decide) <| br_f (by decide) <| br_f (by decide) <| br_f (by decide) <| br_f (by decide) <| br_f (by decide) <| br_t rfl <|  ?_
  unfold wpX_leave
  have e : 6 * 0 + (d + 2) = d + 2 := by omega
  refine pr_xpop _ (t := 0) (by omega) hd h4 (nm_r (nI_pred 0) (br_t (by decide) ?_))
  rw [e]
  exact h
theorem xo_leave (P : SX → Prop) {v : Int32} {d' : Nat} (ht : t < 3) (hd : xfd (t + 1) = nI (d + 1)) (h4 : d < 4) (hd' : xfd t = nI d') (h4' : d' < 4) (h : P (nI l, xpc, xnd, xwc, xit, nI (t + 1), xwt, xan, xlp, xpo, xpb, xwd, xwk, xnk, xco, xcb, xml, xme, xro, xow, xol, xla, xsh, xoe, xoh, xsr, xss, xse, xms, xfm, xfa, upd (upd xfd (t + 1) (nI d)) t (nI (d' + 1)), upd xcv (6 * t + (d' + 2)) (xcv (6 * (t + 1) + (d + 2))), upd xcr (6 * t + (d' + 2)) 0)) : wpX_perform P (nI l, xpc, xnd, xwc, xit, nI (t + 2), xwt, xan, xlp, xpo, xpb, xwd, xwk, xnk, xco, xcb, xml, xme, xro, xow, xol, xla, xsh, xoe, xoh, xsr, xss, xse, xms, xfm, xfa, xfd, xcv, xcr) 19 v := by
  refine br_f (by decide) <| br_f (by decide) <| br_f (by decide) <| br_f (by decide) <| br_f (by decide) <| br_f (by decide) <| br_f (by decide) <| br_f (by decide) <| br_f (by decide) <| br_f (by decide) <| br_f (by decide) <| br_f (by decide) <| br_f (by decide) <| br_f (by decide) <| br_f (by decide) <| br_f (by decide) <| br_f (by decide) <| br_f (by decide) <| br_f (by decide) <| br_f (by decide) <| br_f (by decide) <| br_t rfl <|  ?_
  unfold wpX_leave
  refine pr_xpop _ (t := t + 1) (by omega) hd h4 (nm_r (nI_pred (t + 1)) (br_f (nI_nle (by omega) (by omega)) ?_))
  exact pr_xpush _ (by omega) (by rw [pk_un (by omega)]; exact hd') h4' (Or.inl rfl) h
/-! on objects -/
theorem xo_9 (P : SX → Prop) {m b : Nat} (ht : t < 4) (hm : xfm t = nI m) (hm6 : m < 6) (hd : xfd t = nI d) (h4 : d < 4) (hb : b ≤ 1) (h : P (nI l, xpc, xnd, xwc, xit, nI (t + 1), xwt, xan, xlp, xpo, xpb, xwd, xwk, xnk, xco, xcb, xml, xme, xro, xow, xol, xla, xsh, xoe, xoh, xsr, xss, xse, xms, xfm, xfa, upd xfd t (nI (d + 1)), upd xcv (6 * t + (d + 2)) (xro (2 * (m / 2) + b)), upd xcr (6 * t + (d + 2)) 1)) : wpX_performOnObjects P (nI l, xpc, xnd, xwc, xit, nI (t + 1), xwt, xan, xlp, xpo, xpb, xwd, xwk, xnk, xco, xcb, xml, xme, xro, xow, xol, xla, xsh, xoe, xoh, xsr, xss, xse, xms, xfm, xfa, xfd, xcv, xcr) 9 (nI b) := by
  refine br_f (by decide) <| br_f (by decide) <| br_t rfl <|  ?_
  unfold wpX_pushOwnRoot
  refine pr_own _ ht hm hm6 (nm_r (pr_2b _ _) ⟨vp_in_nI (by omega) (by omega), ?_⟩)
  rw [nI_clamp (by omega)]
  exact pr_xpush _ ht hd h4 (Or.inr rfl) h
theorem xo_10 (P : SX → Prop) {m b : Nat} (ht : t < 4) (hm : xfm t = nI m) (hm6 : m < 6) (hd : xfd t = nI (d + 1)) (h4 : d < 4) (hb : b ≤ 1) (h : P (nI l, xpc, xnd, xwc, xit, nI (t + 1), xwt, xan, xlp, xpo, xpb, xwd, xwk, xnk, xco, xcb, xml, xme, upd xro (2 * (m / 2) + b) (xcv (6 * t + (d + 2))), xow, xol, xla, xsh, xoe, xoh, xsr, xss, xse, xms, xfm, xfa, upd xfd t (nI d), xcv, xcr)) : wpX_performOnObjects P (nI l, xpc, xnd, xwc, xit, nI (t + 1), xwt, xan, xlp, xpo, xpb, xwd, xwk, xnk, xco, xcb, xml, xme, xro, xow, xol, xla, xsh, xoe, xoh, xsr, xss, xse, xms, xfm, xfa, xfd, xcv, xcr) 10 (nI b) := by
  have e : (2 : Int32) * nI (m / 2) + nI b = nI (2 * (m / 2) + b) := pr_2b _ _
  refine br_f (by decide) <| br_f (by decide) <| br_f (by decide) <| br_t rfl <|  pr_own _ ht hm hm6 (pr_xpop _ ht hd h4 ⟨by rw [e]; exact vp_in_nI (by omega) (by omega), nm_r (by rw [e, nI_clamp (by omega)]) h⟩)
theorem xo_11 (P : SX → Prop) {m q : Nat} {B z : Int32} (ht : t < 4) (hm : xfm t = nI m) (hm6 : m < 6) (hd : xfd t = nI (d + 1)) (h4 : d < 4) (hq : q < 8) (hb : ∀ o, o < q → ¬ xoh (o + 1) = 0) (h0 : q = 7 ∨ xoh (q + 1) = 0) (hz : (B = 0 ∧ z = 1) ∨ (¬ B = 0 ∧ z = 0))
    (h : P (nI l, xpc, xnd, xwc, xit, nI (t + 1), xwt, xan, xlp, xpo, xpb, xwd, xwk, xnk, xco, xcb, xml, xme, xro, upd xow (q + 1) (nI (m / 2)), upd xol (q + 1) (xcv (6 * t + (d + 2))), upd xla (q + 1) z, upd xsh (q + 1) 0, lo_f (fun _ => 0) (4 * (q + 1)) (4 * (q + 1) + 4) xoe, xoh, xsr, xss, xse, upd xms (q + 1) 1, xfm, xfa, upd xfd t (nI (d + 1)), upd xcv (6 * t + (d + 2)) (nI (q + 1)), upd xcr (6 * t + (d + 2)) 1)) : wpX_performOnObjects P (nI l, xpc, xnd, xwc, xit, nI (t + 1), xwt, xan, xlp, xpo, xpb, xwd, xwk, xnk, xco, xcb, xml, xme, xro, xow, xol, xla, xsh, xoe, xoh, xsr, xss, xse, xms, xfm, xfa, xfd, xcv, xcr) 11 B := by
  have hzb : rl_b z := by
    rcases hz with ⟨_, rfl⟩ | ⟨_, rfl⟩
    · exact Or.inr rfl
    · exact Or.inl rfl
  have e2 : (nI (q + 1)).toNatClampNeg = q + 1 := nI_clamp (by omega)
  have v2 : vp_in (nI (q + 1)) 9 := vp_in_nI (by omega) (by omega)
  have mk : wX_performOnObjects_100 P z (nI l) xpc xnd xwc xit (nI (t + 1)) xwt xan xlp xpo xpb xwd xwk xnk xco xcb xml xme xro xow xol xla xsh xoe xoh xsr xss xse xms xfm xfa xfd xcv xcr := by
    unfold wX_performOnObjects_100 wpX_makeObject
    refine pr_xpop _ ht hd h4 (he_first _ hq hb h0 (pr_own _ ht hm hm6 ⟨v2, nm_r (by rw [e2]) ⟨v2, nm_r (by rw [e2]) ⟨v2, nm_r (by rw [e2, rl_b_n hzb]) ⟨v2, nm_r (by rw [e2, he_b0]) ⟨v2, nm_r (by rw [e2, he_b1]) (lo_clear _ (by omega) (pr_xpush _ (d := d) ht pk_us h4 (Or.inr rfl) ?_))⟩⟩⟩⟩⟩))
    rw [rl_uu]
    exact h
  rcases hz with ⟨z1, rfl⟩ | ⟨z1, rfl⟩
  · exact br_f (by decide) <| br_f (by decide) <| br_f (by decide) <| br_f (by decide) <| br_t rfl <|  br_t z1 mk
  · exact br_f (by decide) <| br_f (by decide) <| br_f (by decide) <| br_f (by decide) <| br_t rfl <|  br_f z1 mk
theorem xo_12 (P : SX → Prop) {B : Int32} {o i : Nat} (ht : t < 4) (hd : xfd t = nI (d + 2)) (h4 : d < 3) (ho : xcv (6 * t + (d + 2)) = nI o) (hi : xcv (6 * t + (d + 3)) = nI i) (ho8 : o ≤ 8) (hi4 : i < 4) (h : P (nI l, xpc, xnd, xwc, xit, nI (t + 1), xwt, xan, xlp, xpo, xpb, xwd, xwk, xnk, xco, xcb, xml, xme, xro, xow, xol, xla, xsh, xoe, xoh, xsr, xss, xse, xms, xfm, xfa, upd xfd t (nI (d + 1)), upd xcv (6 * t + (d + 2)) (xoe (4 * o + i)), upd xcr (6 * t + (d + 2)) 0)) : wpX_performOnObjects P (nI l, xpc, xnd, xwc, xit, nI (t + 1), xwt, xan, xlp, xpo, xpb, xwd, xwk, xnk, xco, xcb, xml, xme, xro, xow, xol, xla, xsh, xoe, xoh, xsr, xss, xse, xms, xfm, xfa, xfd, xcv, xcr) 12 B := by
  refine br_f (by decide) <| br_f (by decide) <| br_f (by decide) <| br_f (by decide) <| br_f (by decide) <| br_t rfl <|  ?_
  unfold wpX_getElement
  refine pr_xpop _ ht hd (by omega) (pr_xpop _ (d := d) ht pk_us (by omega) ?_)
  have e : (4 : Int32) * xcv (6 * t + (d + 2)) + xcv (6 * t + (d + 3)) = nI (4 * o + i) := by rw [ho, hi, pr_4b]
  refine ⟨by show vp_in ((4 : Int32) * xcv (6 * t + (d + 2)) + xcv (6 * t + (d + 3))) 36; rw [e]; exact vp_in_nI (by omega) (by omega), ?_⟩
  show wpX_push _ _ (xoe ((4 : Int32) * xcv (6 * t + (d + 2)) + xcv (6 * t + (d + 3))).toNatClampNeg) _
  rw [e, nI_clamp (by omega)]
  refine pr_xpush _ (d := d) ht pk_us (by omega) (Or.inl rfl) ?_
  rw [rl_uu, rl_uu]
  exact h
theorem xo_13 (P : SX → Prop) {B : Int32} {o i : Nat} (ht : t < 4) (hd : xfd t = nI (d + 3)) (h4 : d < 2) (ho : xcv (6 * t + (d + 2)) = nI o) (hi : xcv (6 * t + (d + 3)) = nI i) (ho8 : o ≤ 8) (hi4 : i < 4) (h : P (nI l, xpc, xnd, xwc, xit, nI (t + 1), xwt, xan, xlp, xpo, xpb, xwd, xwk, xnk, xco, xcb, xml, xme, xro, xow, xol, xla, xsh, upd xoe (4 * o + i) (xcv (6 * t + (d + 4))), xoh, xsr, xss, xse, xms, xfm, xfa, upd xfd t (nI d), xcv, xcr)) : wpX_performOnObjects P (nI l, xpc, xnd, xwc, xit, nI (t + 1), xwt, xan, xlp, xpo, xpb, xwd, xwk, xnk, xco, xcb, xml, xme, xro, xow, xol, xla, xsh, xoe, xoh, xsr, xss, xse, xms, xfm, xfa, xfd, xcv, xcr) 13 B := by
  refine br_f (by decide) <| br_f (by decide) <| br_f (by decide) <| br_f (by decide) <| br_f (by decide) <| br_f (by decide) <| br_t rfl <|  ?_
  unfold wpX_putElement
  refine pr_xpop _ ht hd (by omega) (pr_xpop _ (d := d + 1) ht pk_us (by omega) (pr_xpop _ (d := d) ht pk_us (by omega) ?_))
  have e : (4 : Int32) * xcv (6 * t + (d + 2)) + xcv (6 * t + (d + 3)) = nI (4 * o + i) := by rw [ho, hi, pr_4b]
  refine ⟨by show vp_in ((4 : Int32) * xcv (6 * t + (d + 2)) + xcv (6 * t + (d + 3))) 36; rw [e]; exact vp_in_nI (by omega) (by omega), nm_r (e' := upd xoe (4 * o + i) (xcv (6 * t + (d + 4)))) (by show upd xoe ((4 : Int32) * xcv (6 * t + (d + 2)) + xcv (6 * t + (d + 3))).toNatClampNeg _ = _; rw [e, nI_clamp (by omega)]) ?_⟩
  rw [rl_uu, rl_uu]
  exact h
theorem xo_14 (P : SX → Prop) {B : Int32} {o : Nat} (ht : t < 4) (hd : xfd t = nI (d + 1)) (h4 : d < 4) (ho : xcv (6 * t + (d + 2)) = nI o) (ho8 : o ≤ 8) (h : P (nI l, xpc, xnd, xwc, xit, nI (t + 1), xwt, xan, xlp, xpo, xpb, xwd, xwk, xnk, xco, xcb, xml, xme, xro, xow, xol, xla, upd xsh o 1, xoe, xoh, xsr, xss, xse, xms, xfm, xfa, upd xfd t (nI d), xcv, xcr)) : wpX_performOnObjects P (nI l, xpc, xnd, xwc, xit, nI (t + 1), xwt, xan, xlp, xpo, xpb, xwd, xwk, xnk, xco, xcb, xml, xme, xro, xow, xol, xla, xsh, xoe, xoh, xsr, xss, xse, xms, xfm, xfa, xfd, xcv, xcr) 14 B := by
  refine br_f (by decide) <| br_f (by decide) <| br_f (by decide) <| br_f (by decide) <| br_f (by decide) <| br_f (by decide) <| br_f (by decide) <| br_t rfl <|  pr_xpop _ ht hd h4 ?_
  rw [ho]
  exact ⟨vp_in_nI (by omega) (by omega), nm_r (by rw [nI_clamp (by omega), he_b1]) h⟩
theorem xo_15 (P : SX → Prop) {B : Int32} {o : Nat} (ht : t < 4) (hd : xfd t = nI (d + 1)) (h4 : d < 4) (ho : xcv (6 * t + (d + 2)) = nI o) (ho8 : o ≤ 8) (h : P (nI l, xpc, xnd, xwc, xit, nI (t + 1), xwt, xan, xlp, xpo, xpb, xwd, xwk, xnk, xco, xcb, xml, xme, xro, xow, xol, xla, xsh, xoe, xoh, xsr, xss, xse, xms, xfm, xfa, upd xfd t (nI (d + 1)), upd xcv (6 * t + (d + 2)) (xol o), upd xcr (6 * t + (d + 2)) 0)) : wpX_performOnObjects P (nI l, xpc, xnd, xwc, xit, nI (t + 1), xwt, xan, xlp, xpo, xpb, xwd, xwk, xnk, xco, xcb, xml, xme, xro, xow, xol, xla, xsh, xoe, xoh, xsr, xss, xse, xms, xfm, xfa, xfd, xcv, xcr) 15 B := by
  refine br_f (by decide) <| br_f (by decide) <| br_f (by decide) <| br_f (by decide) <| br_f (by decide) <| br_f (by decide) <| br_f (by decide) <| br_f (by decide) <| br_t rfl <|  ?_
  unfold wpX_pushLength
  refine pr_xpop _ ht hd h4 ?_
  rw [ho]
  refine ⟨vp_in_nI (by omega) (by omega), ?_⟩
  rw [nI_clamp (by omega)]
  refine pr_xpush _ (d := d) ht pk_us (by omega) (Or.inl rfl) ?_
  rw [rl_uu]
  exact h
theorem xo_16 (P : SX → Prop) {b : Nat} (ht : t < 4) (hd : xfd t = nI d) (h4 : d < 4) (hb : b < 6) (h : P (nI l, xpc, xnd, xwc, xit, nI (t + 1), xwt, xan, xlp, xpo, xpb, xwd, xwk, xnk, xco, xcb, xml, xme, xro, xow, xol, xla, xsh, xoe, xoh, xsr, xss, xse, xms, xfm, xfa, upd xfd t (nI (d + 1)), upd xcv (6 * t + (d + 2)) (xro b), upd xcr (6 * t + (d + 2)) 1)) : wpX_performOnObjects P (nI l, xpc, xnd, xwc, xit, nI (t + 1), xwt, xan, xlp, xpo, xpb, xwd, xwk, xnk, xco, xcb, xml, xme, xro, xow, xol, xla, xsh, xoe, xoh, xsr, xss, xse, xms, xfm, xfa, xfd, xcv, xcr) 16 (nI b) := by
  refine br_f (by decide) <| br_f (by decide) <| br_f (by decide) <| br_f (by decide) <| br_f (by decide) <| br_f (by decide) <| br_f (by decide) <| br_f (by decide) <| br_f (by decide) <| br_t rfl <|  ⟨vp_in_nI (by omega) (by omega), ?_⟩
  rw [nI_clamp (by omega)]
  exact pr_xpush _ ht hd h4 (Or.inr rfl) h
/-! failures -/
theorem xo_wn (P : Int32 → Prop) {j : Nat} (ht : t < 4) (hd : xfd t = nI d) (h4 : d ≤ 4) (hj : 1 ≤ j) (hjd : j ≤ d) (ho : xcv (6 * t + (d + 2 - j)) = 0) (h : P 2) : wpX_wallFailure P (nI l, xpc, xnd, xwc, xit, nI (t + 1), xwt, xan, xlp, xpo, xpb, xwd, xwk, xnk, xco, xcb, xml, xme, xro, xow, xol, xla, xsh, xoe, xoh, xsr, xss, xse, xms, xfm, xfa, xfd, xcv, xcr) (nI j) := by
  unfold wpX_wallFailure
  exact pr_xentry _ ht hd h4 hj hjd (br_t ho h)
theorem xo_w (P : Int32 → Prop) {j m o : Nat} (ht : t < 4) (hm : xfm t = nI m) (hm6 : m < 6) (hd : xfd t = nI d) (h4 : d ≤ 4) (hj : 1 ≤ j) (hjd : j ≤ d) (ho : xcv (6 * t + (d + 2 - j)) = nI (o + 1)) (ho8 : o < 8) (h0 : (¬ xsh (o + 1) = 0 ∨ xow (o + 1) = nI (m / 2)) → P 0) (h3 : ¬ (¬ xsh (o + 1) = 0 ∨ xow (o + 1) = nI (m / 2)) → P 3) : wpX_wallFailure P (nI l, xpc, xnd, xwc, xit, nI (t + 1), xwt, xan, xlp, xpo, xpb, xwd, xwk, xnk, xco, xcb, xml, xme, xro, xow, xol, xla, xsh, xoe, xoh, xsr, xss, xse, xms, xfm, xfa, xfd, xcv, xcr) (nI j) := by
  unfold wpX_wallFailure
  refine pr_xentry _ ht hd h4 hj hjd ?_
  rw [ho]
  refine br_f (nI_ne0 (by omega) (by omega)) ⟨vp_in_nI (by omega) (by omega), ?_⟩
  rw [nI_clamp (by omega)]
  exact br_c (fun z => ⟨vp_in_nI (by omega) (by omega), pr_own _ ht hm hm6 (br_c (fun y => h0 (Or.inr y)) (fun y => h3 (fun w => w.elim (fun q => q z) y)))⟩) (fun z => h0 (Or.inl z))
theorem xo_en (P : Int32 → Prop) {j : Nat} (ht : t < 4) (hd : xfd t = nI d) (h4 : d ≤ 4) (hj : 1 ≤ j) (hjd : j ≤ d) (ho : xcv (6 * t + (d + 2 - j)) = 0) (h : P 2) : wpX_elementFailure P (nI l, xpc, xnd, xwc, xit, nI (t + 1), xwt, xan, xlp, xpo, xpb, xwd, xwk, xnk, xco, xcb, xml, xme, xro, xow, xol, xla, xsh, xoe, xoh, xsr, xss, xse, xms, xfm, xfa, xfd, xcv, xcr) (nI j) := by
  unfold wpX_elementFailure
  exact xo_wn _ ht hd h4 hj hjd ho (br_f (by decide) h)
theorem xo_e (P : Int32 → Prop) {j m o : Nat} (ht : t < 4) (hm : xfm t = nI m) (hm6 : m < 6) (hd : xfd t = nI d) (h4 : d ≤ 4) (hj : 2 ≤ j) (hjd : j ≤ d) (ho : xcv (6 * t + (d + 2 - j)) = nI (o + 1)) (ho8 : o < 8) (h0 : (¬ xsh (o + 1) = 0 ∨ xow (o + 1) = nI (m / 2)) → (¬ xcv (6 * t + (d + 3 - j)) < 0 ∧ xcv (6 * t + (d + 3 - j)) < xol (o + 1)) → P 0) (hb : (¬ xsh (o + 1) = 0 ∨ xow (o + 1) = nI (m / 2)) → ¬ (¬ xcv (6 * t + (d + 3 - j)) < 0 ∧ xcv (6 * t + (d + 3 - j)) < xol (o + 1)) → P 4) (h3 : ¬ (¬ xsh (o + 1) = 0 ∨ xow (o + 1) = nI (m / 2)) → P 3) : wpX_elementFailure P (nI l, xpc, xnd, xwc, xit, nI (t + 1), xwt, xan, xlp, xpo, xpb, xwd, xwk, xnk, xco, xcb, xml, xme, xro, xow, xol, xla, xsh, xoe, xoh, xsr, xss, xse, xms, xfm, xfa, xfd, xcv, xcr) (nI j) := by
  unfold wpX_elementFailure
  have ej : nI j - 1 = nI (j - 1) := by
    obtain ⟨q, rfl⟩ : ∃ q, j = q + 1 := ⟨j - 1, by omega⟩
    exact nI_pred q
  have e3 : d + 2 - (j - 1) = d + 3 - j := by omega
  refine xo_w _ ht hm hm6 hd h4 (by omega) hjd ho ho8 (fun w => br_t rfl (pr_xentry _ ht hd h4 (by omega) hjd ?_)) (fun w => br_f (by decide) (h3 w))
  rw [ho, ej]
  refine pr_xentry _ ht hd h4 (by omega) (by omega) ?_
  rw [e3]
  refine br_c (fun z => hb w (fun q => q.1 z)) (fun z => ⟨vp_in_nI (by omega) (by omega), ?_⟩)
  rw [nI_clamp (by omega)]
  exact br_c (fun y => h0 w ⟨z, y⟩) (fun y => hb w (fun q => y q.2))
theorem xo_sn (P : Int32 → Prop) (ht : t < 4) (hd : xfd t = nI (d + 1)) (h4 : d < 4) (ho : xcv (6 * t + (d + 2)) = 0) (h : P 2) : wpX_shareFailure P (nI l, xpc, xnd, xwc, xit, nI (t + 1), xwt, xan, xlp, xpo, xpb, xwd, xwk, xnk, xco, xcb, xml, xme, xro, xow, xol, xla, xsh, xoe, xoh, xsr, xss, xse, xms, xfm, xfa, xfd, xcv, xcr) := by
  unfold wpX_shareFailure
  exact pr_xentry _ (j := 1) ht hd (by omega) (by omega) (by omega) (br_t ho h)
theorem xo_s (P : Int32 → Prop) {m o : Nat} (ht : t < 4) (hm : xfm t = nI m) (hm6 : m < 6) (hd : xfd t = nI (d + 1)) (h4 : d < 4) (ho : xcv (6 * t + (d + 2)) = nI (o + 1)) (ho8 : o < 8) (h0 : xow (o + 1) = nI (m / 2) → P 0) (h3 : ¬ xow (o + 1) = nI (m / 2) → P 3) : wpX_shareFailure P (nI l, xpc, xnd, xwc, xit, nI (t + 1), xwt, xan, xlp, xpo, xpb, xwd, xwk, xnk, xco, xcb, xml, xme, xro, xow, xol, xla, xsh, xoe, xoh, xsr, xss, xse, xms, xfm, xfa, xfd, xcv, xcr) := by
  unfold wpX_shareFailure
  refine pr_xentry _ (j := 1) ht hd (by omega) (by omega) (by omega) ?_
  have ho' : xcv (6 * t + (d + 1 + 2 - 1)) = nI (o + 1) := ho
  rw [ho']
  refine br_f (nI_ne0 (by omega) (by omega)) ⟨vp_in_nI (by omega) (by omega), ?_⟩
  rw [nI_clamp (by omega)]
  exact pr_own _ ht hm hm6 (br_c h0 h3)
theorem xo_callF (P : Int32 → Prop) {m b : Nat} (ht : t < 4) (hm : xfm t = nI m) (hm6 : m < 6) (hb : b < 6) (h5 : xml b = 0 → P 5) (h3 : ¬ xml b = 0 → xme b = 0 → ¬ b / 2 = m / 2 → P 3) (hok : ¬ xml b = 0 → (¬ xme b = 0 ∨ b / 2 = m / 2) → (t < 3 → P 0) ∧ (t = 3 → P 6)) : wpX_callFailure P (nI l, xpc, xnd, xwc, xit, nI (t + 1), xwt, xan, xlp, xpo, xpb, xwd, xwk, xnk, xco, xcb, xml, xme, xro, xow, xol, xla, xsh, xoe, xoh, xsr, xss, xse, xms, xfm, xfa, xfd, xcv, xcr) (nI b) := by
  have e0 : (nI b).toNatClampNeg = b := nI_clamp (by omega)
  have k : (¬ xml b = 0 → (¬ xme b = 0 ∨ b / 2 = m / 2) → wX_callFailure_32 P (nI l) xpc xnd xwc xit (nI (t + 1)) xwt xan xlp xpo xpb xwd xwk xnk xco xcb xml xme xro xow xol xla xsh xoe xoh xsr xss xse xms xfm xfa xfd xcv xcr) := fun z y => pk_lt (t + 1) 4 (fun w => (hok z y).1 (by omega)) (fun w => (hok z y).2 (by omega))
  refine ⟨vp_in_nI hb (by omega), ?_⟩
  rw [e0]
  refine br_c h5 (fun z => ⟨vp_in_nI hb (by omega), br_c (fun y => ⟨by decide, pr_own _ ht hm hm6 ?_⟩) (fun y => k z (Or.inl y))⟩)
  rw [pr_h b hb]
  exact pk_eq (b / 2) (m / 2) (fun w => k z (Or.inr w)) (fun w => h3 z y w)
end XO
end
section
/-! THE REFERENCE'S INSTRUCTIONS -/
section YO
variable {ylim ywa ysk ylo yrn ysp yaw yan ywh you ygd yop : Int32}
variable {ymd : Int64}
variable {yops ybs ysz yex yow yle yel yla ysh yro yoe yoh yor yrw ynx ydp ypl ykd ymt ytd yht : Nat → Int32}
variable {yst yos : Nat → Int64}
variable {t d k : Nat}
theorem yo_268 (P : SY → Prop) (ht : t < 4) (hk : ynx t = nI k) (h : P (ylim, ywa, ysk, ylo, nI (t + 1), ysp, yaw, yan, ywh, you, ymd, ygd, yop, yops, ybs, ysz, yex, yst, yow, yle, yel, yla, ysh, yro, yos, yoe, yoh, yor, yrw, upd ynx t (nI (k + 1)), ydp, ypl, ykd, ymt, ytd, yht)) : wY_simple_268 P ylim ywa ysk ylo (nI (t + 1)) ysp yaw yan ywh you ymd ygd yop yops ybs ysz yex yst yow yle yel yla ysh yro yos yoe yoh yor yrw ynx ydp ypl ykd ymt ytd yht := by
  unfold wY_simple_268
  exact pr_on _ ht hk h
theorem yo_222 (P : SY → Prop) (ht : t < 4) (hk : ynx t = nI k) (h : P (ylim, ywa, ysk, ylo, nI (t + 1), ysp, yaw, yan, ywh, you, ymd, ygd, yop, yops, ybs, ysz, yex, yst, yow, yle, yel, yla, ysh, yro, yos, yoe, yoh, yor, yrw, upd ynx t (nI (k + 1)), ydp, ypl, ykd, ymt, ytd, yht)) : wY_other_222 P ylim ywa ysk ylo (nI (t + 1)) ysp yaw yan ywh you ymd ygd yop yops ybs ysz yex yst yow yle yel yla ysh yro yos yoe yoh yor yrw ynx ydp ypl ykd ymt ytd yht := by
  unfold wY_other_222
  exact pr_on _ ht hk h
theorem yo_290 (P : SY → Prop) (ht : t < 4) (hk : ynx t = nI k) (h : P (ylim, ywa, ysk, ylo, nI (t + 1), ysp, yaw, yan, ywh, you, ymd, ygd, yop, yops, ybs, ysz, yex, yst, yow, yle, yel, yla, ysh, yro, yos, yoe, yoh, yor, yrw, upd ynx t (nI (k + 1)), ydp, ypl, ykd, ymt, ytd, yht)) : wY_onObject_290 P ylim ywa ysk ylo (nI (t + 1)) ysp yaw yan ywh you ymd ygd yop yops ybs ysz yex yst yow yle yel yla ysh yro yos yoe yoh yor yrw ynx ydp ypl ykd ymt ytd yht := by
  unfold wY_onObject_290
  exact pr_on _ ht hk h
theorem yo_0 (P : SY → Prop) {v : Int32} (ht : t < 4) (hk : ynx t = nI k) (hd : ydp t = nI d) (h4 : d < 4) (h : P (ylim, ywa, ysk, ylo, nI (t + 1), ysp, yaw, yan, ywh, you, ymd, ygd, yop, yops, ybs, ysz, yex, yst, yow, yle, yel, yla, ysh, yro, yos, yoe, yoh, yor, yrw, upd ynx t (nI (k + 1)), upd ydp t (nI (d + 1)), upd ypl (8 * t + (d + 2)) v, upd ykd (8 * t + (d + 2)) 1, ymt, ytd, yht)) : wpY_simple P (ylim, ywa, ysk, ylo, nI (t + 1), ysp, yaw, yan, ywh, you, ymd, ygd, yop, yops, ybs, ysz, yex, yst, yow, yle, yel, yla, ysh, yro, yos, yoe, yoh, yor, yrw, ynx, ydp, ypl, ykd, ymt, ytd, yht) 0 v :=
  nm_r (nI_pred t) (br_f (by decide) <| br_f (by decide) <| br_t rfl <|  pr_ypush _ (c := 1) ht hd h4 (by decide) (yo_268 _ ht hk h))
theorem yo_1 (P : SY → Prop) {b c : Nat} (ht : t < 4) (hk : ynx t = nI k) (hd : ydp t = nI d) (h4 : d < 4) (hb : b ≤ 1) (hc : c < 3) (hkd : ykd (8 * t + b) = nI c) (h : P (ylim, ywa, ysk, ylo, nI (t + 1), ysp, yaw, yan, ywh, you, ymd, ygd, yop, yops, ybs, ysz, yex, yst, yow, yle, yel, yla, ysh, yro, yos, yoe, yoh, yor, yrw, upd ynx t (nI (k + 1)), upd ydp t (nI (d + 1)), upd ypl (8 * t + (d + 2)) (ypl (8 * t + b)), upd ykd (8 * t + (d + 2)) (nI c), ymt, ytd, yht)) : wpY_simple P (ylim, ywa, ysk, ylo, nI (t + 1), ysp, yaw, yan, ywh, you, ymd, ygd, yop, yops, ybs, ysz, yex, yst, yow, yle, yel, yla, ysh, yro, yos, yoe, yoh, yor, yrw, ynx, ydp, ypl, ykd, ymt, ytd, yht) 1 (nI b) := by
  refine nm_r (nI_pred t) (br_f (by decide) <| br_f (by decide) <| br_f (by decide) <| br_t rfl <|  ?_)
  rw [pr_8b, nI_clamp (by omega), hkd]
  exact ⟨vp_in_nI (by omega) (by omega), vp_in_nI (by omega) (by omega), pr_ypush _ ht hd h4 hc (yo_268 _ ht hk h)⟩
theorem yo_2 (P : SY → Prop) {b c : Nat} (ht : t < 4) (hk : ynx t = nI k) (hd : ydp t = nI (d + 1)) (h4 : d < 4) (hb : b ≤ 1) (hc : c < 3) (hkd : ykd (8 * t + (d + 2)) = nI c) (h : P (ylim, ywa, ysk, ylo, nI (t + 1), ysp, yaw, yan, ywh, you, ymd, ygd, yop, yops, ybs, ysz, yex, yst, yow, yle, yel, yla, ysh, yro, yos, yoe, yoh, yor, yrw, upd ynx t (nI (k + 1)), upd ydp t (nI d), upd ypl (8 * t + b) (ypl (8 * t + (d + 2))), upd ykd (8 * t + b) (nI c), ymt, ytd, yht)) : wpY_simple P (ylim, ywa, ysk, ylo, nI (t + 1), ysp, yaw, yan, ywh, you, ymd, ygd, yop, yops, ybs, ysz, yex, yst, yow, yle, yel, yla, ysh, yro, yos, yoe, yoh, yor, yrw, ynx, ydp, ypl, ykd, ymt, ytd, yht) 2 (nI b) := by
  have e0 : (nI t).toNatClampNeg = t := nI_clamp (by omega)
  have e1 : (8 : Int32) * nI t + 1 + ydp (nI t).toNatClampNeg = nI (8 * t + (d + 2)) := by
    rw [e0, hd, pr_81]
  have e2 : (nI (8 * t + (d + 2))).toNatClampNeg = 8 * t + (d + 2) := nI_clamp (by omega)
  have e3 : (nI (8 * t + b)).toNatClampNeg = 8 * t + b := nI_clamp (by omega)
  have v1 : vp_in (nI (8 * t + (d + 2))) 32 := vp_in_nI (by omega) (by omega)
  have v2 : vp_in ((8 : Int32) * nI t + nI b) 32 := by rw [pr_8b]; exact vp_in_nI (by omega) (by omega)
  exact nm_r (nI_pred t) (br_f (by decide) <| br_f (by decide) <| br_f (by decide) <| br_f (by decide) <| br_t rfl <|  ⟨pk_in t 4 ht, nm_r e1 ⟨v1, v2, nm_r (by rw [pr_8b, e3, e2, hkd, pr_b012' c hc]) ⟨v1, v2, nm_r (by rw [pr_8b, e3, e2]) (pr_drop _ (j := 1) ht hd (by omega) (by omega) (yo_268 _ ht hk h))⟩⟩⟩)
theorem yo_265 (P : SY → Prop) {v : Int32} (ht : t < 4) (hk : ynx t = nI k) (hd : ydp t = nI d) (h4 : d < 4) (h : P (ylim, ywa, ysk, ylo, nI (t + 1), ysp, yaw, yan, ywh, you, ymd, ygd, yop, yops, ybs, ysz, yex, yst, yow, yle, yel, yla, ysh, yro, yos, yoe, yoh, yor, yrw, upd ynx t (nI (k + 1)), upd ydp t (nI (d + 1)), upd ypl (8 * t + (d + 2)) v, upd ykd (8 * t + (d + 2)) 1, ymt, ytd, yht)) : wY_simple_265 P v 1 ylim ywa ysk ylo (nI (t + 1)) ysp yaw yan ywh you ymd ygd yop yops ybs ysz yex yst yow yle yel yla ysh yro yos yoe yoh yor yrw ynx ydp ypl ykd ymt ytd yht := by
  unfold wY_simple_265
  exact pr_ypush _ (c := 1) ht hd h4 (by decide) (yo_268 _ ht hk h)
theorem yo_3 (P : SY → Prop) {v : Int32} (ht : t < 4) (hk : ynx t = nI k) (hd : ydp t = nI (d + 2)) (h4 : d < 3) (h : P (ylim, ywa, ysk, ylo, nI (t + 1), ysp, yaw, yan, ywh, you, ymd, ygd, yop, yops, ybs, ysz, yex, yst, yow, yle, yel, yla, ysh, yro, yos, yoe, yoh, yor, yrw, upd ynx t (nI (k + 1)), upd ydp t (nI (d + 1)), upd ypl (8 * t + (d + 2)) ((ypl (8 * t + (d + 2)) + ypl (8 * t + (d + 3))).toInt16.toInt32), upd ykd (8 * t + (d + 2)) 1, ymt, ytd, yht)) : wpY_simple P (ylim, ywa, ysk, ylo, nI (t + 1), ysp, yaw, yan, ywh, you, ymd, ygd, yop, yops, ybs, ysz, yex, yst, yow, yle, yel, yla, ysh, yro, yos, yoe, yoh, yor, yrw, ynx, ydp, ypl, ykd, ymt, ytd, yht) 3 v := by
  refine nm_r (nI_pred t) (br_f (by decide) <| br_f (by decide) <| br_f (by decide) <| br_f (by decide) <| br_f (by decide) <| br_t rfl <|  ?_)
  unfold wY_simple_190
  refine pr_yentry _ (j := 1) ht hd (by omega) (by omega) (pr_yentry _ (j := 0) ht hd (by omega) (by omega) (pr_drop _ (j := 2) ht hd (by omega) (by omega) (br_t rfl <|  yo_265 _ (d := d) ht hk pk_us (by omega) ?_)))
  rw [rl_uu]
  exact h
theorem yo_4 (P : SY → Prop) {v : Int32} (ht : t < 4) (hk : ynx t = nI k) (hd : ydp t = nI (d + 2)) (h4 : d < 3) (h : P (ylim, ywa, ysk, ylo, nI (t + 1), ysp, yaw, yan, ywh, you, ymd, ygd, yop, yops, ybs, ysz, yex, yst, yow, yle, yel, yla, ysh, yro, yos, yoe, yoh, yor, yrw, upd ynx t (nI (k + 1)), upd ydp t (nI (d + 1)), upd ypl (8 * t + (d + 2)) ((ypl (8 * t + (d + 2)) - ypl (8 * t + (d + 3))).toInt16.toInt32), upd ykd (8 * t + (d + 2)) 1, ymt, ytd, yht)) : wpY_simple P (ylim, ywa, ysk, ylo, nI (t + 1), ysp, yaw, yan, ywh, you, ymd, ygd, yop, yops, ybs, ysz, yex, yst, yow, yle, yel, yla, ysh, yro, yos, yoe, yoh, yor, yrw, ynx, ydp, ypl, ykd, ymt, ytd, yht) 4 v := by
  refine nm_r (nI_pred t) (br_f (by decide) <| br_f (by decide) <| br_f (by decide) <| br_f (by decide) <| br_f (by decide) <| br_f (by decide) <| br_t rfl <|  ?_)
  unfold wY_simple_190
  refine pr_yentry _ (j := 1) ht hd (by omega) (by omega) (pr_yentry _ (j := 0) ht hd (by omega) (by omega) (pr_drop _ (j := 2) ht hd (by omega) (by omega) (br_f (by decide) <| br_t rfl <|  yo_265 _ (d := d) ht hk pk_us (by omega) ?_)))
  rw [rl_uu]
  exact h
theorem yo_5 (P : SY → Prop) {v : Int32} (ht : t < 4) (hk : ynx t = nI k) (hd : ydp t = nI (d + 2)) (h4 : d < 3) (h : P (ylim, ywa, ysk, ylo, nI (t + 1), ysp, yaw, yan, ywh, you, ymd, ygd, yop, yops, ybs, ysz, yex, yst, yow, yle, yel, yla, ysh, yro, yos, yoe, yoh, yor, yrw, upd ynx t (nI (k + 1)), upd ydp t (nI (d + 1)), upd ypl (8 * t + (d + 2)) ((ypl (8 * t + (d + 2)) * ypl (8 * t + (d + 3))).toInt16.toInt32), upd ykd (8 * t + (d + 2)) 1, ymt, ytd, yht)) : wpY_simple P (ylim, ywa, ysk, ylo, nI (t + 1), ysp, yaw, yan, ywh, you, ymd, ygd, yop, yops, ybs, ysz, yex, yst, yow, yle, yel, yla, ysh, yro, yos, yoe, yoh, yor, yrw, ynx, ydp, ypl, ykd, ymt, ytd, yht) 5 v := by
  refine nm_r (nI_pred t) (br_f (by decide) <| br_f (by decide) <| br_f (by decide) <| br_f (by decide) <| br_f (by decide) <| br_f (by decide) <| br_f (by decide) <| br_t rfl <|  ?_)
  unfold wY_simple_190
  refine pr_yentry _ (j := 1) ht hd (by omega) (by omega) (pr_yentry _ (j := 0) ht hd (by omega) (by omega) (pr_drop _ (j := 2) ht hd (by omega) (by omega) (br_f (by decide) <| br_f (by decide) <| br_t rfl <|  yo_265 _ (d := d) ht hk pk_us (by omega) ?_)))
  rw [rl_uu]
  exact h
theorem yo_6 (P : SY → Prop) {v : Int32} (ht : t < 4) (hk : ynx t = nI k) (hd : ydp t = nI (d + 2)) (h4 : d < 3) (h : P (ylim, ywa, ysk, ylo, nI (t + 1), ysp, yaw, yan, ywh, you, ymd, ygd, yop, yops, ybs, ysz, yex, yst, yow, yle, yel, yla, ysh, yro, yos, yoe, yoh, yor, yrw, upd ynx t (nI (k + 1)), upd ydp t (nI (d + 1)), upd ypl (8 * t + (d + 2)) (if ypl (8 * t + (d + 3)) ≤ ypl (8 * t + (d + 2)) then 0 else 1), upd ykd (8 * t + (d + 2)) 1, ymt, ytd, yht)) : wpY_simple P (ylim, ywa, ysk, ylo, nI (t + 1), ysp, yaw, yan, ywh, you, ymd, ygd, yop, yops, ybs, ysz, yex, yst, yow, yle, yel, yla, ysh, yro, yos, yoe, yoh, yor, yrw, ynx, ydp, ypl, ykd, ymt, ytd, yht) 6 v := by
  refine nm_r (nI_pred t) (br_f (by decide) <| br_f (by decide) <| br_f (by decide) <| br_f (by decide) <| br_f (by decide) <| br_f (by decide) <| br_f (by decide) <| br_f (by decide) <| br_t rfl <|  ?_)
  unfold wY_simple_190
  refine pr_yentry _ (j := 1) ht hd (by omega) (by omega) (pr_yentry _ (j := 0) ht hd (by omega) (by omega) (pr_drop _ (j := 2) ht hd (by omega) (by omega) (br_f (by decide) <| br_f (by decide) <| br_f (by decide) <|  br_c (fun z => yo_265 _ (d := d) ht hk pk_us (by omega) ?_) (fun z => yo_265 _ (d := d) ht hk pk_us (by omega) ?_))))
  · rw [rl_uu]
    have z' : ypl (8 * t + (d + 3)) ≤ ypl (8 * t + (d + 2)) := z
    rw [if_pos z'] at h
    exact h
  · rw [rl_uu]
    have z' : ¬ ypl (8 * t + (d + 3)) ≤ ypl (8 * t + (d + 2)) := z
    rw [if_neg z'] at h
    exact h
theorem yo_7 (P : SY → Prop) {v : Int32} (ht : t < 4) (h : P (ylim, ywa, ysk, ylo, nI (t + 1), ysp, yaw, yan, ywh, you, ymd, ygd, yop, yops, ybs, ysz, yex, yst, yow, yle, yel, yla, ysh, yro, yos, yoe, yoh, yor, yrw, upd ynx t v, ydp, ypl, ykd, ymt, ytd, yht)) : wpY_simple P (ylim, ywa, ysk, ylo, nI (t + 1), ysp, yaw, yan, ywh, you, ymd, ygd, yop, yops, ybs, ysz, yex, yst, yow, yle, yel, yla, ysh, yro, yos, yoe, yoh, yor, yrw, ynx, ydp, ypl, ykd, ymt, ytd, yht) 7 v :=
  nm_r (nI_pred t) (br_f (by decide) <| br_f (by decide) <| br_f (by decide) <| br_f (by decide) <| br_f (by decide) <| br_f (by decide) <| br_f (by decide) <| br_f (by decide) <| br_f (by decide) <| br_t rfl <|  ⟨pk_in t 4 ht, nm_r (by rw [nI_clamp (by omega)]) h⟩)
theorem yo_8 (P : SY → Prop) {v : Int32} (ht : t < 4) (hk : ynx t = nI k) (hd : ydp t = nI (d + 1)) (h4 : d < 4) (h0 : ypl (8 * t + (d + 2)) = 0 → P (ylim, ywa, ysk, ylo, nI (t + 1), ysp, yaw, yan, ywh, you, ymd, ygd, yop, yops, ybs, ysz, yex, yst, yow, yle, yel, yla, ysh, yro, yos, yoe, yoh, yor, yrw, upd ynx t v, upd ydp t (nI d), ypl, ykd, ymt, ytd, yht)) (h1 : ¬ ypl (8 * t + (d + 2)) = 0 → P (ylim, ywa, ysk, ylo, nI (t + 1), ysp, yaw, yan, ywh, you, ymd, ygd, yop, yops, ybs, ysz, yex, yst, yow, yle, yel, yla, ysh, yro, yos, yoe, yoh, yor, yrw, upd ynx t (nI (k + 1)), upd ydp t (nI d), ypl, ykd, ymt, ytd, yht)) : wpY_simple P (ylim, ywa, ysk, ylo, nI (t + 1), ysp, yaw, yan, ywh, you, ymd, ygd, yop, yops, ybs, ysz, yex, yst, yow, yle, yel, yla, ysh, yro, yos, yoe, yoh, yor, yrw, ynx, ydp, ypl, ykd, ymt, ytd, yht) 8 v :=
  nm_r (nI_pred t) (br_f (by decide) <| br_f (by decide) <| br_f (by decide) <| br_f (by decide) <| br_f (by decide) <| br_f (by decide) <| br_f (by decide) <| br_f (by decide) <| br_f (by decide) <| br_f (by decide) <| br_t rfl <|  pr_yentry _ (j := 0) ht hd (by omega) (by omega) (pr_drop _ (j := 1) ht hd (by omega) (by omega) (br_c (fun z => ⟨pk_in t 4 ht, nm_r (by rw [nI_clamp (by omega)]) (h0 z)⟩) (fun z => yo_268 _ ht hk (h1 z)))))
/-! other instructions -/
theorem yo_9 (P : SY → Prop) {m b : Nat} (ht : t < 4) (hk : ynx t = nI k) (hm : yrw t = nI m) (hm6 : m < 6) (hd : ydp t = nI d) (h4 : d < 4) (hb : b ≤ 1) (h : P (ylim, ywa, ysk, ylo, nI (t + 1), ysp, yaw, yan, ywh, you, ymd, ygd, yop, yops, ybs, ysz, yex, yst, yow, yle, yel, yla, ysh, yro, yos, yoe, yoh, yor, yrw, upd ynx t (nI (k + 1)), upd ydp t (nI (d + 1)), upd ypl (8 * t + (d + 2)) (yro (2 * (m / 2) + b)), upd ykd (8 * t + (d + 2)) 2, ymt, ytd, yht)) : wpY_other P (ylim, ywa, ysk, ylo, nI (t + 1), ysp, yaw, yan, ywh, you, ymd, ygd, yop, yops, ybs, ysz, yex, yst, yow, yle, yel, yla, ysh, yro, yos, yoe, yoh, yor, yrw, ynx, ydp, ypl, ykd, ymt, ytd, yht) 9 (nI b) := by
  refine br_f (by decide) <| br_f (by decide) <| br_t rfl <|  pr_app _ ht hm hm6 ?_
  rw [pr_2b, nI_clamp (by omega)]
  exact ⟨vp_in_nI (by omega) (by omega), pr_ypush _ (c := 2) ht hd h4 (by decide) (yo_222 _ ht hk h)⟩
theorem yo_10 (P : SY → Prop) {m b : Nat} (ht : t < 4) (hk : ynx t = nI k) (hm : yrw t = nI m) (hm6 : m < 6) (hd : ydp t = nI (d + 1)) (h4 : d < 4) (hb : b ≤ 1) (h0 : ¬ yaw = 0) (h : P (ylim, ywa, ysk, ylo, nI (t + 1), ysp, re_pd yaw, yan, ywh, you, ymd, ygd, yop, yops, ybs, ysz, yex, yst, yow, yle, yel, yla, ysh, upd yro (2 * (m / 2) + b) (ypl (8 * t + (d + 2))), yos, yoe, yoh, yor, yrw, upd ynx t (nI (k + 1)), upd ydp t (nI d), ypl, ykd, ymt, ytd, yht)) : wpY_other P (ylim, ywa, ysk, ylo, nI (t + 1), ysp, yaw, yan, ywh, you, ymd, ygd, yop, yops, ybs, ysz, yex, yst, yow, yle, yel, yla, ysh, yro, yos, yoe, yoh, yor, yrw, ynx, ydp, ypl, ykd, ymt, ytd, yht) 10 (nI b) := by
  have e : (2 : Int32) * nI (m / 2) + nI b = nI (2 * (m / 2) + b) := pr_2b _ _
  exact br_f (by decide) <| br_f (by decide) <| br_f (by decide) <| br_t rfl <|  re_write _ h0 (br_f (by decide) (pr_app _ ht hm hm6 (pr_yentry _ (j := 0) ht hd (by omega) (by omega) ⟨by rw [e]; exact vp_in_nI (by omega) (by omega), nm_r (by rw [e, nI_clamp (by omega)]; rfl) (pr_drop _ (j := 1) ht hd (by omega) (by omega) (yo_222 _ ht hk h))⟩)))
theorem yo_10t (P : SY → Prop) {v' : SY} {B : Int32} (h0 : yaw = 0) (hE : ∀ Q : SY → Prop, Q v' → wpY_end Q (ylim, ywa, ysk, ylo, nI (t + 1), ysp, yaw, yan, ywh, you, ymd, ygd, yop, yops, ybs, ysz, yex, yst, yow, yle, yel, yla, ysh, yro, yos, yoe, yoh, yor, yrw, ynx, ydp, ypl, ykd, ymt, ytd, yht) 9) (h : P v') : wpY_other P (ylim, ywa, ysk, ylo, nI (t + 1), ysp, yaw, yan, ywh, you, ymd, ygd, yop, yops, ybs, ysz, yex, yst, yow, yle, yel, yla, ysh, yro, yos, yoe, yoh, yor, yrw, ynx, ydp, ypl, ykd, ymt, ytd, yht) 10 B := by
  obtain ⟨a1, a2, a3, a4, a5, a6, a7, a8, a9, c1, c2, c3, c4, c5, c6, c7, c8, c9, d1, d2, d3, d4, d5, d6, d7, d8, d9, e1, e2, e3, e4, e5, e6, e7, e8, e9⟩ := v'
  exact br_f (by decide) <| br_f (by decide) <| br_f (by decide) <| br_t rfl <|  br_t h0 (hE _ (br_t rfl h))
theorem yo_16 (P : SY → Prop) {b : Nat} (ht : t < 4) (hk : ynx t = nI k) (hd : ydp t = nI d) (h4 : d < 4) (hb : b < 6) (h : P (ylim, ywa, ysk, ylo, nI (t + 1), ysp, yaw, yan, ywh, you, ymd, ygd, yop, yops, ybs, ysz, yex, yst, yow, yle, yel, yla, ysh, yro, yos, yoe, yoh, yor, yrw, upd ynx t (nI (k + 1)), upd ydp t (nI (d + 1)), upd ypl (8 * t + (d + 2)) (yro b), upd ykd (8 * t + (d + 2)) 2, ymt, ytd, yht)) : wpY_other P (ylim, ywa, ysk, ylo, nI (t + 1), ysp, yaw, yan, ywh, you, ymd, ygd, yop, yops, ybs, ysz, yex, yst, yow, yle, yel, yla, ysh, yro, yos, yoe, yoh, yor, yrw, ynx, ydp, ypl, ykd, ymt, ytd, yht) 16 (nI b) := by
  refine br_f (by decide) <| br_f (by decide) <| br_f (by decide) <| br_f (by decide) <| br_f (by decide) <| br_f (by decide) <| br_f (by decide) <| br_f (by decide) <| br_f (by decide) <| br_t rfl <|  ⟨vp_in_nI (by omega) (by omega), ?_⟩
  rw [nI_clamp (by omega)]
  exact pr_ypush _ (c := 2) ht hd h4 (by decide) (yo_222 _ ht hk h)
theorem yo_17 (P : SY → Prop) {v : Int32} (ht : t < 4) (hk : ynx t = nI k) (hd : ydp t = nI d) (h4 : d < 4) (h : P (ylim, ywa, ysk, ylo, nI (t + 1), ysp, yaw, yan, ywh, you, ymd, ygd, yop, yops, ybs, ysz, yex, yst, yow, yle, yel, yla, ysh, yro, yos, yoe, yoh, yor, yrw, upd ynx t (nI (k + 1)), upd ydp t (nI (d + 1)), upd ypl (8 * t + (d + 2)) (-1), upd ykd (8 * t + (d + 2)) 2, ymt, ytd, yht)) : wpY_other P (ylim, ywa, ysk, ylo, nI (t + 1), ysp, yaw, yan, ywh, you, ymd, ygd, yop, yops, ybs, ysz, yex, yst, yow, yle, yel, yla, ysh, yro, yos, yoe, yoh, yor, yrw, ynx, ydp, ypl, ykd, ymt, ytd, yht) 17 v :=
  br_f (by decide) <| br_f (by decide) <| br_f (by decide) <| br_f (by decide) <| br_f (by decide) <| br_f (by decide) <| br_f (by decide) <| br_f (by decide) <| br_f (by decide) <| br_f (by decide) <| br_t rfl <|  pr_ypush _ (c := 2) ht hd h4 (by decide) (yo_222 _ ht hk h)
theorem yo_20 (P : SY → Prop) {v : Int32} {c : Nat} (ht : t < 4) (hk : ynx t = nI k) (hd : ydp t = nI (d + 1)) (h4 : d < 3) (hc : c < 3) (hkd : ykd (8 * t + (d + 2)) = nI c) (h : P (ylim, ywa, ysk, ylo, nI (t + 1), ysp, yaw, yan, ywh, you, ymd, ygd, yop, yops, ybs, ysz, yex, yst, yow, yle, yel, yla, ysh, yro, yos, yoe, yoh, yor, yrw, upd ynx t (nI (k + 1)), upd ydp t (nI (d + 2)), upd ypl (8 * t + (d + 3)) (ypl (8 * t + (d + 2))), upd ykd (8 * t + (d + 3)) (nI c), ymt, ytd, yht)) : wpY_other P (ylim, ywa, ysk, ylo, nI (t + 1), ysp, yaw, yan, ywh, you, ymd, ygd, yop, yops, ybs, ysz, yex, yst, yow, yle, yel, yla, ysh, yro, yos, yoe, yoh, yor, yrw, ynx, ydp, ypl, ykd, ymt, ytd, yht) 20 v := by
  have e0 : (nI (t + 1) - 1).toNatClampNeg = t := by rw [nI_pred]; exact nI_clamp (by omega)
  have i1 : vp_in (nI (t + 1) - 1) 4 := by rw [nI_pred]; exact pk_in t 4 ht
  have e1 : (8 : Int32) * (nI (t + 1) - 1) + 1 + ydp (nI (t + 1) - 1).toNatClampNeg = nI (8 * t + (d + 2)) := by
    rw [e0, hd, nI_pred, pr_81]
  have v1 : vp_in (nI (8 * t + (d + 2))) 32 := vp_in_nI (by omega) (by omega)
  refine br_f (by decide) <| br_f (by decide) <| br_f (by decide) <| br_f (by decide) <| br_f (by decide) <| br_f (by decide) <| br_f (by decide) <| br_f (by decide) <| br_f (by decide) <| br_f (by decide) <| br_f (by decide) <| br_f (by decide) <| br_f (by decide) <| br_t rfl <|  ⟨i1, nm_r e1 ⟨v1, v1, ?_⟩⟩
  rw [nI_clamp (by omega), hkd]
  exact pr_ypush _ ht hd (by omega) hc (yo_222 _ ht hk h)
theorem yo_21 (P : SY → Prop) {v : Int32} (ht : t < 4) (hk : ynx t = nI k) (hd : ydp t = nI (d + 1)) (h4 : d < 4) (h : P (ylim, ywa, ysk, ylo, nI (t + 1), ysp, yaw, yan, ywh, you, ymd, ygd, yop, yops, ybs, ysz, yex, yst, yow, yle, yel, yla, ysh, yro, yos, yoe, yoh, yor, yrw, upd ynx t (nI (k + 1)), upd ydp t (nI d), ypl, ykd, ymt, ytd, yht)) : wpY_other P (ylim, ywa, ysk, ylo, nI (t + 1), ysp, yaw, yan, ywh, you, ymd, ygd, yop, yops, ybs, ysz, yex, yst, yow, yle, yel, yla, ysh, yro, yos, yoe, yoh, yor, yrw, ynx, ydp, ypl, ykd, ymt, ytd, yht) 21 v :=
  br_f (by decide) <| br_f (by decide) <| br_f (by decide) <| br_f (by decide) <| br_f (by decide) <| br_f (by decide) <| br_f (by decide) <| br_f (by decide) <| br_f (by decide) <| br_f (by decide) <| br_f (by decide) <| br_f (by decide) <| br_f (by decide) <| br_f (by decide) <| br_t rfl <|  pr_drop _ (j := 1) ht hd (by omega) (by omega) (yo_222 _ ht hk h)
/-! transactions -/
theorem yo_tr_22 (P : SY → Prop) {v : Int32} (h : wY_other_213 P 22 ylim ywa ysk ylo yrn ysp yaw yan ywh you ymd ygd yop yops ybs ysz yex yst yow yle yel yla ysh yro yos yoe yoh yor yrw ynx ydp ypl ykd ymt ytd yht) : wpY_other P (ylim, ywa, ysk, ylo, yrn, ysp, yaw, yan, ywh, you, ymd, ygd, yop, yops, ybs, ysz, yex, yst, yow, yle, yel, yla, ysh, yro, yos, yoe, yoh, yor, yrw, ynx, ydp, ypl, ykd, ymt, ytd, yht) 22 v := br_f (by decide) (br_t (by decide) h)
theorem yo_tr_23 (P : SY → Prop) {v : Int32} (h : wY_other_213 P 23 ylim ywa ysk ylo yrn ysp yaw yan ywh you ymd ygd yop yops ybs ysz yex yst yow yle yel yla ysh yro yos yoe yoh yor yrw ynx ydp ypl ykd ymt ytd yht) : wpY_other P (ylim, ywa, ysk, ylo, yrn, ysp, yaw, yan, ywh, you, ymd, ygd, yop, yops, ybs, ysz, yex, yst, yow, yle, yel, yla, ysh, yro, yos, yoe, yoh, yor, yrw, ynx, ydp, ypl, ykd, ymt, ytd, yht) 23 v := br_f (by decide) (br_t (by decide) h)
theorem yo_tr_24 (P : SY → Prop) {v : Int32} (h : wY_other_213 P 24 ylim ywa ysk ylo yrn ysp yaw yan ywh you ymd ygd yop yops ybs ysz yex yst yow yle yel yla ysh yro yos yoe yoh yor yrw ynx ydp ypl ykd ymt ytd yht) : wpY_other P (ylim, ywa, ysk, ylo, yrn, ysp, yaw, yan, ywh, you, ymd, ygd, yop, yops, ybs, ysz, yex, yst, yow, yle, yel, yla, ysh, yro, yos, yoe, yoh, yor, yrw, ynx, ydp, ypl, ykd, ymt, ytd, yht) 24 v := br_f (by decide) (br_t (by decide) h)
theorem yo_22 (P : SY → Prop) {v : Int32} (ht : t < 4) (hk : ynx t = nI k) (h0 : yop = 0) (h : P (ylim, ywa, ysk, ylo, nI (t + 1), ysp, yaw, yan, ywh, you, ymd, ygd, 1, yops, ybs, ysz, yex, yst, yow, yle, yel, yla, ysh, yro, lo_L yst 0 8 yos, lo_f (fun i => vp_nar .short (yel i)) 0 32 yoe, lo_f (fun i => vp_nar .boolean (ysh i)) 0 8 yoh, lo_f yro 0 6 yor, yrw, upd ynx t (nI (k + 1)), ydp, ypl, ykd, ymt, ytd, yht)) : wpY_other P (ylim, ywa, ysk, ylo, nI (t + 1), ysp, yaw, yan, ywh, you, ymd, ygd, yop, yops, ybs, ysz, yex, yst, yow, yle, yel, yla, ysh, yro, yos, yoe, yoh, yor, yrw, ynx, ydp, ypl, ykd, ymt, ytd, yht) 22 v := by
  refine yo_tr_22 _ ?_
  unfold wY_other_213
  exact br_t rfl (br_f (by rw [h0]; decide) (br_t rfl (lo_ybegin _ (br_f (by decide) (yo_222 _ ht hk h)))))
theorem yo_22n (P : SY → Prop) {v' : SY} {v : Int32} (h0 : yop = 1) (hE : ∀ Q : SY → Prop, Q v' → wpY_end Q (ylim, ywa, ysk, ylo, nI (t + 1), ysp, yaw, yan, ywh, you, ymd, ygd, yop, yops, ybs, ysz, yex, yst, yow, yle, yel, yla, ysh, yro, yos, yoe, yoh, yor, yrw, ynx, ydp, ypl, ykd, ymt, ytd, yht) 8) (h : P v') : wpY_other P (ylim, ywa, ysk, ylo, nI (t + 1), ysp, yaw, yan, ywh, you, ymd, ygd, yop, yops, ybs, ysz, yex, yst, yow, yle, yel, yla, ysh, yro, yos, yoe, yoh, yor, yrw, ynx, ydp, ypl, ykd, ymt, ytd, yht) 22 v := by
  obtain ⟨a1, a2, a3, a4, a5, a6, a7, a8, a9, c1, c2, c3, c4, c5, c6, c7, c8, c9, d1, d2, d3, d4, d5, d6, d7, d8, d9, e1, e2, e3, e4, e5, e6, e7, e8, e9⟩ := v'
  refine yo_tr_22 _ ?_
  unfold wY_other_213
  exact br_t rfl (br_t h0 (hE _ (br_t rfl h)))
theorem yo_23n (P : SY → Prop) {v' : SY} {v : Int32} (h0 : yop = 0) (hE : ∀ Q : SY → Prop, Q v' → wpY_end Q (ylim, ywa, ysk, ylo, nI (t + 1), ysp, yaw, yan, ywh, you, ymd, ygd, yop, yops, ybs, ysz, yex, yst, yow, yle, yel, yla, ysh, yro, yos, yoe, yoh, yor, yrw, ynx, ydp, ypl, ykd, ymt, ytd, yht) 8) (h : P v') : wpY_other P (ylim, ywa, ysk, ylo, nI (t + 1), ysp, yaw, yan, ywh, you, ymd, ygd, yop, yops, ybs, ysz, yex, yst, yow, yle, yel, yla, ysh, yro, yos, yoe, yoh, yor, yrw, ynx, ydp, ypl, ykd, ymt, ytd, yht) 23 v := by
  obtain ⟨a1, a2, a3, a4, a5, a6, a7, a8, a9, c1, c2, c3, c4, c5, c6, c7, c8, c9, d1, d2, d3, d4, d5, d6, d7, d8, d9, e1, e2, e3, e4, e5, e6, e7, e8, e9⟩ := v'
  refine yo_tr_23 _ ?_
  unfold wY_other_213
  exact br_f (by decide) (br_t h0 (hE _ (br_t rfl h)))
theorem yo_24n (P : SY → Prop) {v' : SY} {v : Int32} (h0 : yop = 0) (hE : ∀ Q : SY → Prop, Q v' → wpY_end Q (ylim, ywa, ysk, ylo, nI (t + 1), ysp, yaw, yan, ywh, you, ymd, ygd, yop, yops, ybs, ysz, yex, yst, yow, yle, yel, yla, ysh, yro, yos, yoe, yoh, yor, yrw, ynx, ydp, ypl, ykd, ymt, ytd, yht) 8) (h : P v') : wpY_other P (ylim, ywa, ysk, ylo, nI (t + 1), ysp, yaw, yan, ywh, you, ymd, ygd, yop, yops, ybs, ysz, yex, yst, yow, yle, yel, yla, ysh, yro, yos, yoe, yoh, yor, yrw, ynx, ydp, ypl, ykd, ymt, ytd, yht) 24 v := by
  obtain ⟨a1, a2, a3, a4, a5, a6, a7, a8, a9, c1, c2, c3, c4, c5, c6, c7, c8, c9, d1, d2, d3, d4, d5, d6, d7, d8, d9, e1, e2, e3, e4, e5, e6, e7, e8, e9⟩ := v'
  refine yo_tr_24 _ ?_
  unfold wY_other_213
  exact br_f (by decide) (br_t h0 (hE _ (br_t rfl h)))
theorem yo_23 (P : SY → Prop) {v : Int32} (ht : t < 4) (hk : ynx t = nI k) (h1 : yop = 1) (h0 : ¬ yaw = 0) (h : P (ylim, ywa, ysk, ylo, nI (t + 1), ysp, re_pd yaw, yan, ywh, you, ymd, ygd, 0, yops, ybs, ysz, yex, yst, yow, yle, yel, yla, ysh, yro, yos, yoe, yoh, yor, yrw, upd ynx t (nI (k + 1)), ydp, ypl, ykd, ymt, ytd, yht)) : wpY_other P (ylim, ywa, ysk, ylo, nI (t + 1), ysp, yaw, yan, ywh, you, ymd, ygd, yop, yops, ybs, ysz, yex, yst, yow, yle, yel, yla, ysh, yro, yos, yoe, yoh, yor, yrw, ynx, ydp, ypl, ykd, ymt, ytd, yht) 23 v := by
  refine yo_tr_23 _ ?_
  unfold wY_other_213
  exact br_f (by decide) (br_f (by rw [h1]; decide) (br_f (by decide) (br_f (by decide) (re_write _ h0 (br_f (by decide) (br_f (by decide) (yo_222 _ ht hk h)))))))
theorem yo_23t (P : SY → Prop) {v' : SY} {v : Int32} (h1 : yop = 1) (h0 : yaw = 0) (hE : ∀ Q : SY → Prop, Q v' → wpY_end Q (ylim, ywa, ysk, ylo, nI (t + 1), ysp, yaw, yan, ywh, you, ymd, ygd, yop, yops, ybs, ysz, yex, yst, yow, yle, yel, yla, ysh, yro, yos, yoe, yoh, yor, yrw, ynx, ydp, ypl, ykd, ymt, ytd, yht) 9) (h : P v') : wpY_other P (ylim, ywa, ysk, ylo, nI (t + 1), ysp, yaw, yan, ywh, you, ymd, ygd, yop, yops, ybs, ysz, yex, yst, yow, yle, yel, yla, ysh, yro, yos, yoe, yoh, yor, yrw, ynx, ydp, ypl, ykd, ymt, ytd, yht) 23 v := by
  obtain ⟨a1, a2, a3, a4, a5, a6, a7, a8, a9, c1, c2, c3, c4, c5, c6, c7, c8, c9, d1, d2, d3, d4, d5, d6, d7, d8, d9, e1, e2, e3, e4, e5, e6, e7, e8, e9⟩ := v'
  refine yo_tr_23 _ ?_
  unfold wY_other_213
  exact br_f (by decide) (br_f (by rw [h1]; decide) (br_f (by decide) (br_f (by decide) (br_t h0 (hE _ (br_t rfl (br_t rfl h)))))))
theorem yo_24 (P : SY → Prop) {v : Int32} (ht : t < 4) (hk : ynx t = nI k) (h1 : yop = 1) (h : P (ylim, ywa, ysk, ylo, nI (t + 1), ysp, yaw, yan, ywh, you, ymd, ygd, 0, yops, ybs, ysz, yex, yst, yow, yle, lo_ye yst yos yla yoe 0 yel, yla, lo_ys yst yos yoh 0 ysh, lo_f yor 0 6 yro, yos, yoe, yoh, yor, yrw, upd ynx t (nI (k + 1)), ydp, ypl, ykd, ymt, ytd, yht)) : wpY_other P (ylim, ywa, ysk, ylo, nI (t + 1), ysp, yaw, yan, ywh, you, ymd, ygd, yop, yops, ybs, ysz, yex, yst, yow, yle, yel, yla, ysh, yro, yos, yoe, yoh, yor, yrw, ynx, ydp, ypl, ykd, ymt, ytd, yht) 24 v := by
  have n1 : ¬ yop = 0 := by rw [h1]; decide
  refine yo_tr_24 _ ?_
  unfold wY_other_213
  exact br_f (by decide) (br_f n1 (br_f (by decide) (br_t rfl (lo_yundo _ n1 (br_f (by decide) (yo_222 _ ht hk h))))))
/-! calls -/
theorem yo_18 (P : SY → Prop) {m b : Nat} (ht : t < 3) (hm : yrw t = nI m) (hm6 : m < 6) (hb : b < 6) (hd : ydp t = nI (d + 1)) (h4 : d < 4) (h5 : ¬ ysz b = 0) (hw : b / 2 = m / 2 ∨ ¬ yex b = 0) (hv : (ypl (8 * t + (d + 2))).toInt16.toInt32 = ypl (8 * t + (d + 2))) (h : P (ylim, ywa, ysk, ylo, nI (t + 2), ysp, yaw, yan, ywh, you, ymd, ygd, yop, yops, ybs, ysz, yex, yst, yow, yle, yel, yla, ysh, yro, yos, yoe, yoh, yor, upd yrw (t + 1) (nI b), upd ynx (t + 1) 0, upd (upd ydp t (nI d)) (t + 1) 0, upd ypl (8 * (t + 1)) (ypl (8 * t + (d + 2))), upd (upd ykd (8 * (t + 1)) 1) (8 * (t + 1) + 1) 0, ymt, ytd, yht)) : wpY_other P (ylim, ywa, ysk, ylo, nI (t + 1), ysp, yaw, yan, ywh, you, ymd, ygd, yop, yops, ybs, ysz, yex, yst, yow, yle, yel, yla, ysh, yro, yos, yoe, yoh, yor, yrw, ynx, ydp, ypl, ykd, ymt, ytd, yht) 18 (nI b) := by
  have e0 : (nI b).toNatClampNeg = b := nI_clamp (by omega)
  have k44 : wY_call_44 P (nI b) ylim ywa ysk ylo (nI (t + 1)) ysp yaw yan ywh you ymd ygd yop yops ybs ysz yex yst yow yle yel yla ysh yro yos yoe yoh yor yrw ynx ydp ypl ykd ymt ytd yht := pk_eq (t + 1) 4 (fun w => absurd w (by omega)) (fun w => pr_yentry _ (j := 0) (by omega) hd (by omega) (by omega) (pr_drop _ (j := 1) (by omega) hd (by omega) (by omega) (pr_start _ (by omega) hv h)))
  refine br_f (by decide) <| br_f (by decide) <| br_f (by decide) <| br_f (by decide) <| br_f (by decide) <| br_f (by decide) <| br_f (by decide) <| br_f (by decide) <| br_f (by decide) <| br_f (by decide) <| br_f (by decide) <| br_t rfl <|  ⟨vp_in_nI (by omega) (by omega), ?_⟩
  rw [e0]
  refine br_f h5 ⟨by decide, pr_app _ (by omega) hm hm6 ?_⟩
  rw [pr_h b hb]
  exact pk_eq (b / 2) (m / 2) (fun w => k44) (fun w => ⟨vp_in_nI (by omega) (by omega), br_f (hw.resolve_left w) k44⟩)
theorem yo_18e (P : SY → Prop) {v' : SY} {m b : Nat} (ht : t < 4) (hm : yrw t = nI m) (hm6 : m < 6) (hb : b < 6) (h5 : ysz b = 0 → (∀ Q : SY → Prop, Q v' → wpY_end Q (ylim, ywa, ysk, ylo, nI (t + 1), ysp, yaw, yan, ywh, you, ymd, ygd, yop, yops, ybs, ysz, yex, yst, yow, yle, yel, yla, ysh, yro, yos, yoe, yoh, yor, yrw, ynx, ydp, ypl, ykd, ymt, ytd, yht) 5)) (h3 : ¬ ysz b = 0 → yex b = 0 → ¬ b / 2 = m / 2 → (∀ Q : SY → Prop, Q v' → wpY_end Q (ylim, ywa, ysk, ylo, nI (t + 1), ysp, yaw, yan, ywh, you, ymd, ygd, yop, yops, ybs, ysz, yex, yst, yow, yle, yel, yla, ysh, yro, yos, yoe, yoh, yor, yrw, ynx, ydp, ypl, ykd, ymt, ytd, yht) 3)) (h6 : ¬ ysz b = 0 → (¬ yex b = 0 ∨ b / 2 = m / 2) → t = 3 ∧ (∀ Q : SY → Prop, Q v' → wpY_end Q (ylim, ywa, ysk, ylo, nI (t + 1), ysp, yaw, yan, ywh, you, ymd, ygd, yop, yops, ybs, ysz, yex, yst, yow, yle, yel, yla, ysh, yro, yos, yoe, yoh, yor, yrw, ynx, ydp, ypl, ykd, ymt, ytd, yht) 6)) (h : P v') : wpY_other P (ylim, ywa, ysk, ylo, nI (t + 1), ysp, yaw, yan, ywh, you, ymd, ygd, yop, yops, ybs, ysz, yex, yst, yow, yle, yel, yla, ysh, yro, yos, yoe, yoh, yor, yrw, ynx, ydp, ypl, ykd, ymt, ytd, yht) 18 (nI b) := by
  obtain ⟨a1, a2, a3, a4, a5, a6, a7, a8, a9, c1, c2, c3, c4, c5, c6, c7, c8, c9, d1, d2, d3, d4, d5, d6, d7, d8, d9, e1, e2, e3, e4, e5, e6, e7, e8, e9⟩ := v'
  have e0 : (nI b).toNatClampNeg = b := nI_clamp (by omega)
  have k44 : ¬ ysz b = 0 → (¬ yex b = 0 ∨ b / 2 = m / 2) → wY_call_44 P (nI b) ylim ywa ysk ylo (nI (t + 1)) ysp yaw yan ywh you ymd ygd yop yops ybs ysz yex yst yow yle yel yla ysh yro yos yoe yoh yor yrw ynx ydp ypl ykd ymt ytd yht := fun z y => pk_eq (t + 1) 4 (fun w => (h6 z y).2 _ h) (fun w => absurd (h6 z y).1 (by omega))
  refine br_f (by decide) <| br_f (by decide) <| br_f (by decide) <| br_f (by decide) <| br_f (by decide) <| br_f (by decide) <| br_f (by decide) <| br_f (by decide) <| br_f (by decide) <| br_f (by decide) <| br_f (by decide) <| br_t rfl <|  ⟨vp_in_nI (by omega) (by omega), ?_⟩
  rw [e0]
  refine br_c (fun z => h5 z _ h) (fun z => ⟨by decide, pr_app _ (by omega) hm hm6 ?_⟩)
  rw [pr_h b hb]
  exact pk_eq (b / 2) (m / 2) (fun w => k44 z (Or.inr w)) (fun w => ⟨vp_in_nI (by omega) (by omega), br_c (fun y => h3 z y w _ h) (fun y => k44 z (Or.inl y))⟩)
theorem yo_19 (P : SY → Prop) {d' : Nat} {v : Int32} (ht : t < 3) (hd : ydp (t + 1) = nI (d + 1)) (h4 : d < 4) (hd' : ydp t = nI d') (h4' : d' < 4) (hk : ynx t = nI k) (h : P (ylim, ywa, ysk, ylo, nI (t + 1), ysp, yaw, yan, ywh, you, ymd, ygd, yop, yops, ybs, ysz, yex, yst, yow, yle, yel, yla, ysh, yro, yos, yoe, yoh, yor, yrw, upd ynx t (nI (k + 1)), upd ydp t (nI (d' + 1)), upd ypl (8 * t + (d' + 2)) (ypl (8 * (t + 1) + (d + 2))), upd ykd (8 * t + (d' + 2)) 1, ymt, ytd, yht)) : wpY_other P (ylim, ywa, ysk, ylo, nI (t + 2), ysp, yaw, yan, ywh, you, ymd, ygd, yop, yops, ybs, ysz, yex, yst, yow, yle, yel, yla, ysh, yro, yos, yoe, yoh, yor, yrw, ynx, ydp, ypl, ykd, ymt, ytd, yht) 19 v :=
  br_f (by decide) <| br_f (by decide) <| br_f (by decide) <| br_f (by decide) <| br_f (by decide) <| br_f (by decide) <| br_f (by decide) <| br_f (by decide) <| br_f (by decide) <| br_f (by decide) <| br_f (by decide) <| br_f (by decide) <| br_t rfl <|  pr_yentry _ (t := t + 1) (j := 0) (by omega) hd (by omega) (by omega) (pk_eq (t + 2) 1 (fun w => absurd w (by omega)) (fun w => nm_r (nI_pred (t + 1)) (pr_ypush _ (c := 1) (by omega) hd' h4' (by decide) (pr_on _ (by omega) hk h))))
theorem yo_19e (P : SY → Prop) {v : Int32} {a1 a2 a3 a4 a5 a6 a7 a8 a9 c1 : Int32} {c2 : Int64} {c3 c4 : Int32} {c5 c6 c7 c8 : Nat → Int32} {c9 : Nat → Int64} {d1 d2 d3 d4 d5 d6 : Nat → Int32} {d7 : Nat → Int64} {d8 d9 e1 e2 e3 e4 e5 e6 e7 e8 e9 : Nat → Int32} (hd : ydp 0 = nI (d + 1)) (h4 : d < 4) (hE : ∀ Q : SY → Prop, Q (a1, a2, a3, a4, a5, a6, a7, a8, a9, c1, c2, c3, c4, c5, c6, c7, c8, c9, d1, d2, d3, d4, d5, d6, d7, d8, d9, e1, e2, e3, e4, e5, e6, e7, e8, e9) → wpY_end Q (ylim, ywa, ysk, ylo, nI 1, ysp, yaw, yan, ywh, you, ymd, ygd, yop, yops, ybs, ysz, yex, yst, yow, yle, yel, yla, ysh, yro, yos, yoe, yoh, yor, yrw, ynx, ydp, ypl, ykd, ymt, ytd, yht) 0) (h : P (a1, a2, a3, a4, a5, a6, a7, ypl (d + 2), a9, c1, c2, c3, c4, c5, c6, c7, c8, c9, d1, d2, d3, d4, d5, d6, d7, d8, d9, e1, e2, e3, e4, e5, e6, e7, e8, e9)) : wpY_other P (ylim, ywa, ysk, ylo, nI 1, ysp, yaw, yan, ywh, you, ymd, ygd, yop, yops, ybs, ysz, yex, yst, yow, yle, yel, yla, ysh, yro, yos, yoe, yoh, yor, yrw, ynx, ydp, ypl, ykd, ymt, ytd, yht) 19 v := by
  have e : 8 * 0 + (d + 1 + 1 - 0) = d + 2 := by omega
  refine br_f (by decide) <| br_f (by decide) <| br_f (by decide) <| br_f (by decide) <| br_f (by decide) <| br_f (by decide) <| br_f (by decide) <| br_f (by decide) <| br_f (by decide) <| br_f (by decide) <| br_f (by decide) <| br_f (by decide) <| br_t rfl <|  pr_yentry _ (t := 0) (j := 0) (by omega) hd (by omega) (by omega) ?_
  rw [e]
  exact br_t (by decide) (hE _ h)
end YO
end
section
/-! THE REFERENCE'S INSTRUCTIONS ON OBJECTS -/
section YB
variable {ylim ywa ysk ylo yrn ysp yaw yan ywh you ygd yop : Int32}
variable {ymd : Int64}
variable {yops ybs ysz yex yow yle yel yla ysh yro yoe yoh yor yrw ynx ydp ypl ykd ymt ytd yht : Nat → Int32}
variable {yst yos : Nat → Int64}
variable {t d k : Nat}
theorem yb_nul_12 (P : SY → Prop) {v' : SY} {B : Int32} (ht : t < 4) (hd : ydp t = nI (d + 2)) (h4 : d + 2 ≤ 4) (ho : ypl (8 * t + (d + 2)) = -1) (hE : ∀ Q : SY → Prop, Q v' → wpY_end Q (ylim, ywa, ysk, ylo, nI (t + 1), ysp, yaw, yan, ywh, you, ymd, ygd, yop, yops, ybs, ysz, yex, yst, yow, yle, yel, yla, ysh, yro, yos, yoe, yoh, yor, yrw, ynx, ydp, ypl, ykd, ymt, ytd, yht) 2) (h : P v') : wpY_onObject P (ylim, ywa, ysk, ylo, nI (t + 1), ysp, yaw, yan, ywh, you, ymd, ygd, yop, yops, ybs, ysz, yex, yst, yow, yle, yel, yla, ysh, yro, yos, yoe, yoh, yor, yrw, ynx, ydp, ypl, ykd, ymt, ytd, yht) 12 B := by
  obtain ⟨a1, a2, a3, a4, a5, a6, a7, a8, a9, c1, c2, c3, c4, c5, c6, c7, c8, c9, d1, d2, d3, d4, d5, d6, d7, d8, d9, e1, e2, e3, e4, e5, e6, e7, e8, e9⟩ := v'
  have ho' : ypl (8 * t + (d + 2 + 1 - 1)) = -1 := ho
  refine br_f (by decide) <| br_f (by decide) <|  br_t rfl <| ?_
  unfold wY_onObject_34
  refine pr_yentry _ (j := 1) ht hd (by omega) (by omega) ?_
  rw [ho']
  refine br_f (by decide) ?_
  unfold wY_onObject_50
  exact pr_yentry _ (j := 0) ht hd (by omega) (by omega) (br_f (by decide) (hE _ h))
theorem yb_ref_12 (P : SY → Prop) {m o : Nat} {B : Int32} (ht : t < 4) (hm : yrw t = nI m) (hm6 : m < 6) (hd : ydp t = nI (d + 2)) (h4 : d + 2 ≤ 4) (ho : ypl (8 * t + (d + 2)) = nI o) (ho8 : o < 8) (h0 : yow o = nI (m / 2) → wY_onObject_83 P 12 (nI o) (ypl (8 * t + (d + 3))) 0 ylim ywa ysk ylo (nI (t + 1)) ysp yaw yan ywh you ymd ygd yop yops ybs ysz yex yst yow yle yel yla ysh yro yos yoe yoh yor yrw ynx ydp ypl ykd ymt ytd yht) (h1 : ¬ yow o = nI (m / 2) → wY_onObject_83 P 12 (nI o) (ypl (8 * t + (d + 3))) 1 ylim ywa ysk ylo (nI (t + 1)) ysp yaw yan ywh you ymd ygd yop yops ybs ysz yex yst yow yle yel yla ysh yro yos yoe yoh yor yrw ynx ydp ypl ykd ymt ytd yht) : wpY_onObject P (ylim, ywa, ysk, ylo, nI (t + 1), ysp, yaw, yan, ywh, you, ymd, ygd, yop, yops, ybs, ysz, yex, yst, yow, yle, yel, yla, ysh, yro, yos, yoe, yoh, yor, yrw, ynx, ydp, ypl, ykd, ymt, ytd, yht) 12 B := by
  have ho' : ypl (8 * t + (d + 2 + 1 - 1)) = nI o := ho
  refine br_f (by decide) <| br_f (by decide) <|  br_t rfl <| ?_
  unfold wY_onObject_34
  refine pr_yentry _ (j := 1) ht hd (by omega) (by omega) ?_
  rw [ho']
  refine br_f (by decide) ?_
  unfold wY_onObject_50
  refine pr_yentry _ (j := 0) ht hd (by omega) (by omega) (br_t (nI_pos' (by omega)) ⟨vp_in_nI (by omega) (by omega), pr_app _ ht hm hm6 ?_⟩)
  rw [nI_clamp (by omega)]
  exact br_c h0 h1
theorem yb_ok_12 (P : SY → Prop) {m o : Nat} {B : Int32} (ht : t < 4) (hm : yrw t = nI m) (hm6 : m < 6) (hd : ydp t = nI (d + 2)) (h4 : d + 2 ≤ 4) (ho : ypl (8 * t + (d + 2)) = nI o) (ho8 : o < 8) (hw : ¬ ysh o = 0 ∨ yow o = nI (m / 2)) (h : wY_onObject_111 P 12 (nI o) (ypl (8 * t + (d + 3))) ylim ywa ysk ylo (nI (t + 1)) ysp yaw yan ywh you ymd ygd yop yops ybs ysz yex yst yow yle yel yla ysh yro yos yoe yoh yor yrw ynx ydp ypl ykd ymt ytd yht) : wpY_onObject P (ylim, ywa, ysk, ylo, nI (t + 1), ysp, yaw, yan, ywh, you, ymd, ygd, yop, yops, ybs, ysz, yex, yst, yow, yle, yel, yla, ysh, yro, yos, yoe, yoh, yor, yrw, ynx, ydp, ypl, ykd, ymt, ytd, yht) 12 B := by
  refine yb_ref_12 P ht hm hm6 hd h4 ho ho8 (fun z => br_t rfl h) (fun z => br_f (by decide) (br_f (by decide) ⟨vp_in_nI (by omega) (by omega), ?_⟩))
  rw [nI_clamp (by omega)]
  exact br_f (hw.resolve_right z) h
theorem yb_wall_12 (P : SY → Prop) {v' : SY} {m o : Nat} {B : Int32} (ht : t < 4) (hm : yrw t = nI m) (hm6 : m < 6) (hd : ydp t = nI (d + 2)) (h4 : d + 2 ≤ 4) (ho : ypl (8 * t + (d + 2)) = nI o) (ho8 : o < 8) (hw : ¬ (¬ ysh o = 0 ∨ yow o = nI (m / 2))) (hE : ∀ Q : SY → Prop, Q v' → wpY_end Q (ylim, ywa, ysk, ylo, nI (t + 1), ysp, yaw, yan, ywh, you, ymd, ygd, yop, yops, ybs, ysz, yex, yst, yow, yle, yel, yla, ysh, yro, yos, yoe, yoh, yor, yrw, ynx, ydp, ypl, ykd, ymt, ytd, yht) 3) (h : P v') : wpY_onObject P (ylim, ywa, ysk, ylo, nI (t + 1), ysp, yaw, yan, ywh, you, ymd, ygd, yop, yops, ybs, ysz, yex, yst, yow, yle, yel, yla, ysh, yro, yos, yoe, yoh, yor, yrw, ynx, ydp, ypl, ykd, ymt, ytd, yht) 12 B := by
  obtain ⟨a1, a2, a3, a4, a5, a6, a7, a8, a9, c1, c2, c3, c4, c5, c6, c7, c8, c9, d1, d2, d3, d4, d5, d6, d7, d8, d9, e1, e2, e3, e4, e5, e6, e7, e8, e9⟩ := v'
  refine yb_ref_12 P ht hm hm6 hd h4 ho ho8 (fun z => absurd (Or.inr z) hw) (fun z => br_f (by decide) (br_f (by decide) ⟨vp_in_nI (by omega) (by omega), ?_⟩))
  rw [nI_clamp (by omega)]
  refine br_t (Classical.byContradiction fun q => hw (Or.inl q)) ?_
  unfold wY_onObject_105
  exact hE _ h
theorem yb_nul_13 (P : SY → Prop) {v' : SY} {B : Int32} (ht : t < 4) (hd : ydp t = nI (d + 3)) (h4 : d + 3 ≤ 4) (ho : ypl (8 * t + (d + 2)) = -1) (hE : ∀ Q : SY → Prop, Q v' → wpY_end Q (ylim, ywa, ysk, ylo, nI (t + 1), ysp, yaw, yan, ywh, you, ymd, ygd, yop, yops, ybs, ysz, yex, yst, yow, yle, yel, yla, ysh, yro, yos, yoe, yoh, yor, yrw, ynx, ydp, ypl, ykd, ymt, ytd, yht) 2) (h : P v') : wpY_onObject P (ylim, ywa, ysk, ylo, nI (t + 1), ysp, yaw, yan, ywh, you, ymd, ygd, yop, yops, ybs, ysz, yex, yst, yow, yle, yel, yla, ysh, yro, yos, yoe, yoh, yor, yrw, ynx, ydp, ypl, ykd, ymt, ytd, yht) 13 B := by
  obtain ⟨a1, a2, a3, a4, a5, a6, a7, a8, a9, c1, c2, c3, c4, c5, c6, c7, c8, c9, d1, d2, d3, d4, d5, d6, d7, d8, d9, e1, e2, e3, e4, e5, e6, e7, e8, e9⟩ := v'
  have ho' : ypl (8 * t + (d + 3 + 1 - 2)) = -1 := ho
  refine br_f (by decide) <|  br_t rfl <| ?_
  unfold wY_onObject_34
  refine pr_yentry _ (j := 2) ht hd (by omega) (by omega) ?_
  rw [ho']
  refine br_t rfl ?_
  unfold wY_onObject_50
  exact pr_yentry _ (j := 1) ht hd (by omega) (by omega) (br_f (by decide) (hE _ h))
theorem yb_ref_13 (P : SY → Prop) {m o : Nat} {B : Int32} (ht : t < 4) (hm : yrw t = nI m) (hm6 : m < 6) (hd : ydp t = nI (d + 3)) (h4 : d + 3 ≤ 4) (ho : ypl (8 * t + (d + 2)) = nI o) (ho8 : o < 8) (h0 : yow o = nI (m / 2) → wY_onObject_83 P 13 (nI o) (ypl (8 * t + (d + 3))) 0 ylim ywa ysk ylo (nI (t + 1)) ysp yaw yan ywh you ymd ygd yop yops ybs ysz yex yst yow yle yel yla ysh yro yos yoe yoh yor yrw ynx ydp ypl ykd ymt ytd yht) (h1 : ¬ yow o = nI (m / 2) → wY_onObject_83 P 13 (nI o) (ypl (8 * t + (d + 3))) 1 ylim ywa ysk ylo (nI (t + 1)) ysp yaw yan ywh you ymd ygd yop yops ybs ysz yex yst yow yle yel yla ysh yro yos yoe yoh yor yrw ynx ydp ypl ykd ymt ytd yht) : wpY_onObject P (ylim, ywa, ysk, ylo, nI (t + 1), ysp, yaw, yan, ywh, you, ymd, ygd, yop, yops, ybs, ysz, yex, yst, yow, yle, yel, yla, ysh, yro, yos, yoe, yoh, yor, yrw, ynx, ydp, ypl, ykd, ymt, ytd, yht) 13 B := by
  have ho' : ypl (8 * t + (d + 3 + 1 - 2)) = nI o := ho
  refine br_f (by decide) <|  br_t rfl <| ?_
  unfold wY_onObject_34
  refine pr_yentry _ (j := 2) ht hd (by omega) (by omega) ?_
  rw [ho']
  refine br_t rfl ?_
  unfold wY_onObject_50
  refine pr_yentry _ (j := 1) ht hd (by omega) (by omega) (br_t (nI_pos' (by omega)) ⟨vp_in_nI (by omega) (by omega), pr_app _ ht hm hm6 ?_⟩)
  rw [nI_clamp (by omega)]
  exact br_c h0 h1
theorem yb_ok_13 (P : SY → Prop) {m o : Nat} {B : Int32} (ht : t < 4) (hm : yrw t = nI m) (hm6 : m < 6) (hd : ydp t = nI (d + 3)) (h4 : d + 3 ≤ 4) (ho : ypl (8 * t + (d + 2)) = nI o) (ho8 : o < 8) (hw : ¬ ysh o = 0 ∨ yow o = nI (m / 2)) (h : wY_onObject_111 P 13 (nI o) (ypl (8 * t + (d + 3))) ylim ywa ysk ylo (nI (t + 1)) ysp yaw yan ywh you ymd ygd yop yops ybs ysz yex yst yow yle yel yla ysh yro yos yoe yoh yor yrw ynx ydp ypl ykd ymt ytd yht) : wpY_onObject P (ylim, ywa, ysk, ylo, nI (t + 1), ysp, yaw, yan, ywh, you, ymd, ygd, yop, yops, ybs, ysz, yex, yst, yow, yle, yel, yla, ysh, yro, yos, yoe, yoh, yor, yrw, ynx, ydp, ypl, ykd, ymt, ytd, yht) 13 B := by
  refine yb_ref_13 P ht hm hm6 hd h4 ho ho8 (fun z => br_t rfl h) (fun z => br_f (by decide) (br_f (by decide) ⟨vp_in_nI (by omega) (by omega), ?_⟩))
  rw [nI_clamp (by omega)]
  exact br_f (hw.resolve_right z) h
theorem yb_wall_13 (P : SY → Prop) {v' : SY} {m o : Nat} {B : Int32} (ht : t < 4) (hm : yrw t = nI m) (hm6 : m < 6) (hd : ydp t = nI (d + 3)) (h4 : d + 3 ≤ 4) (ho : ypl (8 * t + (d + 2)) = nI o) (ho8 : o < 8) (hw : ¬ (¬ ysh o = 0 ∨ yow o = nI (m / 2))) (hE : ∀ Q : SY → Prop, Q v' → wpY_end Q (ylim, ywa, ysk, ylo, nI (t + 1), ysp, yaw, yan, ywh, you, ymd, ygd, yop, yops, ybs, ysz, yex, yst, yow, yle, yel, yla, ysh, yro, yos, yoe, yoh, yor, yrw, ynx, ydp, ypl, ykd, ymt, ytd, yht) 3) (h : P v') : wpY_onObject P (ylim, ywa, ysk, ylo, nI (t + 1), ysp, yaw, yan, ywh, you, ymd, ygd, yop, yops, ybs, ysz, yex, yst, yow, yle, yel, yla, ysh, yro, yos, yoe, yoh, yor, yrw, ynx, ydp, ypl, ykd, ymt, ytd, yht) 13 B := by
  obtain ⟨a1, a2, a3, a4, a5, a6, a7, a8, a9, c1, c2, c3, c4, c5, c6, c7, c8, c9, d1, d2, d3, d4, d5, d6, d7, d8, d9, e1, e2, e3, e4, e5, e6, e7, e8, e9⟩ := v'
  refine yb_ref_13 P ht hm hm6 hd h4 ho ho8 (fun z => absurd (Or.inr z) hw) (fun z => br_f (by decide) (br_f (by decide) ⟨vp_in_nI (by omega) (by omega), ?_⟩))
  rw [nI_clamp (by omega)]
  refine br_t (Classical.byContradiction fun q => hw (Or.inl q)) ?_
  unfold wY_onObject_105
  exact hE _ h
theorem yb_nul_14 (P : SY → Prop) {v' : SY} {B : Int32} (ht : t < 4) (hd : ydp t = nI (d + 1)) (h4 : d + 1 ≤ 4) (ho : ypl (8 * t + (d + 2)) = -1) (hE : ∀ Q : SY → Prop, Q v' → wpY_end Q (ylim, ywa, ysk, ylo, nI (t + 1), ysp, yaw, yan, ywh, you, ymd, ygd, yop, yops, ybs, ysz, yex, yst, yow, yle, yel, yla, ysh, yro, yos, yoe, yoh, yor, yrw, ynx, ydp, ypl, ykd, ymt, ytd, yht) 2) (h : P v') : wpY_onObject P (ylim, ywa, ysk, ylo, nI (t + 1), ysp, yaw, yan, ywh, you, ymd, ygd, yop, yops, ybs, ysz, yex, yst, yow, yle, yel, yla, ysh, yro, yos, yoe, yoh, yor, yrw, ynx, ydp, ypl, ykd, ymt, ytd, yht) 14 B := by
  obtain ⟨a1, a2, a3, a4, a5, a6, a7, a8, a9, c1, c2, c3, c4, c5, c6, c7, c8, c9, d1, d2, d3, d4, d5, d6, d7, d8, d9, e1, e2, e3, e4, e5, e6, e7, e8, e9⟩ := v'
  have ho' : ypl (8 * t + (d + 1 + 1 - 0)) = -1 := ho
  refine br_f (by decide) <| br_f (by decide) <| br_f (by decide) <|  ?_
  unfold wY_onObject_34
  refine pr_yentry _ (j := 0) ht hd (by omega) (by omega) ?_
  rw [ho']
  refine br_f (by decide) ?_
  unfold wY_onObject_50
  exact pr_yentry _ (j := 0) ht hd (by omega) (by omega) (br_f (by decide) (hE _ h))
theorem yb_ref_14 (P : SY → Prop) {m o : Nat} {B : Int32} (ht : t < 4) (hm : yrw t = nI m) (hm6 : m < 6) (hd : ydp t = nI (d + 1)) (h4 : d + 1 ≤ 4) (ho : ypl (8 * t + (d + 2)) = nI o) (ho8 : o < 8) (h0 : yow o = nI (m / 2) → wY_onObject_83 P 14 (nI o) (ypl (8 * t + (d + 2))) 0 ylim ywa ysk ylo (nI (t + 1)) ysp yaw yan ywh you ymd ygd yop yops ybs ysz yex yst yow yle yel yla ysh yro yos yoe yoh yor yrw ynx ydp ypl ykd ymt ytd yht) (h1 : ¬ yow o = nI (m / 2) → wY_onObject_83 P 14 (nI o) (ypl (8 * t + (d + 2))) 1 ylim ywa ysk ylo (nI (t + 1)) ysp yaw yan ywh you ymd ygd yop yops ybs ysz yex yst yow yle yel yla ysh yro yos yoe yoh yor yrw ynx ydp ypl ykd ymt ytd yht) : wpY_onObject P (ylim, ywa, ysk, ylo, nI (t + 1), ysp, yaw, yan, ywh, you, ymd, ygd, yop, yops, ybs, ysz, yex, yst, yow, yle, yel, yla, ysh, yro, yos, yoe, yoh, yor, yrw, ynx, ydp, ypl, ykd, ymt, ytd, yht) 14 B := by
  have ho' : ypl (8 * t + (d + 1 + 1 - 0)) = nI o := ho
  refine br_f (by decide) <| br_f (by decide) <| br_f (by decide) <|  ?_
  unfold wY_onObject_34
  refine pr_yentry _ (j := 0) ht hd (by omega) (by omega) ?_
  rw [ho']
  refine br_f (by decide) ?_
  unfold wY_onObject_50
  refine pr_yentry _ (j := 0) ht hd (by omega) (by omega) (br_t (nI_pos' (by omega)) ⟨vp_in_nI (by omega) (by omega), pr_app _ ht hm hm6 ?_⟩)
  rw [nI_clamp (by omega)]
  exact br_c h0 h1
theorem yb_wall_14 (P : SY → Prop) {v' : SY} {m o : Nat} {B : Int32} (ht : t < 4) (hm : yrw t = nI m) (hm6 : m < 6) (hd : ydp t = nI (d + 1)) (h4 : d + 1 ≤ 4) (ho : ypl (8 * t + (d + 2)) = nI o) (ho8 : o < 8) (hw : ¬ yow o = nI (m / 2)) (hE : ∀ Q : SY → Prop, Q v' → wpY_end Q (ylim, ywa, ysk, ylo, nI (t + 1), ysp, yaw, yan, ywh, you, ymd, ygd, yop, yops, ybs, ysz, yex, yst, yow, yle, yel, yla, ysh, yro, yos, yoe, yoh, yor, yrw, ynx, ydp, ypl, ykd, ymt, ytd, yht) 3) (h : P v') : wpY_onObject P (ylim, ywa, ysk, ylo, nI (t + 1), ysp, yaw, yan, ywh, you, ymd, ygd, yop, yops, ybs, ysz, yex, yst, yow, yle, yel, yla, ysh, yro, yos, yoe, yoh, yor, yrw, ynx, ydp, ypl, ykd, ymt, ytd, yht) 14 B := by
  obtain ⟨a1, a2, a3, a4, a5, a6, a7, a8, a9, c1, c2, c3, c4, c5, c6, c7, c8, c9, d1, d2, d3, d4, d5, d6, d7, d8, d9, e1, e2, e3, e4, e5, e6, e7, e8, e9⟩ := v'
  refine yb_ref_14 P ht hm hm6 hd h4 ho ho8 (fun z => absurd z hw) (fun z => br_f (by decide) (br_t rfl ?_))
  unfold wY_onObject_105
  exact hE _ h
theorem yb_nul_15 (P : SY → Prop) {v' : SY} {B : Int32} (ht : t < 4) (hd : ydp t = nI (d + 1)) (h4 : d + 1 ≤ 4) (ho : ypl (8 * t + (d + 2)) = -1) (hE : ∀ Q : SY → Prop, Q v' → wpY_end Q (ylim, ywa, ysk, ylo, nI (t + 1), ysp, yaw, yan, ywh, you, ymd, ygd, yop, yops, ybs, ysz, yex, yst, yow, yle, yel, yla, ysh, yro, yos, yoe, yoh, yor, yrw, ynx, ydp, ypl, ykd, ymt, ytd, yht) 2) (h : P v') : wpY_onObject P (ylim, ywa, ysk, ylo, nI (t + 1), ysp, yaw, yan, ywh, you, ymd, ygd, yop, yops, ybs, ysz, yex, yst, yow, yle, yel, yla, ysh, yro, yos, yoe, yoh, yor, yrw, ynx, ydp, ypl, ykd, ymt, ytd, yht) 15 B := by
  obtain ⟨a1, a2, a3, a4, a5, a6, a7, a8, a9, c1, c2, c3, c4, c5, c6, c7, c8, c9, d1, d2, d3, d4, d5, d6, d7, d8, d9, e1, e2, e3, e4, e5, e6, e7, e8, e9⟩ := v'
  have ho' : ypl (8 * t + (d + 1 + 1 - 0)) = -1 := ho
  refine br_f (by decide) <| br_f (by decide) <| br_f (by decide) <|  ?_
  unfold wY_onObject_34
  refine pr_yentry _ (j := 0) ht hd (by omega) (by omega) ?_
  rw [ho']
  refine br_f (by decide) ?_
  unfold wY_onObject_50
  exact pr_yentry _ (j := 0) ht hd (by omega) (by omega) (br_f (by decide) (hE _ h))
theorem yb_ref_15 (P : SY → Prop) {m o : Nat} {B : Int32} (ht : t < 4) (hm : yrw t = nI m) (hm6 : m < 6) (hd : ydp t = nI (d + 1)) (h4 : d + 1 ≤ 4) (ho : ypl (8 * t + (d + 2)) = nI o) (ho8 : o < 8) (h0 : yow o = nI (m / 2) → wY_onObject_83 P 15 (nI o) (ypl (8 * t + (d + 2))) 0 ylim ywa ysk ylo (nI (t + 1)) ysp yaw yan ywh you ymd ygd yop yops ybs ysz yex yst yow yle yel yla ysh yro yos yoe yoh yor yrw ynx ydp ypl ykd ymt ytd yht) (h1 : ¬ yow o = nI (m / 2) → wY_onObject_83 P 15 (nI o) (ypl (8 * t + (d + 2))) 1 ylim ywa ysk ylo (nI (t + 1)) ysp yaw yan ywh you ymd ygd yop yops ybs ysz yex yst yow yle yel yla ysh yro yos yoe yoh yor yrw ynx ydp ypl ykd ymt ytd yht) : wpY_onObject P (ylim, ywa, ysk, ylo, nI (t + 1), ysp, yaw, yan, ywh, you, ymd, ygd, yop, yops, ybs, ysz, yex, yst, yow, yle, yel, yla, ysh, yro, yos, yoe, yoh, yor, yrw, ynx, ydp, ypl, ykd, ymt, ytd, yht) 15 B := by
  have ho' : ypl (8 * t + (d + 1 + 1 - 0)) = nI o := ho
  refine br_f (by decide) <| br_f (by decide) <| br_f (by decide) <|  ?_
  unfold wY_onObject_34
  refine pr_yentry _ (j := 0) ht hd (by omega) (by omega) ?_
  rw [ho']
  refine br_f (by decide) ?_
  unfold wY_onObject_50
  refine pr_yentry _ (j := 0) ht hd (by omega) (by omega) (br_t (nI_pos' (by omega)) ⟨vp_in_nI (by omega) (by omega), pr_app _ ht hm hm6 ?_⟩)
  rw [nI_clamp (by omega)]
  exact br_c h0 h1
theorem yb_ok_15 (P : SY → Prop) {m o : Nat} {B : Int32} (ht : t < 4) (hm : yrw t = nI m) (hm6 : m < 6) (hd : ydp t = nI (d + 1)) (h4 : d + 1 ≤ 4) (ho : ypl (8 * t + (d + 2)) = nI o) (ho8 : o < 8) (hw : ¬ ysh o = 0 ∨ yow o = nI (m / 2)) (h : wY_onObject_111 P 15 (nI o) (ypl (8 * t + (d + 2))) ylim ywa ysk ylo (nI (t + 1)) ysp yaw yan ywh you ymd ygd yop yops ybs ysz yex yst yow yle yel yla ysh yro yos yoe yoh yor yrw ynx ydp ypl ykd ymt ytd yht) : wpY_onObject P (ylim, ywa, ysk, ylo, nI (t + 1), ysp, yaw, yan, ywh, you, ymd, ygd, yop, yops, ybs, ysz, yex, yst, yow, yle, yel, yla, ysh, yro, yos, yoe, yoh, yor, yrw, ynx, ydp, ypl, ykd, ymt, ytd, yht) 15 B := by
  refine yb_ref_15 P ht hm hm6 hd h4 ho ho8 (fun z => br_t rfl h) (fun z => br_f (by decide) (br_f (by decide) ⟨vp_in_nI (by omega) (by omega), ?_⟩))
  rw [nI_clamp (by omega)]
  exact br_f (hw.resolve_right z) h
theorem yb_wall_15 (P : SY → Prop) {v' : SY} {m o : Nat} {B : Int32} (ht : t < 4) (hm : yrw t = nI m) (hm6 : m < 6) (hd : ydp t = nI (d + 1)) (h4 : d + 1 ≤ 4) (ho : ypl (8 * t + (d + 2)) = nI o) (ho8 : o < 8) (hw : ¬ (¬ ysh o = 0 ∨ yow o = nI (m / 2))) (hE : ∀ Q : SY → Prop, Q v' → wpY_end Q (ylim, ywa, ysk, ylo, nI (t + 1), ysp, yaw, yan, ywh, you, ymd, ygd, yop, yops, ybs, ysz, yex, yst, yow, yle, yel, yla, ysh, yro, yos, yoe, yoh, yor, yrw, ynx, ydp, ypl, ykd, ymt, ytd, yht) 3) (h : P v') : wpY_onObject P (ylim, ywa, ysk, ylo, nI (t + 1), ysp, yaw, yan, ywh, you, ymd, ygd, yop, yops, ybs, ysz, yex, yst, yow, yle, yel, yla, ysh, yro, yos, yoe, yoh, yor, yrw, ynx, ydp, ypl, ykd, ymt, ytd, yht) 15 B := by
  obtain ⟨a1, a2, a3, a4, a5, a6, a7, a8, a9, c1, c2, c3, c4, c5, c6, c7, c8, c9, d1, d2, d3, d4, d5, d6, d7, d8, d9, e1, e2, e3, e4, e5, e6, e7, e8, e9⟩ := v'
  refine yb_ref_15 P ht hm hm6 hd h4 ho ho8 (fun z => absurd (Or.inr z) hw) (fun z => br_f (by decide) (br_f (by decide) ⟨vp_in_nI (by omega) (by omega), ?_⟩))
  rw [nI_clamp (by omega)]
  refine br_t (Classical.byContradiction fun q => hw (Or.inl q)) ?_
  unfold wY_onObject_105
  exact hE _ h
theorem yb_bnd_12 (P : SY → Prop) {v' : SY} {o : Nat} {iv : Int32} (ho8 : o < 8) (hb : ¬ (¬ iv < 0 ∧ iv < yle o)) (hE : ∀ Q : SY → Prop, Q v' → wpY_end Q (ylim, ywa, ysk, ylo, nI (t + 1), ysp, yaw, yan, ywh, you, ymd, ygd, yop, yops, ybs, ysz, yex, yst, yow, yle, yel, yla, ysh, yro, yos, yoe, yoh, yor, yrw, ynx, ydp, ypl, ykd, ymt, ytd, yht) 4) (h : P v') : wY_onObject_111 P 12 (nI o) iv ylim ywa ysk ylo (nI (t + 1)) ysp yaw yan ywh you ymd ygd yop yops ybs ysz yex yst yow yle yel yla ysh yro yos yoe yoh yor yrw ynx ydp ypl ykd ymt ytd yht := by
  obtain ⟨a1, a2, a3, a4, a5, a6, a7, a8, a9, c1, c2, c3, c4, c5, c6, c7, c8, c9, d1, d2, d3, d4, d5, d6, d7, d8, d9, e1, e2, e3, e4, e5, e6, e7, e8, e9⟩ := v'
  have k : wY_onObject_139 P ylim ywa ysk ylo (nI (t + 1)) ysp yaw yan ywh you ymd ygd yop yops ybs ysz yex yst yow yle yel yla ysh yro yos yoe yoh yor yrw ynx ydp ypl ykd ymt ytd yht := by
    unfold wY_onObject_139
    exact hE _ h
  refine br_t rfl <| br_c (fun z => k) (fun z => ⟨vp_in_nI (by omega) (by omega), ?_⟩)
  rw [nI_clamp (by omega)]
  exact br_c (fun y => absurd ⟨z, y⟩ hb) (fun y => k)
theorem yb_in_12 (P : SY → Prop) {o : Nat} {iv : Int32} (ho8 : o < 8) (hb : ¬ iv < 0 ∧ iv < yle o) (h : wY_onObject_145 P 12 (nI o) iv ylim ywa ysk ylo (nI (t + 1)) ysp yaw yan ywh you ymd ygd yop yops ybs ysz yex yst yow yle yel yla ysh yro yos yoe yoh yor yrw ynx ydp ypl ykd ymt ytd yht) : wY_onObject_111 P 12 (nI o) iv ylim ywa ysk ylo (nI (t + 1)) ysp yaw yan ywh you ymd ygd yop yops ybs ysz yex yst yow yle yel yla ysh yro yos yoe yoh yor yrw ynx ydp ypl ykd ymt ytd yht := by
  refine br_t rfl <| br_f hb.1 ⟨vp_in_nI (by omega) (by omega), ?_⟩
  rw [nI_clamp (by omega)]
  exact br_t hb.2 h
theorem yb_bnd_13 (P : SY → Prop) {v' : SY} {o : Nat} {iv : Int32} (ho8 : o < 8) (hb : ¬ (¬ iv < 0 ∧ iv < yle o)) (hE : ∀ Q : SY → Prop, Q v' → wpY_end Q (ylim, ywa, ysk, ylo, nI (t + 1), ysp, yaw, yan, ywh, you, ymd, ygd, yop, yops, ybs, ysz, yex, yst, yow, yle, yel, yla, ysh, yro, yos, yoe, yoh, yor, yrw, ynx, ydp, ypl, ykd, ymt, ytd, yht) 4) (h : P v') : wY_onObject_111 P 13 (nI o) iv ylim ywa ysk ylo (nI (t + 1)) ysp yaw yan ywh you ymd ygd yop yops ybs ysz yex yst yow yle yel yla ysh yro yos yoe yoh yor yrw ynx ydp ypl ykd ymt ytd yht := by
  obtain ⟨a1, a2, a3, a4, a5, a6, a7, a8, a9, c1, c2, c3, c4, c5, c6, c7, c8, c9, d1, d2, d3, d4, d5, d6, d7, d8, d9, e1, e2, e3, e4, e5, e6, e7, e8, e9⟩ := v'
  have k : wY_onObject_139 P ylim ywa ysk ylo (nI (t + 1)) ysp yaw yan ywh you ymd ygd yop yops ybs ysz yex yst yow yle yel yla ysh yro yos yoe yoh yor yrw ynx ydp ypl ykd ymt ytd yht := by
    unfold wY_onObject_139
    exact hE _ h
  refine br_f (by decide) <| br_t rfl <| br_c (fun z => k) (fun z => ⟨vp_in_nI (by omega) (by omega), ?_⟩)
  rw [nI_clamp (by omega)]
  exact br_c (fun y => absurd ⟨z, y⟩ hb) (fun y => k)
theorem yb_in_13 (P : SY → Prop) {o : Nat} {iv : Int32} (ho8 : o < 8) (hb : ¬ iv < 0 ∧ iv < yle o) (h : wY_onObject_145 P 13 (nI o) iv ylim ywa ysk ylo (nI (t + 1)) ysp yaw yan ywh you ymd ygd yop yops ybs ysz yex yst yow yle yel yla ysh yro yos yoe yoh yor yrw ynx ydp ypl ykd ymt ytd yht) : wY_onObject_111 P 13 (nI o) iv ylim ywa ysk ylo (nI (t + 1)) ysp yaw yan ywh you ymd ygd yop yops ybs ysz yex yst yow yle yel yla ysh yro yos yoe yoh yor yrw ynx ydp ypl ykd ymt ytd yht := by
  refine br_f (by decide) <| br_t rfl <| br_f hb.1 ⟨vp_in_nI (by omega) (by omega), ?_⟩
  rw [nI_clamp (by omega)]
  exact br_t hb.2 h
theorem yb_torn_13 (P : SY → Prop) {v' : SY} {o : Nat} {iv : Int32} (h0 : yaw = 0) (hE : ∀ Q : SY → Prop, Q v' → wpY_end Q (ylim, ywa, ysk, ylo, nI (t + 1), ysp, yaw, yan, ywh, you, ymd, ygd, yop, yops, ybs, ysz, yex, yst, yow, yle, yel, yla, ysh, yro, yos, yoe, yoh, yor, yrw, ynx, ydp, ypl, ykd, ymt, ytd, yht) 9) (h : P v') : wY_onObject_166 P 13 (nI o) iv ylim ywa ysk ylo (nI (t + 1)) ysp yaw yan ywh you ymd ygd yop yops ybs ysz yex yst yow yle yel yla ysh yro yos yoe yoh yor yrw ynx ydp ypl ykd ymt ytd yht := by
  obtain ⟨a1, a2, a3, a4, a5, a6, a7, a8, a9, c1, c2, c3, c4, c5, c6, c7, c8, c9, d1, d2, d3, d4, d5, d6, d7, d8, d9, e1, e2, e3, e4, e5, e6, e7, e8, e9⟩ := v'
  exact br_f (by decide) (br_t h0 (hE _ (br_t rfl h)))
theorem yb_due_13 (P : SY → Prop) {o : Nat} {iv : Int32} (h0 : ¬ yaw = 0) (h : wY_onObject_186 P 13 (nI o) iv ylim ywa ysk ylo (nI (t + 1)) ysp (re_pd yaw) yan ywh you ymd ygd yop yops ybs ysz yex yst yow yle yel yla ysh yro yos yoe yoh yor yrw ynx ydp ypl ykd ymt ytd yht) : wY_onObject_166 P 13 (nI o) iv ylim ywa ysk ylo (nI (t + 1)) ysp yaw yan ywh you ymd ygd yop yops ybs ysz yex yst yow yle yel yla ysh yro yos yoe yoh yor yrw ynx ydp ypl ykd ymt ytd yht :=
  br_f (by decide) (re_write _ h0 (br_f (by decide) h))
theorem yb_torn_14 (P : SY → Prop) {v' : SY} {o : Nat} {iv : Int32} (h0 : yaw = 0) (hE : ∀ Q : SY → Prop, Q v' → wpY_end Q (ylim, ywa, ysk, ylo, nI (t + 1), ysp, yaw, yan, ywh, you, ymd, ygd, yop, yops, ybs, ysz, yex, yst, yow, yle, yel, yla, ysh, yro, yos, yoe, yoh, yor, yrw, ynx, ydp, ypl, ykd, ymt, ytd, yht) 9) (h : P v') : wY_onObject_166 P 14 (nI o) iv ylim ywa ysk ylo (nI (t + 1)) ysp yaw yan ywh you ymd ygd yop yops ybs ysz yex yst yow yle yel yla ysh yro yos yoe yoh yor yrw ynx ydp ypl ykd ymt ytd yht := by
  obtain ⟨a1, a2, a3, a4, a5, a6, a7, a8, a9, c1, c2, c3, c4, c5, c6, c7, c8, c9, d1, d2, d3, d4, d5, d6, d7, d8, d9, e1, e2, e3, e4, e5, e6, e7, e8, e9⟩ := v'
  exact br_f (by decide) (br_t h0 (hE _ (br_t rfl h)))
theorem yb_due_14 (P : SY → Prop) {o : Nat} {iv : Int32} (h0 : ¬ yaw = 0) (h : wY_onObject_186 P 14 (nI o) iv ylim ywa ysk ylo (nI (t + 1)) ysp (re_pd yaw) yan ywh you ymd ygd yop yops ybs ysz yex yst yow yle yel yla ysh yro yos yoe yoh yor yrw ynx ydp ypl ykd ymt ytd yht) : wY_onObject_166 P 14 (nI o) iv ylim ywa ysk ylo (nI (t + 1)) ysp yaw yan ywh you ymd ygd yop yops ybs ysz yex yst yow yle yel yla ysh yro yos yoe yoh yor yrw ynx ydp ypl ykd ymt ytd yht :=
  br_f (by decide) (re_write _ h0 (br_f (by decide) h))
theorem yb_12 (P : SY → Prop) {o i : Nat} (ht : t < 4) (hk : ynx t = nI k) (hd : ydp t = nI (d + 2)) (h4 : d < 3) (ho8 : o < 8) (hi : i < 4) (h : P (ylim, ywa, ysk, ylo, nI (t + 1), ysp, yaw, yan, ywh, you, ymd, ygd, yop, yops, ybs, ysz, yex, yst, yow, yle, yel, yla, ysh, yro, yos, yoe, yoh, yor, yrw, upd ynx t (nI (k + 1)), upd ydp t (nI (d + 1)), upd ypl (8 * t + (d + 2)) (yel (4 * o + i)), upd ykd (8 * t + (d + 2)) 1, ymt, ytd, yht)) : wY_onObject_145 P 12 (nI o) (nI i) ylim ywa ysk ylo (nI (t + 1)) ysp yaw yan ywh you ymd ygd yop yops ybs ysz yex yst yow yle yel yla ysh yro yos yoe yoh yor yrw ynx ydp ypl ykd ymt ytd yht := by
  refine br_f (by decide) (br_f (by decide) (br_t rfl ?_))
  unfold wY_onObject_186
  refine pr_yentry _ (j := 0) ht hd (by omega) (by omega) (br_f (by decide) (br_t rfl ?_))
  unfold wY_onObject_215
  refine pr_drop _ (j := 2) ht hd (by omega) (by omega) (br_t rfl ?_)
  rw [pr_4b, nI_clamp (by omega)]
  refine ⟨vp_in_nI (by omega) (by omega), pr_ypush _ (c := 1) (d := d) ht pk_us (by omega) (by decide) (br_f (by decide) (br_f (by decide) (br_f (by decide) (yo_290 _ ht hk ?_))))⟩
  rw [rl_uu]
  exact h
theorem yb_13 (P : SY → Prop) {o i : Nat} (ht : t < 4) (hk : ynx t = nI k) (hd : ydp t = nI (d + 3)) (h4 : d < 2) (ho8 : o < 8) (hi : i < 4) (hv : rl_sv (ypl (8 * t + (d + 4)))) (h : P (ylim, ywa, ysk, ylo, nI (t + 1), ysp, yaw, yan, ywh, you, ymd, ygd, yop, yops, ybs, ysz, yex, yst, yow, yle, upd yel (4 * o + i) (ypl (8 * t + (d + 4))), yla, ysh, yro, yos, yoe, yoh, yor, yrw, upd ynx t (nI (k + 1)), upd ydp t (nI d), ypl, ykd, ymt, ytd, yht)) : wY_onObject_186 P 13 (nI o) (nI i) ylim ywa ysk ylo (nI (t + 1)) ysp yaw yan ywh you ymd ygd yop yops ybs ysz yex yst yow yle yel yla ysh yro yos yoe yoh yor yrw ynx ydp ypl ykd ymt ytd yht := by
  unfold wY_onObject_186
  refine pr_yentry _ (j := 0) ht hd (by omega) (by omega) (br_t rfl ?_)
  unfold wY_onObject_215
  refine pr_drop _ (j := 3) ht hd (by omega) (by omega) (br_f (by decide) (br_t rfl ?_))
  have e1 : (4 : Int32) * nI o + nI i = nI (4 * o + i) := pr_4b o i
  have hv' : vp_nar .short (ypl (8 * t + (d + 3 + 1 - 0))).toInt16.toInt32 = ypl (8 * t + (d + 4)) := by
    rw [pk_vs]
    exact hv
  refine ⟨by rw [e1]; exact vp_in_nI (by omega) (by omega), nm_r (e' := upd yel (4 * o + i) (ypl (8 * t + (d + 4)))) (by rw [e1, nI_clamp (by omega), hv']) (br_f (by decide) (br_f (by decide) (yo_290 _ ht hk h)))⟩
theorem yb_14 (P : SY → Prop) {o : Nat} {iv : Int32} (ht : t < 4) (hk : ynx t = nI k) (hd : ydp t = nI (d + 1)) (h4 : d < 4) (ho8 : o < 8) (h : P (ylim, ywa, ysk, ylo, nI (t + 1), ysp, yaw, yan, ywh, you, ymd, ygd, yop, yops, ybs, ysz, yex, yst, yow, yle, yel, yla, upd ysh o 1, yro, yos, yoe, yoh, yor, yrw, upd ynx t (nI (k + 1)), upd ydp t (nI d), ypl, ykd, ymt, ytd, yht)) : wY_onObject_186 P 14 (nI o) iv ylim ywa ysk ylo (nI (t + 1)) ysp yaw yan ywh you ymd ygd yop yops ybs ysz yex yst yow yle yel yla ysh yro yos yoe yoh yor yrw ynx ydp ypl ykd ymt ytd yht := by
  unfold wY_onObject_186
  refine pr_yentry _ (j := 0) ht hd (by omega) (by omega) (br_f (by decide) (br_f (by decide) ?_))
  unfold wY_onObject_215
  exact pr_drop _ (j := 1) ht hd (by omega) (by omega) (br_f (by decide) (br_f (by decide) (br_t rfl ⟨vp_in_nI (by omega) (by omega), nm_r (by rw [nI_clamp (by omega), he_b1]) (br_f (by decide) (yo_290 _ ht hk h))⟩)))
theorem yb_15 (P : SY → Prop) {o : Nat} {iv : Int32} (ht : t < 4) (hk : ynx t = nI k) (hd : ydp t = nI (d + 1)) (h4 : d < 4) (ho8 : o < 8) (h : P (ylim, ywa, ysk, ylo, nI (t + 1), ysp, yaw, yan, ywh, you, ymd, ygd, yop, yops, ybs, ysz, yex, yst, yow, yle, yel, yla, ysh, yro, yos, yoe, yoh, yor, yrw, upd ynx t (nI (k + 1)), upd ydp t (nI (d + 1)), upd ypl (8 * t + (d + 2)) (yle o), upd ykd (8 * t + (d + 2)) 1, ymt, ytd, yht)) : wY_onObject_111 P 15 (nI o) iv ylim ywa ysk ylo (nI (t + 1)) ysp yaw yan ywh you ymd ygd yop yops ybs ysz yex yst yow yle yel yla ysh yro yos yoe yoh yor yrw ynx ydp ypl ykd ymt ytd yht := by
  refine br_f (by decide) (br_f (by decide) (br_f (by decide) (br_f (by decide) (br_t rfl ?_))))
  unfold wY_onObject_186
  refine pr_yentry _ (j := 0) ht hd (by omega) (by omega) (br_f (by decide) (br_f (by decide) ?_))
  unfold wY_onObject_215
  refine pr_drop _ (j := 1) ht hd (by omega) (by omega) (br_f (by decide) (br_f (by decide) (br_f (by decide) (br_t rfl ⟨vp_in_nI (by omega) (by omega), ?_⟩))))
  rw [nI_clamp (by omega)]
  refine pr_ypush _ (c := 1) (d := d) ht pk_us (by omega) (by decide) (yo_290 _ ht hk ?_)
  rw [rl_uu]
  exact h
/-! NEW -/
theorem yb_make (P : SY → Prop) {m q : Nat} {B n z : Int32} (ht : t < 4) (hk : ynx t = nI k) (hm : yrw t = nI m) (hm6 : m < 6) (hd : ydp t = nI (d + 1)) (h4 : d < 4) (hq : q < 8) (hz : (B = 0 ∧ z = 1) ∨ (¬ B = 0 ∧ z = 0))
    (h : P (ylim, ywa, ysk, ylo, nI (t + 1), ysp, yaw, yan, ywh, you, ymd + 1, ygd, yop, yops, ybs, ysz, yex, vp_updL yst q (ymd + 1), upd yow q (nI (m / 2)), upd yle q n, lo_f (fun _ => vp_nar .short 0) (4 * q) (4 * q + 4) yel, upd yla q z, upd ysh q 0, yro, yos, yoe, yoh, yor, yrw, upd ynx t (nI (k + 1)), upd ydp t (nI (d + 1)), upd ypl (8 * t + (d + 2)) (nI q), upd ykd (8 * t + (d + 2)) 2, ymt, ytd, yht)) : wY_make_54 P B n (nI q) ylim ywa ysk ylo (nI (t + 1)) ysp yaw yan ywh you ymd ygd yop yops ybs ysz yex yst yow yle yel yla ysh yro yos yoe yoh yor yrw ynx ydp ypl ykd ymt ytd yht := by
  have e2 : (nI q).toNatClampNeg = q := nI_clamp (by omega)
  have v2 : vp_in (nI q) 8 := vp_in_nI (by omega) (by omega)
  have hzb : rl_b z := by
    rcases hz with ⟨_, rfl⟩ | ⟨_, rfl⟩
    · exact Or.inr rfl
    · exact Or.inl rfl
  have key : ∀ e c m' el, c + e = 4 * q + 4 → e < m' → P (ylim, ywa, ysk, ylo, nI (t + 1), ysp, yaw, yan, ywh, you, ymd + 1, ygd, yop, yops, ybs, ysz, yex, vp_updL yst q (ymd + 1), upd yow q (nI (m / 2)), upd yle q n, lo_f (fun _ => vp_nar .short 0) c (4 * q + 4) el, upd yla q z, upd ysh q 0, yro, yos, yoe, yoh, yor, yrw, upd ynx t (nI (k + 1)), upd ydp t (nI (d + 1)), upd ypl (8 * t + (d + 2)) (nI q), upd ykd (8 * t + (d + 2)) 2, ymt, ytd, yht) → wY_make_118 P (nI q) ylim ywa ysk ylo (nI (t + 1)) ysp yaw yan ywh you (ymd + 1) ygd yop m' (nI c) yops ybs ysz yex (vp_updL yst q (ymd + 1)) (upd yow q (nI (m / 2))) (upd yle q n) el (upd yla q z) (upd ysh q 0) yro yos yoe yoh yor yrw ynx ydp ypl ykd ymt ytd yht := by
    intro e
    induction e with
    | zero =>
      intro c m' el hc hm' hp
      obtain ⟨m', rfl⟩ : ∃ q, m' = q + 1 := ⟨m' - 1, by omega⟩
      obtain rfl : c = 4 * q + 4 := by omega
      rw [lo_e] at hp
      refine br_t (by rw [lo_44]; exact nI_le (Nat.le_refl _) (by omega)) (pr_drop _ (j := 1) ht hd (by omega) (by omega) (pr_ypush _ (c := 2) (d := d) ht pk_us h4 (by decide) (pr_on _ ht hk ?_)))
      rw [rl_uu]
      exact hp
    | succ e ih =>
      intro c m' el hc hm' hp
      obtain ⟨m', rfl⟩ : ∃ q, m' = q + 1 := ⟨m' - 1, by omega⟩
      rw [← lo_s (val := fun _ => vp_nar .short 0) (by omega)] at hp
      exact br_f (by rw [lo_44]; exact nI_ge (by omega) (by omega)) ⟨vp_in_nI (by omega) (by omega), nm_r (by rw [nI_clamp (by omega)]) (nm_r (nI_1 c) (ih (c + 1) m' _ (by omega) (by omega) hp))⟩
  have k105 : wY_make_105 P (nI q) z (nI q) ylim ywa ysk ylo (nI (t + 1)) ysp yaw yan ywh you (ymd + 1) ygd yop yops ybs ysz yex (vp_updL yst q (ymd + 1)) (upd yow q (nI (m / 2))) (upd yle q n) yel yla ysh yro yos yoe yoh yor yrw ynx ydp ypl ykd ymt ytd yht :=
    ⟨v2, nm_r (by rw [e2, rl_b_n hzb]) ⟨v2, nm_r (by rw [e2, he_b0]) (nm_r (lo_4 q) ⟨5, key 4 (4 * q) 5 yel (by omega) (by omega) h⟩)⟩⟩
  refine nm_e ⟨v2, nm_r (by rw [e2]) (pr_app _ ht hm hm6 ⟨v2, nm_r (by rw [e2]) ⟨v2, nm_r (by rw [e2]) ?_⟩⟩)⟩
  rcases hz with ⟨z1, rfl⟩ | ⟨z1, rfl⟩
  · exact br_t z1 k105
  · exact br_f z1 k105
theorem yb_11b (P : SY → Prop) {v' : SY} {B : Int32} (ht : t < 4) (hd : ydp t = nI (d + 1)) (h4 : d < 4) (hdp : ∀ g, g < t + 1 → ∃ d, d ≤ 4 ∧ ydp g = nI d) (hb : ypl (8 * t + (d + 2)) < 1 ∨ ¬ ypl (8 * t + (d + 2)) ≤ 4) (hE : ∀ Q : SY → Prop, Q v' → wpY_end Q (ylim, ywa, ysk, ylo, nI (t + 1), ysp, yaw, yan, ywh, you, ymd, ygd, yop, yops, ybs, ysz, yex, yst, yow, yle, yel, yla, ysh, yro, yos, yoe, yoh, yor, yrw, ynx, ydp, ypl, ykd, ymt, ytd, yht) 4) (h : P v') : wpY_onObject P (ylim, ywa, ysk, ylo, nI (t + 1), ysp, yaw, yan, ywh, you, ymd, ygd, yop, yops, ybs, ysz, yex, yst, yow, yle, yel, yla, ysh, yro, yos, yoe, yoh, yor, yrw, ynx, ydp, ypl, ykd, ymt, ytd, yht) 11 B := by
  obtain ⟨a1, a2, a3, a4, a5, a6, a7, a8, a9, c1, c2, c3, c4, c5, c6, c7, c8, c9, d1, d2, d3, d4, d5, d6, d7, d8, d9, e1, e2, e3, e4, e5, e6, e7, e8, e9⟩ := v'
  refine br_t rfl ?_
  unfold wpY_make
  refine pr_yentry _ (j := 0) ht hd (by omega) (by omega) ?_
  have e : 8 * t + (d + 1 + 1 - 0) = 8 * t + (d + 2) := rfl
  rw [e]
  by_cases z : ypl (8 * t + (d + 2)) < 1
  · exact he_free _ (T := t + 1) (by omega) rfl hdp (fun q _ _ _ => br_t z (by unfold wY_make_21; exact hE _ h)) (fun _ => br_t z (by unfold wY_make_21; exact hE _ h))
  · exact he_free _ (T := t + 1) (by omega) rfl hdp (fun q _ _ _ => br_f z (br_f (hb.resolve_left z) (by unfold wY_make_21; exact hE _ h))) (fun _ => br_f z (br_f (hb.resolve_left z) (by unfold wY_make_21; exact hE _ h)))
theorem yb_11m (P : SY → Prop) {v' : SY} {B : Int32} (ht : t < 4) (hd : ydp t = nI (d + 1)) (h4 : d < 4) (hdp : ∀ g, g < t + 1 → ∃ d, d ≤ 4 ∧ ydp g = nI d) (z : ¬ ypl (8 * t + (d + 2)) < 1) (y : ypl (8 * t + (d + 2)) ≤ 4) (ha : ∀ o, o < 8 → he_Y yop yro yor ydp ykd ypl (t + 1) o) (hE : ∀ Q : SY → Prop, Q v' → wpY_end Q (ylim, ywa, ysk, ylo, nI (t + 1), ysp, yaw, yan, ywh, you, ymd, ygd, yop, yops, ybs, ysz, yex, yst, yow, yle, yel, yla, ysh, yro, yos, yoe, yoh, yor, yrw, ynx, ydp, ypl, ykd, ymt, ytd, yht) 7) (h : P v') : wpY_onObject P (ylim, ywa, ysk, ylo, nI (t + 1), ysp, yaw, yan, ywh, you, ymd, ygd, yop, yops, ybs, ysz, yex, yst, yow, yle, yel, yla, ysh, yro, yos, yoe, yoh, yor, yrw, ynx, ydp, ypl, ykd, ymt, ytd, yht) 11 B := by
  obtain ⟨a1, a2, a3, a4, a5, a6, a7, a8, a9, c1, c2, c3, c4, c5, c6, c7, c8, c9, d1, d2, d3, d4, d5, d6, d7, d8, d9, e1, e2, e3, e4, e5, e6, e7, e8, e9⟩ := v'
  refine br_t rfl ?_
  unfold wpY_make
  refine pr_yentry _ (j := 0) ht hd (by omega) (by omega) ?_
  have e : 8 * t + (d + 1 + 1 - 0) = 8 * t + (d + 2) := rfl
  rw [e]
  exact he_free _ (T := t + 1) (by omega) rfl hdp (fun q h1 _ h3 => absurd (ha q h1) h3) (fun _ => br_f z (br_t y (br_f (by decide) (hE _ h))))
theorem yb_11p (P : SY → Prop) {m q : Nat} {B z : Int32} (ht : t < 4) (hd : ydp t = nI (d + 1)) (h4 : d < 4) (hdp : ∀ g, g < t + 1 → ∃ d, d ≤ 4 ∧ ydp g = nI d) (hk : ynx t = nI k) (hm : yrw t = nI m) (hm6 : m < 6) (z0 : ¬ ypl (8 * t + (d + 2)) < 1) (y0 : ypl (8 * t + (d + 2)) ≤ 4) (hq : q < 8) (hq1 : ∀ o, o < q → he_Y yop yro yor ydp ykd ypl (t + 1) o) (hq2 : ¬ he_Y yop yro yor ydp ykd ypl (t + 1) q) (hB : B = 1) (hz : z = 0) (h : P (ylim, ywa, ysk, ylo, nI (t + 1), ysp, yaw, yan, ywh, you, ymd + 1, ygd, yop, yops, ybs, ysz, yex, vp_updL yst q (ymd + 1), upd yow q (nI (m / 2)), upd yle q (ypl (8 * t + (d + 2))), lo_f (fun _ => vp_nar .short 0) (4 * q) (4 * q + 4) yel, upd yla q z, upd ysh q 0, yro, yos, yoe, yoh, yor, yrw, upd ynx t (nI (k + 1)), upd ydp t (nI (d + 1)), upd ypl (8 * t + (d + 2)) (nI q), upd ykd (8 * t + (d + 2)) 2, ymt, ytd, yht)) : wpY_onObject P (ylim, ywa, ysk, ylo, nI (t + 1), ysp, yaw, yan, ywh, you, ymd, ygd, yop, yops, ybs, ysz, yex, yst, yow, yle, yel, yla, ysh, yro, yos, yoe, yoh, yor, yrw, ynx, ydp, ypl, ykd, ymt, ytd, yht) 11 B := by
  refine br_t rfl ?_
  unfold wpY_make
  refine pr_yentry _ (j := 0) ht hd (by omega) (by omega) ?_
  have e : 8 * t + (d + 1 + 1 - 0) = 8 * t + (d + 2) := rfl
  rw [e]
  refine he_free _ (T := t + 1) (by omega) rfl hdp (fun q' h1 h2 h3 => br_f z0 (br_t y0 (br_t (nI_pos' (by omega)) (br_t hB ?_)))) (fun h1 => absurd (h1 q hq) hq2)
  · have : q' = q := by
      rcases Nat.lt_or_ge q' q with w | w
      · exact absurd (hq1 q' w) h3
      · rcases Nat.lt_or_ge q q' with w2 | w2
        · exact absurd (h2 q w2) hq2
        · omega
    subst this
    exact yb_make _ (z := z) ht hk hm hm6 hd h4 h1 (Or.inr ⟨by rw [hB]; decide, hz⟩) h
theorem yb_11w (P : SY → Prop) {m q : Nat} {B z : Int32} (ht : t < 4) (hd : ydp t = nI (d + 1)) (h4 : d < 4) (hdp : ∀ g, g < t + 1 → ∃ d, d ≤ 4 ∧ ydp g = nI d) (hk : ynx t = nI k) (hm : yrw t = nI m) (hm6 : m < 6) (z0 : ¬ ypl (8 * t + (d + 2)) < 1) (y0 : ypl (8 * t + (d + 2)) ≤ 4) (hq : q < 8) (hq1 : ∀ o, o < q → he_Y yop yro yor ydp ykd ypl (t + 1) o) (hq2 : ¬ he_Y yop yro yor ydp ykd ypl (t + 1) q) (hB : B = 0) (hz : z = 1) (h0 : ¬ yaw = 0) (h : P (ylim, ywa, ysk, ylo, nI (t + 1), ysp, re_pd yaw, yan, ywh, you, ymd + 1, ygd, yop, yops, ybs, ysz, yex, vp_updL yst q (ymd + 1), upd yow q (nI (m / 2)), upd yle q (ypl (8 * t + (d + 2))), lo_f (fun _ => vp_nar .short 0) (4 * q) (4 * q + 4) yel, upd yla q z, upd ysh q 0, yro, yos, yoe, yoh, yor, yrw, upd ynx t (nI (k + 1)), upd ydp t (nI (d + 1)), upd ypl (8 * t + (d + 2)) (nI q), upd ykd (8 * t + (d + 2)) 2, ymt, ytd, yht)) : wpY_onObject P (ylim, ywa, ysk, ylo, nI (t + 1), ysp, yaw, yan, ywh, you, ymd, ygd, yop, yops, ybs, ysz, yex, yst, yow, yle, yel, yla, ysh, yro, yos, yoe, yoh, yor, yrw, ynx, ydp, ypl, ykd, ymt, ytd, yht) 11 B := by
  refine br_t rfl ?_
  unfold wpY_make
  refine pr_yentry _ (j := 0) ht hd (by omega) (by omega) ?_
  have e : 8 * t + (d + 1 + 1 - 0) = 8 * t + (d + 2) := rfl
  rw [e]
  refine he_free _ (T := t + 1) (by omega) rfl hdp (fun q' h1 h2 h3 => br_f z0 (br_t y0 (br_t (nI_pos' (by omega)) (br_f (by rw [hB]; decide) (re_write _ h0 (br_f (by decide) ?_)))))) (fun h1 => absurd (h1 q hq) hq2)
  · have : q' = q := by
      rcases Nat.lt_or_ge q' q with w | w
      · exact absurd (hq1 q' w) h3
      · rcases Nat.lt_or_ge q q' with w2 | w2
        · exact absurd (h2 q w2) hq2
        · omega
    subst this
    exact yb_make _ (z := z) ht hk hm hm6 hd h4 h1 (Or.inl ⟨hB, hz⟩) h
theorem yb_11t (P : SY → Prop) {v' : SY} {q : Nat} {B : Int32} (ht : t < 4) (hd : ydp t = nI (d + 1)) (h4 : d < 4) (hdp : ∀ g, g < t + 1 → ∃ d, d ≤ 4 ∧ ydp g = nI d) (z0 : ¬ ypl (8 * t + (d + 2)) < 1) (y0 : ypl (8 * t + (d + 2)) ≤ 4) (hq : q < 8) (hq2 : ¬ he_Y yop yro yor ydp ykd ypl (t + 1) q) (hB : B = 0) (h0 : yaw = 0) (hE : ∀ Q : SY → Prop, Q v' → wpY_end Q (ylim, ywa, ysk, ylo, nI (t + 1), ysp, yaw, yan, ywh, you, ymd, ygd, yop, yops, ybs, ysz, yex, yst, yow, yle, yel, yla, ysh, yro, yos, yoe, yoh, yor, yrw, ynx, ydp, ypl, ykd, ymt, ytd, yht) 9) (h : P v') : wpY_onObject P (ylim, ywa, ysk, ylo, nI (t + 1), ysp, yaw, yan, ywh, you, ymd, ygd, yop, yops, ybs, ysz, yex, yst, yow, yle, yel, yla, ysh, yro, yos, yoe, yoh, yor, yrw, ynx, ydp, ypl, ykd, ymt, ytd, yht) 11 B := by
  obtain ⟨a1, a2, a3, a4, a5, a6, a7, a8, a9, c1, c2, c3, c4, c5, c6, c7, c8, c9, d1, d2, d3, d4, d5, d6, d7, d8, d9, e1, e2, e3, e4, e5, e6, e7, e8, e9⟩ := v'
  refine br_t rfl ?_
  unfold wpY_make
  refine pr_yentry _ (j := 0) ht hd (by omega) (by omega) ?_
  have e : 8 * t + (d + 1 + 1 - 0) = 8 * t + (d + 2) := rfl
  rw [e]
  exact he_free _ (T := t + 1) (by omega) rfl hdp (fun q' h1 h2 h3 => br_f z0 (br_t y0 (br_t (nI_pos' (by omega)) (br_f (by rw [hB]; decide) (br_t h0 (hE _ (br_t rfl h))))))) (fun h1 => absurd (h1 q hq) hq2)
end YB
end
section
/-! THE STEPS: both sides, one instruction at a time -/
section ST
variable {xlim xpc xnd xwc xit xfc xwt xan xlp : Int32}
variable {xpo xpb xwd xwk xnk xco xcb xml xme xro xow xol xla xsh xoe xoh xsr xss xse xms xfm xfa xfd xcv xcr : Nat → Int32}
variable {ylim ywa ysk ylo yrn ysp yaw yan ywh you ygd yop : Int32}
variable {ymd : Int64}
variable {yops ybs ysz yex yow yle yel yla ysh yro yoe yoh yor yrw ynx ydp ypl ykd ymt ytd yht : Nat → Int32}
variable {yst yos : Nat → Int64}
variable {B t m k d l s n : Nat} {f : Nat → Nat} {Bv : Int32}
theorem st_k {c : Nat} {xv xr yv yk : Int32} (h : rl_ce c xv xr yv yk) : c < 3 ∧ yk = nI c ∧ rl_b xr := by
  rcases h with ⟨rfl, h1, h2⟩ | ⟨rfl, h1, h2, _⟩ | ⟨rfl, h1, h2, _⟩
  · exact ⟨by decide, h2, Or.inl h1⟩
  · exact ⟨by decide, h2, Or.inl h1⟩
  · exact ⟨by decide, h2, Or.inr h1⟩
theorem st_byte {x : Int32} (h1 : -128 ≤ x) (h2 : x ≤ 127) : rl_sv x := by
  rw [Int32.le_iff_toInt_le, show ((-128 : Int32)).toInt = -128 from by decide] at h1
  rw [Int32.le_iff_toInt_le, show ((127 : Int32)).toInt = 127 from by decide] at h2
  exact rl_sv_i (by omega) (by omega)
theorem st_root {r : Nat} (hO : rl_O xro xow xol xla xsh xoe yro yow yle yla ysh yel) (hr : r < 6) : rl_rf (xro r) (yro r) := hO.1 r hr
theorem st_0 (h : rr B t m k d f (nI l, xpc, xnd, xwc, xit, nI (t + 1), xwt, xan, xlp, xpo, xpb, xwd, xwk, xnk, xco, xcb, xml, xme, xro, xow, xol, xla, xsh, xoe, xoh, xsr, xss, xse, xms, xfm, xfa, xfd, xcv, xcr) (nI l, ywa, ysk, ylo, nI (t + 1), nI s, yaw, yan, ywh, you, ymd, ygd, yop, yops, ybs, ysz, yex, yst, yow, yle, yel, yla, ysh, yro, yos, yoe, yoh, yor, yrw, ynx, ydp, ypl, ykd, ymt, ytd, yht)) (hs : ¬ nI s = nI l) (H : re_H xfm xfa xco xcb t m k 0 Bv) (S : re_S yrw ynx yops ybs t m k 0 Bv) (hfb : rl_fb 0 Bv n) (hos : ck_os [4] d f) (hgo : k + 1 < 16 ∧ rl_ty yops ybs ysz m (k + 1) (ck_rd [4] d) (ck_rk [4] d f))  : so B l s (nI l, xpc, xnd, xwc, xit, nI (t + 1), xwt, xan, xlp, xpo, xpb, xwd, xwk, xnk, xco, xcb, xml, xme, xro, xow, xol, xla, xsh, xoe, xoh, xsr, xss, xse, xms, xfm, xfa, xfd, xcv, xcr) (nI l, ywa, ysk, ylo, nI (t + 1), nI s, yaw, yan, ywh, you, ymd, ygd, yop, yops, ybs, ysz, yex, yst, yow, yle, yel, yla, ysh, yro, yos, yoe, yoh, yor, yrw, ynx, ydp, ypl, ykd, ymt, ytd, yht) := by
  obtain ⟨ht, _, _, hya, hL, hP, hM, hO, hT, hW, hlo, htp⟩ := h
  have htp2 := htp
  obtain ⟨hm6, hk16, hd4, hsz, hfm, hrw, hfa, hnx, hfd, hdp, hty, hcs⟩ := htp2
  have h4 : d < 4 := hos.1.1
  have hsv : rl_sv Bv := st_byte (hfb.1 rfl).1 (hfb.1 rfl).2
  obtain ⟨lo', tp'⟩ := so_topc (c := d + 2) (v := 1) (k' := k + 1) (d' := d + 1) ht hlo htp hgo.1 (by omega) hgo.2 (rl_n1 hsv) (by omega) (fun j hj hne => by omega)
  refine Or.inl ⟨(nI l, xpc, xnd, xwc, xit, nI (t + 1), xwt, xan, xlp, xpo, xpb, xwd, xwk, xnk, xco, xcb, xml, xme, xro, xow, xol, xla, xsh, xoe, xoh, xsr, xss, xse, xms, xfm, upd xfa t (nI (k + 1)), upd xfd t (nI (d + 1)), upd xcv (6 * t + (d + 2)) (Bv), upd xcr (6 * t + (d + 2)) (0)), (nI l, ywa, ysk, ylo, nI (t + 1), nI (s + 1), yaw, yan, ywh, you, ymd, ygd, yop, yops, ybs, ysz, yex, yst, yow, yle, yel, yla, ysh, yro, yos, yoe, yoh, yor, yrw, upd ynx t (nI (k + 1)), upd ydp t (nI (d + 1)), upd ypl (8 * t + (d + 2)) (Bv), upd ykd (8 * t + (d + 2)) (1), ymt, ytd, yht), t, m, k + 1, d + 1, _, fun P hp => ?_, fun Q hq => ?_, ⟨by omega, rfl, rfl, hya, hL, hP, hM, hO, re_T_up hT (by omega), hW, lo', tp'⟩, rfl, rfl, rfl⟩
  · exact re_xn P (oh := xoh) H (fun post h => br_t (by decide) h) (fun post h => br_t (by decide) h) (re_76p P ht hfa (by decide) (by decide) (fun post h => xo_0 post ht hfd h4 h) hp)
  · exact re_ys Q (fun post => post (nI l, ywa, ysk, ylo, nI (t + 1), nI (s + 1), yaw, yan, ywh, you, ymd, ygd, yop, yops, ybs, ysz, yex, yst, yow, yle, yel, yla, ysh, yro, yos, yoe, yoh, yor, yrw, upd ynx t (nI (k + 1)), upd ydp t (nI (d + 1)), upd ypl (8 * t + (d + 2)) (Bv), upd ykd (8 * t + (d + 2)) (1), ymt, ytd, yht)) S hs (by decide) (fun _ post h => yo_0 post ht hnx hdp h4 h) (fun z => absurd z (by decide)) (fun z => absurd z (by decide)) hq
theorem st_17 (h : rr B t m k d f (nI l, xpc, xnd, xwc, xit, nI (t + 1), xwt, xan, xlp, xpo, xpb, xwd, xwk, xnk, xco, xcb, xml, xme, xro, xow, xol, xla, xsh, xoe, xoh, xsr, xss, xse, xms, xfm, xfa, xfd, xcv, xcr) (nI l, ywa, ysk, ylo, nI (t + 1), nI s, yaw, yan, ywh, you, ymd, ygd, yop, yops, ybs, ysz, yex, yst, yow, yle, yel, yla, ysh, yro, yos, yoe, yoh, yor, yrw, ynx, ydp, ypl, ykd, ymt, ytd, yht)) (hs : ¬ nI s = nI l) (H : re_H xfm xfa xco xcb t m k 17 Bv) (S : re_S yrw ynx yops ybs t m k 17 Bv) (hfb : rl_fb 17 Bv n) (hos : ck_os [5] d f) (hgo : k + 1 < 16 ∧ rl_ty yops ybs ysz m (k + 1) (ck_rd [5] d) (ck_rk [5] d f))  : so B l s (nI l, xpc, xnd, xwc, xit, nI (t + 1), xwt, xan, xlp, xpo, xpb, xwd, xwk, xnk, xco, xcb, xml, xme, xro, xow, xol, xla, xsh, xoe, xoh, xsr, xss, xse, xms, xfm, xfa, xfd, xcv, xcr) (nI l, ywa, ysk, ylo, nI (t + 1), nI s, yaw, yan, ywh, you, ymd, ygd, yop, yops, ybs, ysz, yex, yst, yow, yle, yel, yla, ysh, yro, yos, yoe, yoh, yor, yrw, ynx, ydp, ypl, ykd, ymt, ytd, yht) := by
  obtain ⟨ht, _, _, hya, hL, hP, hM, hO, hT, hW, hlo, htp⟩ := h
  have htp2 := htp
  obtain ⟨hm6, hk16, hd4, hsz, hfm, hrw, hfa, hnx, hfd, hdp, hty, hcs⟩ := htp2
  have h4 : d < 4 := hos.1.1
  obtain ⟨lo', tp'⟩ := so_topc (c := d + 2) (v := 2) (k' := k + 1) (d' := d + 1) ht hlo htp hgo.1 (by omega) hgo.2 (rl_n2 rl_rf0) (by omega) (fun j hj hne => by omega)
  refine Or.inl ⟨(nI l, xpc, xnd, xwc, xit, nI (t + 1), xwt, xan, xlp, xpo, xpb, xwd, xwk, xnk, xco, xcb, xml, xme, xro, xow, xol, xla, xsh, xoe, xoh, xsr, xss, xse, xms, xfm, upd xfa t (nI (k + 1)), upd xfd t (nI (d + 1)), upd xcv (6 * t + (d + 2)) (0), upd xcr (6 * t + (d + 2)) (1)), (nI l, ywa, ysk, ylo, nI (t + 1), nI (s + 1), yaw, yan, ywh, you, ymd, ygd, yop, yops, ybs, ysz, yex, yst, yow, yle, yel, yla, ysh, yro, yos, yoe, yoh, yor, yrw, upd ynx t (nI (k + 1)), upd ydp t (nI (d + 1)), upd ypl (8 * t + (d + 2)) (-1), upd ykd (8 * t + (d + 2)) (2), ymt, ytd, yht), t, m, k + 1, d + 1, _, fun P hp => ?_, fun Q hq => ?_, ⟨by omega, rfl, rfl, hya, hL, hP, hM, hO, re_T_up hT (by omega), hW, lo', tp'⟩, rfl, rfl, rfl⟩
  · exact re_xn P (oh := xoh) H (fun post h => br_f (by decide) <| br_f (by decide) <| br_f (by decide) <| br_f (by decide) <| br_f (by decide) <| br_f (by decide) <| br_f (by decide) <| br_f (by decide) <| br_t rfl <|  h) (fun post h => br_f (by decide) <| br_f (by decide) <| br_f (by decide) <| br_f (by decide) <| br_f (by decide) <| br_f (by decide) <| br_f (by decide) <| br_f (by decide) <| br_f (by decide) <| br_t rfl <|  h) (re_76p P ht hfa (by decide) (by decide) (fun post h => xo_17 post ht hfd h4 h) hp)
  · exact re_ys Q (fun post => post (nI l, ywa, ysk, ylo, nI (t + 1), nI (s + 1), yaw, yan, ywh, you, ymd, ygd, yop, yops, ybs, ysz, yex, yst, yow, yle, yel, yla, ysh, yro, yos, yoe, yoh, yor, yrw, upd ynx t (nI (k + 1)), upd ydp t (nI (d + 1)), upd ypl (8 * t + (d + 2)) (-1), upd ykd (8 * t + (d + 2)) (2), ymt, ytd, yht)) S hs (by decide) (fun z => absurd z (by decide)) (fun _ _ z9 z10 z16 z17 => absurd rfl z17) (fun _ post h => yo_17 post ht hnx hdp h4 h) hq
theorem st_1_0 (h : rr B t m k d f (nI l, xpc, xnd, xwc, xit, nI (t + 1), xwt, xan, xlp, xpo, xpb, xwd, xwk, xnk, xco, xcb, xml, xme, xro, xow, xol, xla, xsh, xoe, xoh, xsr, xss, xse, xms, xfm, xfa, xfd, xcv, xcr) (nI l, ywa, ysk, ylo, nI (t + 1), nI s, yaw, yan, ywh, you, ymd, ygd, yop, yops, ybs, ysz, yex, yst, yow, yle, yel, yla, ysh, yro, yos, yoe, yoh, yor, yrw, ynx, ydp, ypl, ykd, ymt, ytd, yht)) (hs : ¬ nI s = nI l) (H : re_H xfm xfa xco xcb t m k 1 Bv) (S : re_S yrw ynx yops ybs t m k 1 Bv) (hfb : rl_fb 1 Bv n) (hos : ck_os [6 + 0] d f) (hgo : k + 1 < 16 ∧ rl_ty yops ybs ysz m (k + 1) (ck_rd [6 + 0] d) (ck_rk [6 + 0] d f)) (hB : Bv = nI 0) : so B l s (nI l, xpc, xnd, xwc, xit, nI (t + 1), xwt, xan, xlp, xpo, xpb, xwd, xwk, xnk, xco, xcb, xml, xme, xro, xow, xol, xla, xsh, xoe, xoh, xsr, xss, xse, xms, xfm, xfa, xfd, xcv, xcr) (nI l, ywa, ysk, ylo, nI (t + 1), nI s, yaw, yan, ywh, you, ymd, ygd, yop, yops, ybs, ysz, yex, yst, yow, yle, yel, yla, ysh, yro, yos, yoe, yoh, yor, yrw, ynx, ydp, ypl, ykd, ymt, ytd, yht) := by
  obtain ⟨ht, _, _, hya, hL, hP, hM, hO, hT, hW, hlo, htp⟩ := h
  have htp2 := htp
  obtain ⟨hm6, hk16, hd4, hsz, hfm, hrw, hfa, hnx, hfd, hdp, hty, hcs⟩ := htp2
  subst hB
  have h4 : d < 4 := hos.1.1
  have hc := hcs 0 (by omega)
  obtain ⟨c3, ck, cb⟩ := st_k hc
  obtain ⟨lo', tp'⟩ := so_topc (c := d + 2) (v := f 0) (k' := k + 1) (d' := d + 1) ht hlo htp hgo.1 (by omega) hgo.2 hc (by omega) (fun j hj hne => by omega)
  rw [ck] at lo' tp'
  refine Or.inl ⟨(nI l, xpc, xnd, xwc, xit, nI (t + 1), xwt, xan, xlp, xpo, xpb, xwd, xwk, xnk, xco, xcb, xml, xme, xro, xow, xol, xla, xsh, xoe, xoh, xsr, xss, xse, xms, xfm, upd xfa t (nI (k + 1)), upd xfd t (nI (d + 1)), upd xcv (6 * t + (d + 2)) (xcv (6 * t + 0)), upd xcr (6 * t + (d + 2)) (xcr (6 * t + 0))), (nI l, ywa, ysk, ylo, nI (t + 1), nI (s + 1), yaw, yan, ywh, you, ymd, ygd, yop, yops, ybs, ysz, yex, yst, yow, yle, yel, yla, ysh, yro, yos, yoe, yoh, yor, yrw, upd ynx t (nI (k + 1)), upd ydp t (nI (d + 1)), upd ypl (8 * t + (d + 2)) (ypl (8 * t + 0)), upd ykd (8 * t + (d + 2)) (nI (f 0)), ymt, ytd, yht), t, m, k + 1, d + 1, _, fun P hp => ?_, fun Q hq => ?_, ⟨by omega, rfl, rfl, hya, hL, hP, hM, hO, re_T_up hT (by omega), hW, lo', tp'⟩, rfl, rfl, rfl⟩
  · exact re_xn P (oh := xoh) H (fun post h => br_t (by decide) h) (fun post h => br_t (by decide) h) (re_76p P ht hfa (by decide) (by decide) (fun post h => xo_1 post ht hfd h4 (by decide) cb h) hp)
  · exact re_ys Q (fun post => post (nI l, ywa, ysk, ylo, nI (t + 1), nI (s + 1), yaw, yan, ywh, you, ymd, ygd, yop, yops, ybs, ysz, yex, yst, yow, yle, yel, yla, ysh, yro, yos, yoe, yoh, yor, yrw, upd ynx t (nI (k + 1)), upd ydp t (nI (d + 1)), upd ypl (8 * t + (d + 2)) (ypl (8 * t + 0)), upd ykd (8 * t + (d + 2)) (nI (f 0)), ymt, ytd, yht)) S hs (by decide) (fun _ post h => yo_1 post ht hnx hdp h4 (by decide) c3 ck h) (fun z => absurd z (by decide)) (fun z => absurd z (by decide)) hq
theorem st_2_0 (h : rr B t m k d f (nI l, xpc, xnd, xwc, xit, nI (t + 1), xwt, xan, xlp, xpo, xpb, xwd, xwk, xnk, xco, xcb, xml, xme, xro, xow, xol, xla, xsh, xoe, xoh, xsr, xss, xse, xms, xfm, xfa, xfd, xcv, xcr) (nI l, ywa, ysk, ylo, nI (t + 1), nI s, yaw, yan, ywh, you, ymd, ygd, yop, yops, ybs, ysz, yex, yst, yow, yle, yel, yla, ysh, yro, yos, yoe, yoh, yor, yrw, ynx, ydp, ypl, ykd, ymt, ytd, yht)) (hs : ¬ nI s = nI l) (H : re_H xfm xfa xco xcb t m k 2 Bv) (S : re_S yrw ynx yops ybs t m k 2 Bv) (hfb : rl_fb 2 Bv n) (hos : ck_os [8 + 0] d f) (hgo : k + 1 < 16 ∧ rl_ty yops ybs ysz m (k + 1) (ck_rd [8 + 0] d) (ck_rk [8 + 0] d f)) (hB : Bv = nI 0) : so B l s (nI l, xpc, xnd, xwc, xit, nI (t + 1), xwt, xan, xlp, xpo, xpb, xwd, xwk, xnk, xco, xcb, xml, xme, xro, xow, xol, xla, xsh, xoe, xoh, xsr, xss, xse, xms, xfm, xfa, xfd, xcv, xcr) (nI l, ywa, ysk, ylo, nI (t + 1), nI s, yaw, yan, ywh, you, ymd, ygd, yop, yops, ybs, ysz, yex, yst, yow, yle, yel, yla, ysh, yro, yos, yoe, yoh, yor, yrw, ynx, ydp, ypl, ykd, ymt, ytd, yht) := by
  obtain ⟨ht, _, _, hya, hL, hP, hM, hO, hT, hW, hlo, htp⟩ := h
  have htp2 := htp
  obtain ⟨hm6, hk16, hd4, hsz, hfm, hrw, hfa, hnx, hfd, hdp, hty, hcs⟩ := htp2
  subst hB
  have h0 : 0 < d := hos.1.1
  obtain ⟨d, rfl⟩ : ∃ q, d = q + 1 := ⟨d - 1, by omega⟩
  have hc := hcs (d + 2) (by omega)
  obtain ⟨c3, ck, cb⟩ := st_k hc
  obtain ⟨lo', tp'⟩ := so_topc (c := 0) (v := f (d + 2)) (k' := k + 1) (d' := d) ht hlo htp hgo.1 (by omega) hgo.2 hc (by omega) (fun j hj hne => by omega)
  rw [ck] at lo' tp'
  refine Or.inl ⟨(nI l, xpc, xnd, xwc, xit, nI (t + 1), xwt, xan, xlp, xpo, xpb, xwd, xwk, xnk, xco, xcb, xml, xme, xro, xow, xol, xla, xsh, xoe, xoh, xsr, xss, xse, xms, xfm, upd xfa t (nI (k + 1)), upd xfd t (nI d), upd xcv (6 * t + 0) (xcv (6 * t + (d + 2))), upd xcr (6 * t + 0) (xcr (6 * t + (d + 2)))), (nI l, ywa, ysk, ylo, nI (t + 1), nI (s + 1), yaw, yan, ywh, you, ymd, ygd, yop, yops, ybs, ysz, yex, yst, yow, yle, yel, yla, ysh, yro, yos, yoe, yoh, yor, yrw, upd ynx t (nI (k + 1)), upd ydp t (nI d), upd ypl (8 * t + 0) (ypl (8 * t + (d + 2))), upd ykd (8 * t + 0) (nI (f (d + 2))), ymt, ytd, yht), t, m, k + 1, d, _, fun P hp => ?_, fun Q hq => ?_, ⟨by omega, rfl, rfl, hya, hL, hP, hM, hO, re_T_up hT (by omega), hW, lo', tp'⟩, rfl, rfl, rfl⟩
  · exact re_xn P (oh := xoh) H (fun post h => br_t (by decide) h) (fun post h => br_t (by decide) h) (re_76p P ht hfa (by decide) (by decide) (fun post h => xo_2 post ht hfd (by omega) (by decide) cb h) hp)
  · exact re_ys Q (fun post => post (nI l, ywa, ysk, ylo, nI (t + 1), nI (s + 1), yaw, yan, ywh, you, ymd, ygd, yop, yops, ybs, ysz, yex, yst, yow, yle, yel, yla, ysh, yro, yos, yoe, yoh, yor, yrw, upd ynx t (nI (k + 1)), upd ydp t (nI d), upd ypl (8 * t + 0) (ypl (8 * t + (d + 2))), upd ykd (8 * t + 0) (nI (f (d + 2))), ymt, ytd, yht)) S hs (by decide) (fun _ post h => yo_2 post ht hnx hdp (by omega) (by decide) c3 ck h) (fun z => absurd z (by decide)) (fun z => absurd z (by decide)) hq
theorem st_1_1 (h : rr B t m k d f (nI l, xpc, xnd, xwc, xit, nI (t + 1), xwt, xan, xlp, xpo, xpb, xwd, xwk, xnk, xco, xcb, xml, xme, xro, xow, xol, xla, xsh, xoe, xoh, xsr, xss, xse, xms, xfm, xfa, xfd, xcv, xcr) (nI l, ywa, ysk, ylo, nI (t + 1), nI s, yaw, yan, ywh, you, ymd, ygd, yop, yops, ybs, ysz, yex, yst, yow, yle, yel, yla, ysh, yro, yos, yoe, yoh, yor, yrw, ynx, ydp, ypl, ykd, ymt, ytd, yht)) (hs : ¬ nI s = nI l) (H : re_H xfm xfa xco xcb t m k 1 Bv) (S : re_S yrw ynx yops ybs t m k 1 Bv) (hfb : rl_fb 1 Bv n) (hos : ck_os [6 + 1] d f) (hgo : k + 1 < 16 ∧ rl_ty yops ybs ysz m (k + 1) (ck_rd [6 + 1] d) (ck_rk [6 + 1] d f)) (hB : Bv = nI 1) : so B l s (nI l, xpc, xnd, xwc, xit, nI (t + 1), xwt, xan, xlp, xpo, xpb, xwd, xwk, xnk, xco, xcb, xml, xme, xro, xow, xol, xla, xsh, xoe, xoh, xsr, xss, xse, xms, xfm, xfa, xfd, xcv, xcr) (nI l, ywa, ysk, ylo, nI (t + 1), nI s, yaw, yan, ywh, you, ymd, ygd, yop, yops, ybs, ysz, yex, yst, yow, yle, yel, yla, ysh, yro, yos, yoe, yoh, yor, yrw, ynx, ydp, ypl, ykd, ymt, ytd, yht) := by
  obtain ⟨ht, _, _, hya, hL, hP, hM, hO, hT, hW, hlo, htp⟩ := h
  have htp2 := htp
  obtain ⟨hm6, hk16, hd4, hsz, hfm, hrw, hfa, hnx, hfd, hdp, hty, hcs⟩ := htp2
  subst hB
  have h4 : d < 4 := hos.1.1
  have hc := hcs 1 (by omega)
  obtain ⟨c3, ck, cb⟩ := st_k hc
  obtain ⟨lo', tp'⟩ := so_topc (c := d + 2) (v := f 1) (k' := k + 1) (d' := d + 1) ht hlo htp hgo.1 (by omega) hgo.2 hc (by omega) (fun j hj hne => by omega)
  rw [ck] at lo' tp'
  refine Or.inl ⟨(nI l, xpc, xnd, xwc, xit, nI (t + 1), xwt, xan, xlp, xpo, xpb, xwd, xwk, xnk, xco, xcb, xml, xme, xro, xow, xol, xla, xsh, xoe, xoh, xsr, xss, xse, xms, xfm, upd xfa t (nI (k + 1)), upd xfd t (nI (d + 1)), upd xcv (6 * t + (d + 2)) (xcv (6 * t + 1)), upd xcr (6 * t + (d + 2)) (xcr (6 * t + 1))), (nI l, ywa, ysk, ylo, nI (t + 1), nI (s + 1), yaw, yan, ywh, you, ymd, ygd, yop, yops, ybs, ysz, yex, yst, yow, yle, yel, yla, ysh, yro, yos, yoe, yoh, yor, yrw, upd ynx t (nI (k + 1)), upd ydp t (nI (d + 1)), upd ypl (8 * t + (d + 2)) (ypl (8 * t + 1)), upd ykd (8 * t + (d + 2)) (nI (f 1)), ymt, ytd, yht), t, m, k + 1, d + 1, _, fun P hp => ?_, fun Q hq => ?_, ⟨by omega, rfl, rfl, hya, hL, hP, hM, hO, re_T_up hT (by omega), hW, lo', tp'⟩, rfl, rfl, rfl⟩
  · exact re_xn P (oh := xoh) H (fun post h => br_t (by decide) h) (fun post h => br_t (by decide) h) (re_76p P ht hfa (by decide) (by decide) (fun post h => xo_1 post ht hfd h4 (by decide) cb h) hp)
  · exact re_ys Q (fun post => post (nI l, ywa, ysk, ylo, nI (t + 1), nI (s + 1), yaw, yan, ywh, you, ymd, ygd, yop, yops, ybs, ysz, yex, yst, yow, yle, yel, yla, ysh, yro, yos, yoe, yoh, yor, yrw, upd ynx t (nI (k + 1)), upd ydp t (nI (d + 1)), upd ypl (8 * t + (d + 2)) (ypl (8 * t + 1)), upd ykd (8 * t + (d + 2)) (nI (f 1)), ymt, ytd, yht)) S hs (by decide) (fun _ post h => yo_1 post ht hnx hdp h4 (by decide) c3 ck h) (fun z => absurd z (by decide)) (fun z => absurd z (by decide)) hq
theorem st_2_1 (h : rr B t m k d f (nI l, xpc, xnd, xwc, xit, nI (t + 1), xwt, xan, xlp, xpo, xpb, xwd, xwk, xnk, xco, xcb, xml, xme, xro, xow, xol, xla, xsh, xoe, xoh, xsr, xss, xse, xms, xfm, xfa, xfd, xcv, xcr) (nI l, ywa, ysk, ylo, nI (t + 1), nI s, yaw, yan, ywh, you, ymd, ygd, yop, yops, ybs, ysz, yex, yst, yow, yle, yel, yla, ysh, yro, yos, yoe, yoh, yor, yrw, ynx, ydp, ypl, ykd, ymt, ytd, yht)) (hs : ¬ nI s = nI l) (H : re_H xfm xfa xco xcb t m k 2 Bv) (S : re_S yrw ynx yops ybs t m k 2 Bv) (hfb : rl_fb 2 Bv n) (hos : ck_os [8 + 1] d f) (hgo : k + 1 < 16 ∧ rl_ty yops ybs ysz m (k + 1) (ck_rd [8 + 1] d) (ck_rk [8 + 1] d f)) (hB : Bv = nI 1) : so B l s (nI l, xpc, xnd, xwc, xit, nI (t + 1), xwt, xan, xlp, xpo, xpb, xwd, xwk, xnk, xco, xcb, xml, xme, xro, xow, xol, xla, xsh, xoe, xoh, xsr, xss, xse, xms, xfm, xfa, xfd, xcv, xcr) (nI l, ywa, ysk, ylo, nI (t + 1), nI s, yaw, yan, ywh, you, ymd, ygd, yop, yops, ybs, ysz, yex, yst, yow, yle, yel, yla, ysh, yro, yos, yoe, yoh, yor, yrw, ynx, ydp, ypl, ykd, ymt, ytd, yht) := by
  obtain ⟨ht, _, _, hya, hL, hP, hM, hO, hT, hW, hlo, htp⟩ := h
  have htp2 := htp
  obtain ⟨hm6, hk16, hd4, hsz, hfm, hrw, hfa, hnx, hfd, hdp, hty, hcs⟩ := htp2
  subst hB
  have h0 : 0 < d := hos.1.1
  obtain ⟨d, rfl⟩ : ∃ q, d = q + 1 := ⟨d - 1, by omega⟩
  have hc := hcs (d + 2) (by omega)
  obtain ⟨c3, ck, cb⟩ := st_k hc
  obtain ⟨lo', tp'⟩ := so_topc (c := 1) (v := f (d + 2)) (k' := k + 1) (d' := d) ht hlo htp hgo.1 (by omega) hgo.2 hc (by omega) (fun j hj hne => by omega)
  rw [ck] at lo' tp'
  refine Or.inl ⟨(nI l, xpc, xnd, xwc, xit, nI (t + 1), xwt, xan, xlp, xpo, xpb, xwd, xwk, xnk, xco, xcb, xml, xme, xro, xow, xol, xla, xsh, xoe, xoh, xsr, xss, xse, xms, xfm, upd xfa t (nI (k + 1)), upd xfd t (nI d), upd xcv (6 * t + 1) (xcv (6 * t + (d + 2))), upd xcr (6 * t + 1) (xcr (6 * t + (d + 2)))), (nI l, ywa, ysk, ylo, nI (t + 1), nI (s + 1), yaw, yan, ywh, you, ymd, ygd, yop, yops, ybs, ysz, yex, yst, yow, yle, yel, yla, ysh, yro, yos, yoe, yoh, yor, yrw, upd ynx t (nI (k + 1)), upd ydp t (nI d), upd ypl (8 * t + 1) (ypl (8 * t + (d + 2))), upd ykd (8 * t + 1) (nI (f (d + 2))), ymt, ytd, yht), t, m, k + 1, d, _, fun P hp => ?_, fun Q hq => ?_, ⟨by omega, rfl, rfl, hya, hL, hP, hM, hO, re_T_up hT (by omega), hW, lo', tp'⟩, rfl, rfl, rfl⟩
  · exact re_xn P (oh := xoh) H (fun post h => br_t (by decide) h) (fun post h => br_t (by decide) h) (re_76p P ht hfa (by decide) (by decide) (fun post h => xo_2 post ht hfd (by omega) (by decide) cb h) hp)
  · exact re_ys Q (fun post => post (nI l, ywa, ysk, ylo, nI (t + 1), nI (s + 1), yaw, yan, ywh, you, ymd, ygd, yop, yops, ybs, ysz, yex, yst, yow, yle, yel, yla, ysh, yro, yos, yoe, yoh, yor, yrw, upd ynx t (nI (k + 1)), upd ydp t (nI d), upd ypl (8 * t + 1) (ypl (8 * t + (d + 2))), upd ykd (8 * t + 1) (nI (f (d + 2))), ymt, ytd, yht)) S hs (by decide) (fun _ post h => yo_2 post ht hnx hdp (by omega) (by decide) c3 ck h) (fun z => absurd z (by decide)) (fun z => absurd z (by decide)) hq
theorem st_3 (h : rr B t m k d f (nI l, xpc, xnd, xwc, xit, nI (t + 1), xwt, xan, xlp, xpo, xpb, xwd, xwk, xnk, xco, xcb, xml, xme, xro, xow, xol, xla, xsh, xoe, xoh, xsr, xss, xse, xms, xfm, xfa, xfd, xcv, xcr) (nI l, ywa, ysk, ylo, nI (t + 1), nI s, yaw, yan, ywh, you, ymd, ygd, yop, yops, ybs, ysz, yex, yst, yow, yle, yel, yla, ysh, yro, yos, yoe, yoh, yor, yrw, ynx, ydp, ypl, ykd, ymt, ytd, yht)) (hs : ¬ nI s = nI l) (H : re_H xfm xfa xco xcb t m k 3 Bv) (S : re_S yrw ynx yops ybs t m k 3 Bv) (hfb : rl_fb 3 Bv n) (hos : ck_os [1, 1, 4] d f) (hgo : k + 1 < 16 ∧ rl_ty yops ybs ysz m (k + 1) (ck_rd [1, 1, 4] d) (ck_rk [1, 1, 4] d f))  : so B l s (nI l, xpc, xnd, xwc, xit, nI (t + 1), xwt, xan, xlp, xpo, xpb, xwd, xwk, xnk, xco, xcb, xml, xme, xro, xow, xol, xla, xsh, xoe, xoh, xsr, xss, xse, xms, xfm, xfa, xfd, xcv, xcr) (nI l, ywa, ysk, ylo, nI (t + 1), nI s, yaw, yan, ywh, you, ymd, ygd, yop, yops, ybs, ysz, yex, yst, yow, yle, yel, yla, ysh, yro, yos, yoe, yoh, yor, yrw, ynx, ydp, ypl, ykd, ymt, ytd, yht) := by
  obtain ⟨ht, _, _, hya, hL, hP, hM, hO, hT, hW, hlo, htp⟩ := h
  have htp2 := htp
  obtain ⟨hm6, hk16, hd4, hsz, hfm, hrw, hfa, hnx, hfd, hdp, hty, hcs⟩ := htp2
  obtain ⟨o1, o2, o3, _⟩ := hos
  have h0 : 0 < d := o1.1
  have h1 : 0 < d - 1 := o2.1
  obtain ⟨d, rfl⟩ : ∃ q, d = q + 2 := ⟨d - 2, by omega⟩
  have f1 : f (d + 3) = 1 := o1.2
  have f2 : f (d + 2) = 1 := o2.2
  have c1 := hcs (d + 3) (by omega)
  have c2 := hcs (d + 2) (by omega)
  rw [f1] at c1
  rw [f2] at c2
  have e1 := (rl_ce1 c1).2.2.1
  have e2 := (rl_ce1 c2).2.2.1
  have hsv : rl_sv ((ypl (8 * t + (d + 2)) + ypl (8 * t + (d + 3))).toInt16.toInt32) := rl_sv_c _
  have hc : rl_ce 1 ((xcv (6 * t + (d + 2)) + xcv (6 * t + (d + 3))).toInt16.toInt32) 0 ((ypl (8 * t + (d + 2)) + ypl (8 * t + (d + 3))).toInt16.toInt32) 1 := by
    rw [e1, e2]
    exact rl_n1 hsv
  obtain ⟨lo', tp'⟩ := so_topc (c := d + 2) (v := 1) (k' := k + 1) (d' := d + 1) ht hlo htp hgo.1 (by omega) hgo.2 hc (by omega) (fun j hj hne => by omega)
  refine Or.inl ⟨(nI l, xpc, xnd, xwc, xit, nI (t + 1), xwt, xan, xlp, xpo, xpb, xwd, xwk, xnk, xco, xcb, xml, xme, xro, xow, xol, xla, xsh, xoe, xoh, xsr, xss, xse, xms, xfm, upd xfa t (nI (k + 1)), upd xfd t (nI (d + 1)), upd xcv (6 * t + (d + 2)) ((xcv (6 * t + (d + 2)) + xcv (6 * t + (d + 3))).toInt16.toInt32), upd xcr (6 * t + (d + 2)) (0)), (nI l, ywa, ysk, ylo, nI (t + 1), nI (s + 1), yaw, yan, ywh, you, ymd, ygd, yop, yops, ybs, ysz, yex, yst, yow, yle, yel, yla, ysh, yro, yos, yoe, yoh, yor, yrw, upd ynx t (nI (k + 1)), upd ydp t (nI (d + 1)), upd ypl (8 * t + (d + 2)) ((ypl (8 * t + (d + 2)) + ypl (8 * t + (d + 3))).toInt16.toInt32), upd ykd (8 * t + (d + 2)) (1), ymt, ytd, yht), t, m, k + 1, d + 1, _, fun P hp => ?_, fun Q hq => ?_, ⟨by omega, rfl, rfl, hya, hL, hP, hM, hO, re_T_up hT (by omega), hW, lo', tp'⟩, rfl, rfl, rfl⟩
  · exact re_xn P (oh := xoh) H (fun post h => br_t (by decide) h) (fun post h => br_t (by decide) h) (re_76p P ht hfa (by decide) (by decide) (fun post h => xo_3 post ht hfd (by omega) h) hp)
  · exact re_ys Q (fun post => post (nI l, ywa, ysk, ylo, nI (t + 1), nI (s + 1), yaw, yan, ywh, you, ymd, ygd, yop, yops, ybs, ysz, yex, yst, yow, yle, yel, yla, ysh, yro, yos, yoe, yoh, yor, yrw, upd ynx t (nI (k + 1)), upd ydp t (nI (d + 1)), upd ypl (8 * t + (d + 2)) ((ypl (8 * t + (d + 2)) + ypl (8 * t + (d + 3))).toInt16.toInt32), upd ykd (8 * t + (d + 2)) (1), ymt, ytd, yht)) S hs (by decide) (fun _ post h => yo_3 post ht hnx hdp (by omega) h) (fun z => absurd z (by decide)) (fun z => absurd z (by decide)) hq
theorem st_4 (h : rr B t m k d f (nI l, xpc, xnd, xwc, xit, nI (t + 1), xwt, xan, xlp, xpo, xpb, xwd, xwk, xnk, xco, xcb, xml, xme, xro, xow, xol, xla, xsh, xoe, xoh, xsr, xss, xse, xms, xfm, xfa, xfd, xcv, xcr) (nI l, ywa, ysk, ylo, nI (t + 1), nI s, yaw, yan, ywh, you, ymd, ygd, yop, yops, ybs, ysz, yex, yst, yow, yle, yel, yla, ysh, yro, yos, yoe, yoh, yor, yrw, ynx, ydp, ypl, ykd, ymt, ytd, yht)) (hs : ¬ nI s = nI l) (H : re_H xfm xfa xco xcb t m k 4 Bv) (S : re_S yrw ynx yops ybs t m k 4 Bv) (hfb : rl_fb 4 Bv n) (hos : ck_os [1, 1, 4] d f) (hgo : k + 1 < 16 ∧ rl_ty yops ybs ysz m (k + 1) (ck_rd [1, 1, 4] d) (ck_rk [1, 1, 4] d f))  : so B l s (nI l, xpc, xnd, xwc, xit, nI (t + 1), xwt, xan, xlp, xpo, xpb, xwd, xwk, xnk, xco, xcb, xml, xme, xro, xow, xol, xla, xsh, xoe, xoh, xsr, xss, xse, xms, xfm, xfa, xfd, xcv, xcr) (nI l, ywa, ysk, ylo, nI (t + 1), nI s, yaw, yan, ywh, you, ymd, ygd, yop, yops, ybs, ysz, yex, yst, yow, yle, yel, yla, ysh, yro, yos, yoe, yoh, yor, yrw, ynx, ydp, ypl, ykd, ymt, ytd, yht) := by
  obtain ⟨ht, _, _, hya, hL, hP, hM, hO, hT, hW, hlo, htp⟩ := h
  have htp2 := htp
  obtain ⟨hm6, hk16, hd4, hsz, hfm, hrw, hfa, hnx, hfd, hdp, hty, hcs⟩ := htp2
  obtain ⟨o1, o2, o3, _⟩ := hos
  have h0 : 0 < d := o1.1
  have h1 : 0 < d - 1 := o2.1
  obtain ⟨d, rfl⟩ : ∃ q, d = q + 2 := ⟨d - 2, by omega⟩
  have f1 : f (d + 3) = 1 := o1.2
  have f2 : f (d + 2) = 1 := o2.2
  have c1 := hcs (d + 3) (by omega)
  have c2 := hcs (d + 2) (by omega)
  rw [f1] at c1
  rw [f2] at c2
  have e1 := (rl_ce1 c1).2.2.1
  have e2 := (rl_ce1 c2).2.2.1
  have hsv : rl_sv ((ypl (8 * t + (d + 2)) - ypl (8 * t + (d + 3))).toInt16.toInt32) := rl_sv_c _
  have hc : rl_ce 1 ((xcv (6 * t + (d + 2)) - xcv (6 * t + (d + 3))).toInt16.toInt32) 0 ((ypl (8 * t + (d + 2)) - ypl (8 * t + (d + 3))).toInt16.toInt32) 1 := by
    rw [e1, e2]
    exact rl_n1 hsv
  obtain ⟨lo', tp'⟩ := so_topc (c := d + 2) (v := 1) (k' := k + 1) (d' := d + 1) ht hlo htp hgo.1 (by omega) hgo.2 hc (by omega) (fun j hj hne => by omega)
  refine Or.inl ⟨(nI l, xpc, xnd, xwc, xit, nI (t + 1), xwt, xan, xlp, xpo, xpb, xwd, xwk, xnk, xco, xcb, xml, xme, xro, xow, xol, xla, xsh, xoe, xoh, xsr, xss, xse, xms, xfm, upd xfa t (nI (k + 1)), upd xfd t (nI (d + 1)), upd xcv (6 * t + (d + 2)) ((xcv (6 * t + (d + 2)) - xcv (6 * t + (d + 3))).toInt16.toInt32), upd xcr (6 * t + (d + 2)) (0)), (nI l, ywa, ysk, ylo, nI (t + 1), nI (s + 1), yaw, yan, ywh, you, ymd, ygd, yop, yops, ybs, ysz, yex, yst, yow, yle, yel, yla, ysh, yro, yos, yoe, yoh, yor, yrw, upd ynx t (nI (k + 1)), upd ydp t (nI (d + 1)), upd ypl (8 * t + (d + 2)) ((ypl (8 * t + (d + 2)) - ypl (8 * t + (d + 3))).toInt16.toInt32), upd ykd (8 * t + (d + 2)) (1), ymt, ytd, yht), t, m, k + 1, d + 1, _, fun P hp => ?_, fun Q hq => ?_, ⟨by omega, rfl, rfl, hya, hL, hP, hM, hO, re_T_up hT (by omega), hW, lo', tp'⟩, rfl, rfl, rfl⟩
  · exact re_xn P (oh := xoh) H (fun post h => br_t (by decide) h) (fun post h => br_t (by decide) h) (re_76p P ht hfa (by decide) (by decide) (fun post h => xo_4 post ht hfd (by omega) h) hp)
  · exact re_ys Q (fun post => post (nI l, ywa, ysk, ylo, nI (t + 1), nI (s + 1), yaw, yan, ywh, you, ymd, ygd, yop, yops, ybs, ysz, yex, yst, yow, yle, yel, yla, ysh, yro, yos, yoe, yoh, yor, yrw, upd ynx t (nI (k + 1)), upd ydp t (nI (d + 1)), upd ypl (8 * t + (d + 2)) ((ypl (8 * t + (d + 2)) - ypl (8 * t + (d + 3))).toInt16.toInt32), upd ykd (8 * t + (d + 2)) (1), ymt, ytd, yht)) S hs (by decide) (fun _ post h => yo_4 post ht hnx hdp (by omega) h) (fun z => absurd z (by decide)) (fun z => absurd z (by decide)) hq
theorem st_5 (h : rr B t m k d f (nI l, xpc, xnd, xwc, xit, nI (t + 1), xwt, xan, xlp, xpo, xpb, xwd, xwk, xnk, xco, xcb, xml, xme, xro, xow, xol, xla, xsh, xoe, xoh, xsr, xss, xse, xms, xfm, xfa, xfd, xcv, xcr) (nI l, ywa, ysk, ylo, nI (t + 1), nI s, yaw, yan, ywh, you, ymd, ygd, yop, yops, ybs, ysz, yex, yst, yow, yle, yel, yla, ysh, yro, yos, yoe, yoh, yor, yrw, ynx, ydp, ypl, ykd, ymt, ytd, yht)) (hs : ¬ nI s = nI l) (H : re_H xfm xfa xco xcb t m k 5 Bv) (S : re_S yrw ynx yops ybs t m k 5 Bv) (hfb : rl_fb 5 Bv n) (hos : ck_os [1, 1, 4] d f) (hgo : k + 1 < 16 ∧ rl_ty yops ybs ysz m (k + 1) (ck_rd [1, 1, 4] d) (ck_rk [1, 1, 4] d f))  : so B l s (nI l, xpc, xnd, xwc, xit, nI (t + 1), xwt, xan, xlp, xpo, xpb, xwd, xwk, xnk, xco, xcb, xml, xme, xro, xow, xol, xla, xsh, xoe, xoh, xsr, xss, xse, xms, xfm, xfa, xfd, xcv, xcr) (nI l, ywa, ysk, ylo, nI (t + 1), nI s, yaw, yan, ywh, you, ymd, ygd, yop, yops, ybs, ysz, yex, yst, yow, yle, yel, yla, ysh, yro, yos, yoe, yoh, yor, yrw, ynx, ydp, ypl, ykd, ymt, ytd, yht) := by
  obtain ⟨ht, _, _, hya, hL, hP, hM, hO, hT, hW, hlo, htp⟩ := h
  have htp2 := htp
  obtain ⟨hm6, hk16, hd4, hsz, hfm, hrw, hfa, hnx, hfd, hdp, hty, hcs⟩ := htp2
  obtain ⟨o1, o2, o3, _⟩ := hos
  have h0 : 0 < d := o1.1
  have h1 : 0 < d - 1 := o2.1
  obtain ⟨d, rfl⟩ : ∃ q, d = q + 2 := ⟨d - 2, by omega⟩
  have f1 : f (d + 3) = 1 := o1.2
  have f2 : f (d + 2) = 1 := o2.2
  have c1 := hcs (d + 3) (by omega)
  have c2 := hcs (d + 2) (by omega)
  rw [f1] at c1
  rw [f2] at c2
  have e1 := (rl_ce1 c1).2.2.1
  have e2 := (rl_ce1 c2).2.2.1
  have hsv : rl_sv ((ypl (8 * t + (d + 2)) * ypl (8 * t + (d + 3))).toInt16.toInt32) := rl_sv_c _
  have hc : rl_ce 1 ((xcv (6 * t + (d + 2)) * xcv (6 * t + (d + 3))).toInt16.toInt32) 0 ((ypl (8 * t + (d + 2)) * ypl (8 * t + (d + 3))).toInt16.toInt32) 1 := by
    rw [e1, e2]
    exact rl_n1 hsv
  obtain ⟨lo', tp'⟩ := so_topc (c := d + 2) (v := 1) (k' := k + 1) (d' := d + 1) ht hlo htp hgo.1 (by omega) hgo.2 hc (by omega) (fun j hj hne => by omega)
  refine Or.inl ⟨(nI l, xpc, xnd, xwc, xit, nI (t + 1), xwt, xan, xlp, xpo, xpb, xwd, xwk, xnk, xco, xcb, xml, xme, xro, xow, xol, xla, xsh, xoe, xoh, xsr, xss, xse, xms, xfm, upd xfa t (nI (k + 1)), upd xfd t (nI (d + 1)), upd xcv (6 * t + (d + 2)) ((xcv (6 * t + (d + 2)) * xcv (6 * t + (d + 3))).toInt16.toInt32), upd xcr (6 * t + (d + 2)) (0)), (nI l, ywa, ysk, ylo, nI (t + 1), nI (s + 1), yaw, yan, ywh, you, ymd, ygd, yop, yops, ybs, ysz, yex, yst, yow, yle, yel, yla, ysh, yro, yos, yoe, yoh, yor, yrw, upd ynx t (nI (k + 1)), upd ydp t (nI (d + 1)), upd ypl (8 * t + (d + 2)) ((ypl (8 * t + (d + 2)) * ypl (8 * t + (d + 3))).toInt16.toInt32), upd ykd (8 * t + (d + 2)) (1), ymt, ytd, yht), t, m, k + 1, d + 1, _, fun P hp => ?_, fun Q hq => ?_, ⟨by omega, rfl, rfl, hya, hL, hP, hM, hO, re_T_up hT (by omega), hW, lo', tp'⟩, rfl, rfl, rfl⟩
  · exact re_xn P (oh := xoh) H (fun post h => br_t (by decide) h) (fun post h => br_t (by decide) h) (re_76p P ht hfa (by decide) (by decide) (fun post h => xo_5 post ht hfd (by omega) h) hp)
  · exact re_ys Q (fun post => post (nI l, ywa, ysk, ylo, nI (t + 1), nI (s + 1), yaw, yan, ywh, you, ymd, ygd, yop, yops, ybs, ysz, yex, yst, yow, yle, yel, yla, ysh, yro, yos, yoe, yoh, yor, yrw, upd ynx t (nI (k + 1)), upd ydp t (nI (d + 1)), upd ypl (8 * t + (d + 2)) ((ypl (8 * t + (d + 2)) * ypl (8 * t + (d + 3))).toInt16.toInt32), upd ykd (8 * t + (d + 2)) (1), ymt, ytd, yht)) S hs (by decide) (fun _ post h => yo_5 post ht hnx hdp (by omega) h) (fun z => absurd z (by decide)) (fun z => absurd z (by decide)) hq
theorem st_6 (h : rr B t m k d f (nI l, xpc, xnd, xwc, xit, nI (t + 1), xwt, xan, xlp, xpo, xpb, xwd, xwk, xnk, xco, xcb, xml, xme, xro, xow, xol, xla, xsh, xoe, xoh, xsr, xss, xse, xms, xfm, xfa, xfd, xcv, xcr) (nI l, ywa, ysk, ylo, nI (t + 1), nI s, yaw, yan, ywh, you, ymd, ygd, yop, yops, ybs, ysz, yex, yst, yow, yle, yel, yla, ysh, yro, yos, yoe, yoh, yor, yrw, ynx, ydp, ypl, ykd, ymt, ytd, yht)) (hs : ¬ nI s = nI l) (H : re_H xfm xfa xco xcb t m k 6 Bv) (S : re_S yrw ynx yops ybs t m k 6 Bv) (hfb : rl_fb 6 Bv n) (hos : ck_os [1, 1, 4] d f) (hgo : k + 1 < 16 ∧ rl_ty yops ybs ysz m (k + 1) (ck_rd [1, 1, 4] d) (ck_rk [1, 1, 4] d f))  : so B l s (nI l, xpc, xnd, xwc, xit, nI (t + 1), xwt, xan, xlp, xpo, xpb, xwd, xwk, xnk, xco, xcb, xml, xme, xro, xow, xol, xla, xsh, xoe, xoh, xsr, xss, xse, xms, xfm, xfa, xfd, xcv, xcr) (nI l, ywa, ysk, ylo, nI (t + 1), nI s, yaw, yan, ywh, you, ymd, ygd, yop, yops, ybs, ysz, yex, yst, yow, yle, yel, yla, ysh, yro, yos, yoe, yoh, yor, yrw, ynx, ydp, ypl, ykd, ymt, ytd, yht) := by
  obtain ⟨ht, _, _, hya, hL, hP, hM, hO, hT, hW, hlo, htp⟩ := h
  have htp2 := htp
  obtain ⟨hm6, hk16, hd4, hsz, hfm, hrw, hfa, hnx, hfd, hdp, hty, hcs⟩ := htp2
  obtain ⟨o1, o2, o3, _⟩ := hos
  have h0 : 0 < d := o1.1
  have h1 : 0 < d - 1 := o2.1
  obtain ⟨d, rfl⟩ : ∃ q, d = q + 2 := ⟨d - 2, by omega⟩
  have f1 : f (d + 3) = 1 := o1.2
  have f2 : f (d + 2) = 1 := o2.2
  have c1 := hcs (d + 3) (by omega)
  have c2 := hcs (d + 2) (by omega)
  rw [f1] at c1
  rw [f2] at c2
  have e1 := (rl_ce1 c1).2.2.1
  have e2 := (rl_ce1 c2).2.2.1
  have hsv : rl_sv (if ypl (8 * t + (d + 3)) ≤ ypl (8 * t + (d + 2)) then 0 else 1) := by split <;> exact rl_sv_i (by decide) (by decide)
  have hc : rl_ce 1 (if xcv (6 * t + (d + 3)) ≤ xcv (6 * t + (d + 2)) then 0 else 1) 0 (if ypl (8 * t + (d + 3)) ≤ ypl (8 * t + (d + 2)) then 0 else 1) 1 := by
    rw [e1, e2]
    exact rl_n1 hsv
  obtain ⟨lo', tp'⟩ := so_topc (c := d + 2) (v := 1) (k' := k + 1) (d' := d + 1) ht hlo htp hgo.1 (by omega) hgo.2 hc (by omega) (fun j hj hne => by omega)
  refine Or.inl ⟨(nI l, xpc, xnd, xwc, xit, nI (t + 1), xwt, xan, xlp, xpo, xpb, xwd, xwk, xnk, xco, xcb, xml, xme, xro, xow, xol, xla, xsh, xoe, xoh, xsr, xss, xse, xms, xfm, upd xfa t (nI (k + 1)), upd xfd t (nI (d + 1)), upd xcv (6 * t + (d + 2)) (if xcv (6 * t + (d + 3)) ≤ xcv (6 * t + (d + 2)) then 0 else 1), upd xcr (6 * t + (d + 2)) (0)), (nI l, ywa, ysk, ylo, nI (t + 1), nI (s + 1), yaw, yan, ywh, you, ymd, ygd, yop, yops, ybs, ysz, yex, yst, yow, yle, yel, yla, ysh, yro, yos, yoe, yoh, yor, yrw, upd ynx t (nI (k + 1)), upd ydp t (nI (d + 1)), upd ypl (8 * t + (d + 2)) (if ypl (8 * t + (d + 3)) ≤ ypl (8 * t + (d + 2)) then 0 else 1), upd ykd (8 * t + (d + 2)) (1), ymt, ytd, yht), t, m, k + 1, d + 1, _, fun P hp => ?_, fun Q hq => ?_, ⟨by omega, rfl, rfl, hya, hL, hP, hM, hO, re_T_up hT (by omega), hW, lo', tp'⟩, rfl, rfl, rfl⟩
  · exact re_xn P (oh := xoh) H (fun post h => br_t (by decide) h) (fun post h => br_t (by decide) h) (re_76p P ht hfa (by decide) (by decide) (fun post h => xo_6 post ht hfd (by omega) h) hp)
  · exact re_ys Q (fun post => post (nI l, ywa, ysk, ylo, nI (t + 1), nI (s + 1), yaw, yan, ywh, you, ymd, ygd, yop, yops, ybs, ysz, yex, yst, yow, yle, yel, yla, ysh, yro, yos, yoe, yoh, yor, yrw, upd ynx t (nI (k + 1)), upd ydp t (nI (d + 1)), upd ypl (8 * t + (d + 2)) (if ypl (8 * t + (d + 3)) ≤ ypl (8 * t + (d + 2)) then 0 else 1), upd ykd (8 * t + (d + 2)) (1), ymt, ytd, yht)) S hs (by decide) (fun _ post h => yo_6 post ht hnx hdp (by omega) h) (fun z => absurd z (by decide)) (fun z => absurd z (by decide)) hq
variable {b : Nat}
theorem st_7 (h : rr B t m k d f (nI l, xpc, xnd, xwc, xit, nI (t + 1), xwt, xan, xlp, xpo, xpb, xwd, xwk, xnk, xco, xcb, xml, xme, xro, xow, xol, xla, xsh, xoe, xoh, xsr, xss, xse, xms, xfm, xfa, xfd, xcv, xcr) (nI l, ywa, ysk, ylo, nI (t + 1), nI s, yaw, yan, ywh, you, ymd, ygd, yop, yops, ybs, ysz, yex, yst, yow, yle, yel, yla, ysh, yro, yos, yoe, yoh, yor, yrw, ynx, ydp, ypl, ykd, ymt, ytd, yht)) (hs : ¬ nI s = nI l) (H : re_H xfm xfa xco xcb t m k 7 Bv) (S : re_S yrw ynx yops ybs t m k 7 Bv) (hfb : rl_fb 7 Bv n)  (hju : b < 16 ∧ Bv = nI b ∧ rl_ty yops ybs ysz m b (ck_rd [] d) (ck_rk [] d f)) : so B l s (nI l, xpc, xnd, xwc, xit, nI (t + 1), xwt, xan, xlp, xpo, xpb, xwd, xwk, xnk, xco, xcb, xml, xme, xro, xow, xol, xla, xsh, xoe, xoh, xsr, xss, xse, xms, xfm, xfa, xfd, xcv, xcr) (nI l, ywa, ysk, ylo, nI (t + 1), nI s, yaw, yan, ywh, you, ymd, ygd, yop, yops, ybs, ysz, yex, yst, yow, yle, yel, yla, ysh, yro, yos, yoe, yoh, yor, yrw, ynx, ydp, ypl, ykd, ymt, ytd, yht) := by
  obtain ⟨ht, _, _, hya, hL, hP, hM, hO, hT, hW, hlo, htp⟩ := h
  have htp2 := htp
  obtain ⟨hm6, hk16, hd4, hsz, hfm, hrw, hfa, hnx, hfd, hdp, hty, hcs⟩ := htp2
  obtain ⟨hb, rfl, hty'⟩ := hju
  obtain ⟨lo', tp'⟩ := so_topn (k' := b) (d' := d) ht hlo htp hb (by omega) hty'
  rw [so_same hfd, so_same hdp] at lo' tp'
  refine Or.inl ⟨(nI l, xpc, xnd, xwc, xit, nI (t + 1), xwt, xan, xlp, xpo, xpb, xwd, xwk, xnk, xco, xcb, xml, xme, xro, xow, xol, xla, xsh, xoe, xoh, xsr, xss, xse, xms, xfm, upd xfa t (nI b), xfd, xcv, xcr), (nI l, ywa, ysk, ylo, nI (t + 1), nI (s + 1), yaw, yan, ywh, you, ymd, ygd, yop, yops, ybs, ysz, yex, yst, yow, yle, yel, yla, ysh, yro, yos, yoe, yoh, yor, yrw, upd ynx t (nI b), ydp, ypl, ykd, ymt, ytd, yht), t, m, b, d, _, fun P hp => ?_, fun Q hq => ?_, ⟨by omega, rfl, rfl, hya, hL, hP, hM, hO, re_T_up hT (by omega), hW, lo', tp'⟩, rfl, rfl, rfl⟩
  · exact re_xn P (oh := xoh) H (fun post h => br_t (by decide) h) (fun post h => br_t (by decide) h) (re_76p P ht hfa (by decide) (by decide) (fun post h => xo_7 post ht (by rw [rl_uu]; exact h)) hp)
  · exact re_ys Q (fun post => post (nI l, ywa, ysk, ylo, nI (t + 1), nI (s + 1), yaw, yan, ywh, you, ymd, ygd, yop, yops, ybs, ysz, yex, yst, yow, yle, yel, yla, ysh, yro, yos, yoe, yoh, yor, yrw, upd ynx t (nI b), ydp, ypl, ykd, ymt, ytd, yht)) S hs (by decide) (fun _ post h => yo_7 post ht h) (fun z => absurd z (by decide)) (fun z => absurd z (by decide)) hq
theorem st_8 (h : rr B t m k d f (nI l, xpc, xnd, xwc, xit, nI (t + 1), xwt, xan, xlp, xpo, xpb, xwd, xwk, xnk, xco, xcb, xml, xme, xro, xow, xol, xla, xsh, xoe, xoh, xsr, xss, xse, xms, xfm, xfa, xfd, xcv, xcr) (nI l, ywa, ysk, ylo, nI (t + 1), nI s, yaw, yan, ywh, you, ymd, ygd, yop, yops, ybs, ysz, yex, yst, yow, yle, yel, yla, ysh, yro, yos, yoe, yoh, yor, yrw, ynx, ydp, ypl, ykd, ymt, ytd, yht)) (hs : ¬ nI s = nI l) (H : re_H xfm xfa xco xcb t m k 8 Bv) (S : re_S yrw ynx yops ybs t m k 8 Bv) (hfb : rl_fb 8 Bv n) (hos : ck_os [1] d f) (hgo : k + 1 < 16 ∧ rl_ty yops ybs ysz m (k + 1) (ck_rd [1] d) (ck_rk [1] d f)) (hju : b < 16 ∧ Bv = nI b ∧ rl_ty yops ybs ysz m b (ck_rd [1] d) (ck_rk [1] d f)) : so B l s (nI l, xpc, xnd, xwc, xit, nI (t + 1), xwt, xan, xlp, xpo, xpb, xwd, xwk, xnk, xco, xcb, xml, xme, xro, xow, xol, xla, xsh, xoe, xoh, xsr, xss, xse, xms, xfm, xfa, xfd, xcv, xcr) (nI l, ywa, ysk, ylo, nI (t + 1), nI s, yaw, yan, ywh, you, ymd, ygd, yop, yops, ybs, ysz, yex, yst, yow, yle, yel, yla, ysh, yro, yos, yoe, yoh, yor, yrw, ynx, ydp, ypl, ykd, ymt, ytd, yht) := by
  obtain ⟨ht, _, _, hya, hL, hP, hM, hO, hT, hW, hlo, htp⟩ := h
  have htp2 := htp
  obtain ⟨hm6, hk16, hd4, hsz, hfm, hrw, hfa, hnx, hfd, hdp, hty, hcs⟩ := htp2
  obtain ⟨hb, rfl, hty'⟩ := hju
  have h0 : 0 < d := hos.1.1
  obtain ⟨d, rfl⟩ : ∃ q, d = q + 1 := ⟨d - 1, by omega⟩
  have f1 : f (d + 2) = 1 := hos.1.2
  have c1 := hcs (d + 2) (by omega)
  rw [f1] at c1
  have e1 := (rl_ce1 c1).2.2.1
  by_cases z : ypl (8 * t + (d + 2)) = 0
  · have z' : xcv (6 * t + (d + 2)) = 0 := by rw [e1]; exact z
    obtain ⟨lo', tp'⟩ := so_topn (k' := b) (d' := d) ht hlo htp hb (by omega) hty'
    refine Or.inl ⟨(nI l, xpc, xnd, xwc, xit, nI (t + 1), xwt, xan, xlp, xpo, xpb, xwd, xwk, xnk, xco, xcb, xml, xme, xro, xow, xol, xla, xsh, xoe, xoh, xsr, xss, xse, xms, xfm, upd xfa t (nI b), upd xfd t (nI d), xcv, xcr), (nI l, ywa, ysk, ylo, nI (t + 1), nI (s + 1), yaw, yan, ywh, you, ymd, ygd, yop, yops, ybs, ysz, yex, yst, yow, yle, yel, yla, ysh, yro, yos, yoe, yoh, yor, yrw, upd ynx t (nI b), upd ydp t (nI d), ypl, ykd, ymt, ytd, yht), t, m, b, d, _, fun P hp => ?_, fun Q hq => ?_, ⟨by omega, rfl, rfl, hya, hL, hP, hM, hO, re_T_up hT (by omega), hW, lo', tp'⟩, rfl, rfl, rfl⟩
    · exact re_xn P (oh := xoh) H (fun post h => br_t (by decide) h) (fun post h => br_t (by decide) h) (re_76p P ht hfa (by decide) (by decide) (fun post h => xo_8 post ht hfd (by omega) (fun _ => by rw [rl_uu]; exact h) (fun w => absurd z' w)) hp)
    · exact re_ys Q (fun post => post (nI l, ywa, ysk, ylo, nI (t + 1), nI (s + 1), yaw, yan, ywh, you, ymd, ygd, yop, yops, ybs, ysz, yex, yst, yow, yle, yel, yla, ysh, yro, yos, yoe, yoh, yor, yrw, upd ynx t (nI b), upd ydp t (nI d), ypl, ykd, ymt, ytd, yht)) S hs (by decide) (fun _ post h => yo_8 post ht hnx hdp (by omega) (fun _ => h) (fun w => absurd z w)) (fun z => absurd z (by decide)) (fun z => absurd z (by decide)) hq
  · have z' : ¬ xcv (6 * t + (d + 2)) = 0 := by rw [e1]; exact z
    obtain ⟨lo', tp'⟩ := so_topn (k' := k + 1) (d' := d) ht hlo htp hgo.1 (by omega) hgo.2
    refine Or.inl ⟨(nI l, xpc, xnd, xwc, xit, nI (t + 1), xwt, xan, xlp, xpo, xpb, xwd, xwk, xnk, xco, xcb, xml, xme, xro, xow, xol, xla, xsh, xoe, xoh, xsr, xss, xse, xms, xfm, upd xfa t (nI (k + 1)), upd xfd t (nI d), xcv, xcr), (nI l, ywa, ysk, ylo, nI (t + 1), nI (s + 1), yaw, yan, ywh, you, ymd, ygd, yop, yops, ybs, ysz, yex, yst, yow, yle, yel, yla, ysh, yro, yos, yoe, yoh, yor, yrw, upd ynx t (nI (k + 1)), upd ydp t (nI d), ypl, ykd, ymt, ytd, yht), t, m, k + 1, d, _, fun P hp => ?_, fun Q hq => ?_, ⟨by omega, rfl, rfl, hya, hL, hP, hM, hO, re_T_up hT (by omega), hW, lo', tp'⟩, rfl, rfl, rfl⟩
    · exact re_xn P (oh := xoh) H (fun post h => br_t (by decide) h) (fun post h => br_t (by decide) h) (re_76p P ht hfa (by decide) (by decide) (fun post h => xo_8 post ht hfd (by omega) (fun w => absurd w z') (fun _ => h)) hp)
    · exact re_ys Q (fun post => post (nI l, ywa, ysk, ylo, nI (t + 1), nI (s + 1), yaw, yan, ywh, you, ymd, ygd, yop, yops, ybs, ysz, yex, yst, yow, yle, yel, yla, ysh, yro, yos, yoe, yoh, yor, yrw, upd ynx t (nI (k + 1)), upd ydp t (nI d), ypl, ykd, ymt, ytd, yht)) S hs (by decide) (fun _ post h => yo_8 post ht hnx hdp (by omega) (fun w => absurd w z) (fun _ => h)) (fun z => absurd z (by decide)) (fun z => absurd z (by decide)) hq
theorem st_9 (h : rr B t m k d f (nI l, xpc, xnd, xwc, xit, nI (t + 1), xwt, xan, xlp, xpo, xpb, xwd, xwk, xnk, xco, xcb, xml, xme, xro, xow, xol, xla, xsh, xoe, xoh, xsr, xss, xse, xms, xfm, xfa, xfd, xcv, xcr) (nI l, ywa, ysk, ylo, nI (t + 1), nI s, yaw, yan, ywh, you, ymd, ygd, yop, yops, ybs, ysz, yex, yst, yow, yle, yel, yla, ysh, yro, yos, yoe, yoh, yor, yrw, ynx, ydp, ypl, ykd, ymt, ytd, yht)) (hs : ¬ nI s = nI l) (H : re_H xfm xfa xco xcb t m k 9 Bv) (S : re_S yrw ynx yops ybs t m k 9 Bv) (hfb : rl_fb 9 Bv n) (hos : ck_os [5] d f) (hgo : k + 1 < 16 ∧ rl_ty yops ybs ysz m (k + 1) (ck_rd [5] d) (ck_rk [5] d f)) (hB : b ≤ 1 ∧ Bv = nI b) : so B l s (nI l, xpc, xnd, xwc, xit, nI (t + 1), xwt, xan, xlp, xpo, xpb, xwd, xwk, xnk, xco, xcb, xml, xme, xro, xow, xol, xla, xsh, xoe, xoh, xsr, xss, xse, xms, xfm, xfa, xfd, xcv, xcr) (nI l, ywa, ysk, ylo, nI (t + 1), nI s, yaw, yan, ywh, you, ymd, ygd, yop, yops, ybs, ysz, yex, yst, yow, yle, yel, yla, ysh, yro, yos, yoe, yoh, yor, yrw, ynx, ydp, ypl, ykd, ymt, ytd, yht) := by
  obtain ⟨ht, _, _, hya, hL, hP, hM, hO, hT, hW, hlo, htp⟩ := h
  have htp2 := htp
  obtain ⟨hm6, hk16, hd4, hsz, hfm, hrw, hfa, hnx, hfd, hdp, hty, hcs⟩ := htp2
  obtain ⟨hb1, rfl⟩ := hB
  have h4 : d < 4 := hos.1.1
  obtain ⟨lo', tp'⟩ := so_topc (c := d + 2) (v := 2) (k' := k + 1) (d' := d + 1) ht hlo htp hgo.1 (by omega) hgo.2 (rl_n2 (hO.1 (2 * (m / 2) + b) (by omega))) (by omega) (fun j hj hne => by omega)
  refine Or.inl ⟨(nI l, xpc, xnd, xwc, xit, nI (t + 1), xwt, xan, xlp, xpo, xpb, xwd, xwk, xnk, xco, xcb, xml, xme, xro, xow, xol, xla, xsh, xoe, xoh, xsr, xss, xse, xms, xfm, upd xfa t (nI (k + 1)), upd xfd t (nI (d + 1)), upd xcv (6 * t + (d + 2)) (xro (2 * (m / 2) + b)), upd xcr (6 * t + (d + 2)) (1)), (nI l, ywa, ysk, ylo, nI (t + 1), nI (s + 1), yaw, yan, ywh, you, ymd, ygd, yop, yops, ybs, ysz, yex, yst, yow, yle, yel, yla, ysh, yro, yos, yoe, yoh, yor, yrw, upd ynx t (nI (k + 1)), upd ydp t (nI (d + 1)), upd ypl (8 * t + (d + 2)) (yro (2 * (m / 2) + b)), upd ykd (8 * t + (d + 2)) (2), ymt, ytd, yht), t, m, k + 1, d + 1, _, fun P hp => ?_, fun Q hq => ?_, ⟨by omega, rfl, rfl, hya, hL, hP, hM, hO, re_T_up hT (by omega), hW, lo', tp'⟩, rfl, rfl, rfl⟩
  · exact re_xn P (oh := xoh) H (fun post h => br_t (by decide) h) (fun post h => br_t (by decide) h) (re_76o P ht hfa (by decide) (by decide) (fun post h => xo_9 post ht hfm hm6 hfd h4 hb1 h) hp)
  · exact re_ys Q (fun post => post (nI l, ywa, ysk, ylo, nI (t + 1), nI (s + 1), yaw, yan, ywh, you, ymd, ygd, yop, yops, ybs, ysz, yex, yst, yow, yle, yel, yla, ysh, yro, yos, yoe, yoh, yor, yrw, upd ynx t (nI (k + 1)), upd ydp t (nI (d + 1)), upd ypl (8 * t + (d + 2)) (yro (2 * (m / 2) + b)), upd ykd (8 * t + (d + 2)) (2), ymt, ytd, yht)) S hs (by decide) (fun z => absurd z (by decide)) (fun _ _ z9 z10 z16 z17 => absurd rfl z9) (fun _ post h => yo_9 post ht hnx hrw hm6 hdp h4 hb1 h) hq
theorem st_16 (h : rr B t m k d f (nI l, xpc, xnd, xwc, xit, nI (t + 1), xwt, xan, xlp, xpo, xpb, xwd, xwk, xnk, xco, xcb, xml, xme, xro, xow, xol, xla, xsh, xoe, xoh, xsr, xss, xse, xms, xfm, xfa, xfd, xcv, xcr) (nI l, ywa, ysk, ylo, nI (t + 1), nI s, yaw, yan, ywh, you, ymd, ygd, yop, yops, ybs, ysz, yex, yst, yow, yle, yel, yla, ysh, yro, yos, yoe, yoh, yor, yrw, ynx, ydp, ypl, ykd, ymt, ytd, yht)) (hs : ¬ nI s = nI l) (H : re_H xfm xfa xco xcb t m k 16 Bv) (S : re_S yrw ynx yops ybs t m k 16 Bv) (hfb : rl_fb 16 Bv n) (hos : ck_os [5] d f) (hgo : k + 1 < 16 ∧ rl_ty yops ybs ysz m (k + 1) (ck_rd [5] d) (ck_rk [5] d f)) (hB : b < 6 ∧ Bv = nI b) : so B l s (nI l, xpc, xnd, xwc, xit, nI (t + 1), xwt, xan, xlp, xpo, xpb, xwd, xwk, xnk, xco, xcb, xml, xme, xro, xow, xol, xla, xsh, xoe, xoh, xsr, xss, xse, xms, xfm, xfa, xfd, xcv, xcr) (nI l, ywa, ysk, ylo, nI (t + 1), nI s, yaw, yan, ywh, you, ymd, ygd, yop, yops, ybs, ysz, yex, yst, yow, yle, yel, yla, ysh, yro, yos, yoe, yoh, yor, yrw, ynx, ydp, ypl, ykd, ymt, ytd, yht) := by
  obtain ⟨ht, _, _, hya, hL, hP, hM, hO, hT, hW, hlo, htp⟩ := h
  have htp2 := htp
  obtain ⟨hm6, hk16, hd4, hsz, hfm, hrw, hfa, hnx, hfd, hdp, hty, hcs⟩ := htp2
  obtain ⟨hb1, rfl⟩ := hB
  have h4 : d < 4 := hos.1.1
  obtain ⟨lo', tp'⟩ := so_topc (c := d + 2) (v := 2) (k' := k + 1) (d' := d + 1) ht hlo htp hgo.1 (by omega) hgo.2 (rl_n2 (hO.1 (b) (by omega))) (by omega) (fun j hj hne => by omega)
  refine Or.inl ⟨(nI l, xpc, xnd, xwc, xit, nI (t + 1), xwt, xan, xlp, xpo, xpb, xwd, xwk, xnk, xco, xcb, xml, xme, xro, xow, xol, xla, xsh, xoe, xoh, xsr, xss, xse, xms, xfm, upd xfa t (nI (k + 1)), upd xfd t (nI (d + 1)), upd xcv (6 * t + (d + 2)) (xro (b)), upd xcr (6 * t + (d + 2)) (1)), (nI l, ywa, ysk, ylo, nI (t + 1), nI (s + 1), yaw, yan, ywh, you, ymd, ygd, yop, yops, ybs, ysz, yex, yst, yow, yle, yel, yla, ysh, yro, yos, yoe, yoh, yor, yrw, upd ynx t (nI (k + 1)), upd ydp t (nI (d + 1)), upd ypl (8 * t + (d + 2)) (yro (b)), upd ykd (8 * t + (d + 2)) (2), ymt, ytd, yht), t, m, k + 1, d + 1, _, fun P hp => ?_, fun Q hq => ?_, ⟨by omega, rfl, rfl, hya, hL, hP, hM, hO, re_T_up hT (by omega), hW, lo', tp'⟩, rfl, rfl, rfl⟩
  · exact re_xn P (oh := xoh) H (fun post h => br_f (by decide) <| br_f (by decide) <| br_f (by decide) <| br_f (by decide) <| br_f (by decide) <| br_f (by decide) <| br_f (by decide) <| br_t rfl <|  h) (fun post h => br_f (by decide) <| br_f (by decide) <| br_f (by decide) <| br_f (by decide) <| br_f (by decide) <| br_f (by decide) <| br_f (by decide) <| br_f (by decide) <| br_t rfl <|  h) (re_76o P ht hfa (by decide) (by decide) (fun post h => xo_16 post ht hfd h4 hb1 h) hp)
  · exact re_ys Q (fun post => post (nI l, ywa, ysk, ylo, nI (t + 1), nI (s + 1), yaw, yan, ywh, you, ymd, ygd, yop, yops, ybs, ysz, yex, yst, yow, yle, yel, yla, ysh, yro, yos, yoe, yoh, yor, yrw, upd ynx t (nI (k + 1)), upd ydp t (nI (d + 1)), upd ypl (8 * t + (d + 2)) (yro (b)), upd ykd (8 * t + (d + 2)) (2), ymt, ytd, yht)) S hs (by decide) (fun z => absurd z (by decide)) (fun _ _ z9 z10 z16 z17 => absurd rfl z16) (fun _ post h => yo_16 post ht hnx hdp h4 hb1 h) hq
theorem st_20 (h : rr B t m k d f (nI l, xpc, xnd, xwc, xit, nI (t + 1), xwt, xan, xlp, xpo, xpb, xwd, xwk, xnk, xco, xcb, xml, xme, xro, xow, xol, xla, xsh, xoe, xoh, xsr, xss, xse, xms, xfm, xfa, xfd, xcv, xcr) (nI l, ywa, ysk, ylo, nI (t + 1), nI s, yaw, yan, ywh, you, ymd, ygd, yop, yops, ybs, ysz, yex, yst, yow, yle, yel, yla, ysh, yro, yos, yoe, yoh, yor, yrw, ynx, ydp, ypl, ykd, ymt, ytd, yht)) (hs : ¬ nI s = nI l) (H : re_H xfm xfa xco xcb t m k 20 Bv) (S : re_S yrw ynx yops ybs t m k 20 Bv) (hfb : rl_fb 20 Bv n) (hos : ck_os [10] d f) (hgo : k + 1 < 16 ∧ rl_ty yops ybs ysz m (k + 1) (ck_rd [10] d) (ck_rk [10] d f))  : so B l s (nI l, xpc, xnd, xwc, xit, nI (t + 1), xwt, xan, xlp, xpo, xpb, xwd, xwk, xnk, xco, xcb, xml, xme, xro, xow, xol, xla, xsh, xoe, xoh, xsr, xss, xse, xms, xfm, xfa, xfd, xcv, xcr) (nI l, ywa, ysk, ylo, nI (t + 1), nI s, yaw, yan, ywh, you, ymd, ygd, yop, yops, ybs, ysz, yex, yst, yow, yle, yel, yla, ysh, yro, yos, yoe, yoh, yor, yrw, ynx, ydp, ypl, ykd, ymt, ytd, yht) := by
  obtain ⟨ht, _, _, hya, hL, hP, hM, hO, hT, hW, hlo, htp⟩ := h
  have htp2 := htp
  obtain ⟨hm6, hk16, hd4, hsz, hfm, hrw, hfa, hnx, hfd, hdp, hty, hcs⟩ := htp2
  have h0 : 0 < d := hos.1.1.1
  have h4 : d < 4 := hos.1.1.2
  obtain ⟨d, rfl⟩ : ∃ q, d = q + 1 := ⟨d - 1, by omega⟩
  have hc := hcs (d + 2) (by omega)
  obtain ⟨c3, ck, cb⟩ := st_k hc
  obtain ⟨lo', tp'⟩ := so_topc (c := d + 3) (v := f (d + 2)) (k' := k + 1) (d' := d + 2) ht hlo htp hgo.1 (by omega) hgo.2 hc (by omega) (fun j hj hne => by omega)
  rw [ck] at lo' tp'
  refine Or.inl ⟨(nI l, xpc, xnd, xwc, xit, nI (t + 1), xwt, xan, xlp, xpo, xpb, xwd, xwk, xnk, xco, xcb, xml, xme, xro, xow, xol, xla, xsh, xoe, xoh, xsr, xss, xse, xms, xfm, upd xfa t (nI (k + 1)), upd xfd t (nI (d + 2)), upd xcv (6 * t + (d + 3)) (xcv (6 * t + (d + 2))), upd xcr (6 * t + (d + 3)) (xcr (6 * t + (d + 2)))), (nI l, ywa, ysk, ylo, nI (t + 1), nI (s + 1), yaw, yan, ywh, you, ymd, ygd, yop, yops, ybs, ysz, yex, yst, yow, yle, yel, yla, ysh, yro, yos, yoe, yoh, yor, yrw, upd ynx t (nI (k + 1)), upd ydp t (nI (d + 2)), upd ypl (8 * t + (d + 3)) (ypl (8 * t + (d + 2))), upd ykd (8 * t + (d + 3)) (nI (f (d + 2))), ymt, ytd, yht), t, m, k + 1, d + 2, _, fun P hp => ?_, fun Q hq => ?_, ⟨by omega, rfl, rfl, hya, hL, hP, hM, hO, re_T_up hT (by omega), hW, lo', tp'⟩, rfl, rfl, rfl⟩
  · exact re_xn P (oh := xoh) H (fun post h => br_f (by decide) <| br_f (by decide) <| br_f (by decide) <| br_f (by decide) <| br_f (by decide) <| br_f (by decide) <| br_f (by decide) <| br_f (by decide) <| br_f (by decide) <| br_f (by decide) <| br_f (by decide) <| br_t rfl <|  h) (fun post h => br_f (by decide) <| br_f (by decide) <| br_f (by decide) <| br_f (by decide) <| br_f (by decide) <| br_f (by decide) <| br_f (by decide) <| br_f (by decide) <| br_f (by decide) <| br_f (by decide) <| br_f (by decide) <| br_f (by decide) <| br_t rfl <|  h) (re_76p P ht hfa (by decide) (by decide) (fun post h => xo_20 post ht hfd (by omega) cb h) hp)
  · exact re_ys Q (fun post => post (nI l, ywa, ysk, ylo, nI (t + 1), nI (s + 1), yaw, yan, ywh, you, ymd, ygd, yop, yops, ybs, ysz, yex, yst, yow, yle, yel, yla, ysh, yro, yos, yoe, yoh, yor, yrw, upd ynx t (nI (k + 1)), upd ydp t (nI (d + 2)), upd ypl (8 * t + (d + 3)) (ypl (8 * t + (d + 2))), upd ykd (8 * t + (d + 3)) (nI (f (d + 2))), ymt, ytd, yht)) S hs (by decide) (fun z => absurd z (by decide)) (fun _ z => absurd z (by decide)) (fun _ post h => yo_20 post ht hnx hdp (by omega) c3 ck h) hq
theorem st_21 (h : rr B t m k d f (nI l, xpc, xnd, xwc, xit, nI (t + 1), xwt, xan, xlp, xpo, xpb, xwd, xwk, xnk, xco, xcb, xml, xme, xro, xow, xol, xla, xsh, xoe, xoh, xsr, xss, xse, xms, xfm, xfa, xfd, xcv, xcr) (nI l, ywa, ysk, ylo, nI (t + 1), nI s, yaw, yan, ywh, you, ymd, ygd, yop, yops, ybs, ysz, yex, yst, yow, yle, yel, yla, ysh, yro, yos, yoe, yoh, yor, yrw, ynx, ydp, ypl, ykd, ymt, ytd, yht)) (hs : ¬ nI s = nI l) (H : re_H xfm xfa xco xcb t m k 21 Bv) (S : re_S yrw ynx yops ybs t m k 21 Bv) (hfb : rl_fb 21 Bv n) (hos : ck_os [3] d f) (hgo : k + 1 < 16 ∧ rl_ty yops ybs ysz m (k + 1) (ck_rd [3] d) (ck_rk [3] d f))  : so B l s (nI l, xpc, xnd, xwc, xit, nI (t + 1), xwt, xan, xlp, xpo, xpb, xwd, xwk, xnk, xco, xcb, xml, xme, xro, xow, xol, xla, xsh, xoe, xoh, xsr, xss, xse, xms, xfm, xfa, xfd, xcv, xcr) (nI l, ywa, ysk, ylo, nI (t + 1), nI s, yaw, yan, ywh, you, ymd, ygd, yop, yops, ybs, ysz, yex, yst, yow, yle, yel, yla, ysh, yro, yos, yoe, yoh, yor, yrw, ynx, ydp, ypl, ykd, ymt, ytd, yht) := by
  obtain ⟨ht, _, _, hya, hL, hP, hM, hO, hT, hW, hlo, htp⟩ := h
  have htp2 := htp
  obtain ⟨hm6, hk16, hd4, hsz, hfm, hrw, hfa, hnx, hfd, hdp, hty, hcs⟩ := htp2
  have h0 : 0 < d := hos.1.1
  obtain ⟨d, rfl⟩ : ∃ q, d = q + 1 := ⟨d - 1, by omega⟩
  obtain ⟨lo', tp'⟩ := so_topn (k' := k + 1) (d' := d) ht hlo htp hgo.1 (by omega) hgo.2
  refine Or.inl ⟨(nI l, xpc, xnd, xwc, xit, nI (t + 1), xwt, xan, xlp, xpo, xpb, xwd, xwk, xnk, xco, xcb, xml, xme, xro, xow, xol, xla, xsh, xoe, xoh, xsr, xss, xse, xms, xfm, upd xfa t (nI (k + 1)), upd xfd t (nI d), xcv, xcr), (nI l, ywa, ysk, ylo, nI (t + 1), nI (s + 1), yaw, yan, ywh, you, ymd, ygd, yop, yops, ybs, ysz, yex, yst, yow, yle, yel, yla, ysh, yro, yos, yoe, yoh, yor, yrw, upd ynx t (nI (k + 1)), upd ydp t (nI d), ypl, ykd, ymt, ytd, yht), t, m, k + 1, d, _, fun P hp => ?_, fun Q hq => ?_, ⟨by omega, rfl, rfl, hya, hL, hP, hM, hO, re_T_up hT (by omega), hW, lo', tp'⟩, rfl, rfl, rfl⟩
  · exact re_xn P (oh := xoh) H (fun post h => br_f (by decide) <| br_f (by decide) <| br_f (by decide) <| br_f (by decide) <| br_f (by decide) <| br_f (by decide) <| br_f (by decide) <| br_f (by decide) <| br_f (by decide) <| br_f (by decide) <| br_f (by decide) <| br_f (by decide) <| br_t rfl <|  h) (fun post h => br_f (by decide) <| br_f (by decide) <| br_f (by decide) <| br_f (by decide) <| br_f (by decide) <| br_f (by decide) <| br_f (by decide) <| br_f (by decide) <| br_f (by decide) <| br_f (by decide) <| br_f (by decide) <| br_f (by decide) <| br_f (by decide) <| br_t rfl <|  h) (re_76p P ht hfa (by decide) (by decide) (fun post h => xo_21 post ht hfd h) hp)
  · exact re_ys Q (fun post => post (nI l, ywa, ysk, ylo, nI (t + 1), nI (s + 1), yaw, yan, ywh, you, ymd, ygd, yop, yops, ybs, ysz, yex, yst, yow, yle, yel, yla, ysh, yro, yos, yoe, yoh, yor, yrw, upd ynx t (nI (k + 1)), upd ydp t (nI d), ypl, ykd, ymt, ytd, yht)) S hs (by decide) (fun z => absurd z (by decide)) (fun _ z => absurd z (by decide)) (fun _ post h => yo_21 post ht hnx hdp (by omega) h) hq
end ST
end
section
/-! THE STEPS ON OBJECTS, AND TRANSACTIONS -/
section SB
variable {xlim xpc xnd xwc xit xfc xwt xan xlp : Int32}
variable {xpo xpb xwd xwk xnk xco xcb xml xme xro xow xol xla xsh xoe xoh xsr xss xse xms xfm xfa xfd xcv xcr : Nat → Int32}
variable {ylim ywa ysk ylo yrn ysp yaw yan ywh you ygd yop : Int32}
variable {ymd : Int64}
variable {yops ybs ysz yex yow yle yel yla ysh yro yoe yoh yor yrw ynx ydp ypl ykd ymt ytd yht : Nat → Int32}
variable {yst yos : Nat → Int64}
variable {B t m k d l s n b : Nat} {f : Nat → Nat} {Bv : Int32}
theorem sb_Oro {r : Nat} {x y : Int32} (hO : rl_O xro xow xol xla xsh xoe yro yow yle yla ysh yel) (h : rl_rf x y) : rl_O (upd xro r x) xow xol xla xsh xoe (upd yro r y) yow yle yla ysh yel := by
  refine ⟨fun q hq => ?_, hO.2⟩
  by_cases e : q = r
  · rw [e, pk_us, pk_us]
    exact h
  · rw [pk_un e, pk_un e]
    exact hO.1 q hq
theorem sb_Osh {o : Nat} (hO : rl_O xro xow xol xla xsh xoe yro yow yle yla ysh yel) : rl_O xro xow xol xla (upd xsh (o + 1) 1) xoe yro yow yle yla (upd ysh o 1) yel := by
  refine ⟨hO.1, fun q hq => ?_, hO.2.2⟩
  obtain ⟨a1, a2, a3, a4, a5, a6, a7, a8⟩ := hO.2.1 q hq
  by_cases e : q = o
  · subst e
    rw [pk_us, pk_us]
    exact ⟨a1, a2, a3, rfl, a5, Or.inr rfl, a7, a8⟩
  · rw [pk_un (by omega), pk_un e]
    exact ⟨a1, a2, a3, a4, a5, a6, a7, a8⟩
theorem sb_Oel {o i : Nat} {x : Int32} (hi : i < 4) (hO : rl_O xro xow xol xla xsh xoe yro yow yle yla ysh yel) (h : rl_sv x) : rl_O xro xow xol xla xsh (upd xoe (4 * (o + 1) + i) x) yro yow yle yla ysh (upd yel (4 * o + i) x) := by
  refine ⟨hO.1, hO.2.1, fun q hq => ?_⟩
  by_cases e : q = 4 * o + i
  · rw [show 4 + q = 4 * (o + 1) + i by omega, e, pk_us, pk_us]
    exact ⟨rfl, h⟩
  · rw [pk_un (by omega), pk_un e]
    exact hO.2.2 q hq
/-- an index that is within -/
theorem sb_ix {iv x : Int32} {ln : Nat} (hx : x = nI ln) (hl : ln ≤ 4) (h : ¬ iv < 0 ∧ iv < x) : ∃ i, i < 4 ∧ iv = nI i := by
  obtain ⟨i, hi, rfl⟩ := nI_of h.1
  rw [hx] at h
  have := (nI_ltI hi (by omega)).mp h.2
  exact ⟨i, by omega, rfl⟩
theorem st_10 (h : rr B t m k d f (nI l, xpc, xnd, xwc, xit, nI (t + 1), xwt, xan, xlp, xpo, xpb, xwd, xwk, xnk, xco, xcb, xml, xme, xro, xow, xol, xla, xsh, xoe, xoh, xsr, xss, xse, xms, xfm, xfa, xfd, xcv, xcr) (nI l, ywa, ysk, ylo, nI (t + 1), nI s, yaw, yan, ywh, you, ymd, ygd, yop, yops, ybs, ysz, yex, yst, yow, yle, yel, yla, ysh, yro, yos, yoe, yoh, yor, yrw, ynx, ydp, ypl, ykd, ymt, ytd, yht)) (hs : ¬ nI s = nI l) (H : re_H xfm xfa xco xcb t m k 10 Bv) (S : re_S yrw ynx yops ybs t m k 10 Bv) (hfb : rl_fb 10 Bv n) (hos : ck_os [2] d f) (hgo : k + 1 < 16 ∧ rl_ty yops ybs ysz m (k + 1) (ck_rd [2] d) (ck_rk [2] d f)) (hB : b ≤ 1 ∧ Bv = nI b) : so B l s (nI l, xpc, xnd, xwc, xit, nI (t + 1), xwt, xan, xlp, xpo, xpb, xwd, xwk, xnk, xco, xcb, xml, xme, xro, xow, xol, xla, xsh, xoe, xoh, xsr, xss, xse, xms, xfm, xfa, xfd, xcv, xcr) (nI l, ywa, ysk, ylo, nI (t + 1), nI s, yaw, yan, ywh, you, ymd, ygd, yop, yops, ybs, ysz, yex, yst, yow, yle, yel, yla, ysh, yro, yos, yoe, yoh, yor, yrw, ynx, ydp, ypl, ykd, ymt, ytd, yht) := by
  have h2 := h
  obtain ⟨ht, _, _, hya, hL, hP, hM, hO, hT, hW, hlo, htp⟩ := h
  have htp2 := htp
  obtain ⟨hm6, hk16, hd4, hsz, hfm, hrw, hfa, hnx, hfd, hdp, hty, hcs⟩ := htp2
  obtain ⟨hb1, rfl⟩ := hB
  have h0 : 0 < d := hos.1.1
  obtain ⟨d, rfl⟩ : ∃ q, d = q + 1 := ⟨d - 1, by omega⟩
  have f1 : f (d + 2) = 2 := hos.1.2
  have c1 := hcs (d + 2) (by omega)
  rw [f1] at c1
  have e1 := (rl_ce2 c1).2.2
  by_cases w0 : xwt = 0
  · have w1 : yaw = 0 := hW.1.symm.trans w0
    exact so_f (r := 9) (oh := xoh) (by decide) h2 (fun P hp => re_xt P H w0 (fun post h => br_t (by decide) h) (fun post h => br_f (by decide) <| br_f (by decide) <| br_t rfl <|  h) hp) (fun v' hE Q hq => re_ys Q (fun post => post v') S hs (by decide) (fun z => absurd z (by decide)) (fun _ _ z9 z10 z16 z17 => absurd rfl z10) (fun _ post h => yo_10t post w1 hE h) hq)
  · have w1 : ¬ yaw = 0 := fun q => w0 (hW.1.trans q)
    obtain ⟨lo', tp'⟩ := so_topn (k' := k + 1) (d' := d) ht hlo htp hgo.1 (by omega) hgo.2
    refine Or.inl ⟨(nI l, xpc, xnd, xwc, xit, nI (t + 1), re_pd xwt, xan, xlp, xpo, xpb, xwd, xwk, xnk, xco, xcb, xml, xme, upd xro (2 * (m / 2) + b) (xcv (6 * t + (d + 2))), xow, xol, xla, xsh, xoe, xoh, xsr, xss, xse, xms, xfm, upd xfa t (nI (k + 1)), upd xfd t (nI d), xcv, xcr), (nI l, ywa, ysk, ylo, nI (t + 1), nI (s + 1), re_pd yaw, yan, ywh, you, ymd, ygd, yop, yops, ybs, ysz, yex, yst, yow, yle, yel, yla, ysh, upd yro (2 * (m / 2) + b) (ypl (8 * t + (d + 2))), yos, yoe, yoh, yor, yrw, upd ynx t (nI (k + 1)), upd ydp t (nI d), ypl, ykd, ymt, ytd, yht), t, m, k + 1, d, _, fun P hp => ?_, fun Q hq => ?_, ⟨by omega, rfl, rfl, hya, hL, hP, hM, sb_Oro hO e1, re_T_up hT (by omega), re_W_pd hW w0, lo', tp'⟩, rfl, rfl, rfl⟩
    · exact re_xw P (oh := xoh) H w0 (fun post h => br_t (by decide) h) (fun post h => br_f (by decide) <| br_f (by decide) <| br_t rfl <|  h) (re_76o P ht hfa (by decide) (by decide) (fun post h => xo_10 post ht hfm hm6 hfd (by omega) hb1 h) hp)
    · exact re_ys Q (fun post => post (nI l, ywa, ysk, ylo, nI (t + 1), nI (s + 1), re_pd yaw, yan, ywh, you, ymd, ygd, yop, yops, ybs, ysz, yex, yst, yow, yle, yel, yla, ysh, upd yro (2 * (m / 2) + b) (ypl (8 * t + (d + 2))), yos, yoe, yoh, yor, yrw, upd ynx t (nI (k + 1)), upd ydp t (nI d), ypl, ykd, ymt, ytd, yht)) S hs (by decide) (fun z => absurd z (by decide)) (fun _ _ z9 z10 z16 z17 => absurd rfl z10) (fun _ post h => yo_10 post ht hnx hrw hm6 hdp (by omega) hb1 w1 h) hq
theorem st_14 (h : rr B t m k d f (nI l, xpc, xnd, xwc, xit, nI (t + 1), xwt, xan, xlp, xpo, xpb, xwd, xwk, xnk, xco, xcb, xml, xme, xro, xow, xol, xla, xsh, xoe, xoh, xsr, xss, xse, xms, xfm, xfa, xfd, xcv, xcr) (nI l, ywa, ysk, ylo, nI (t + 1), nI s, yaw, yan, ywh, you, ymd, ygd, yop, yops, ybs, ysz, yex, yst, yow, yle, yel, yla, ysh, yro, yos, yoe, yoh, yor, yrw, ynx, ydp, ypl, ykd, ymt, ytd, yht)) (hs : ¬ nI s = nI l) (H : re_H xfm xfa xco xcb t m k 14 Bv) (S : re_S yrw ynx yops ybs t m k 14 Bv) (hfb : rl_fb 14 Bv n) (hos : ck_os [2] d f) (hgo : k + 1 < 16 ∧ rl_ty yops ybs ysz m (k + 1) (ck_rd [2] d) (ck_rk [2] d f))  : so B l s (nI l, xpc, xnd, xwc, xit, nI (t + 1), xwt, xan, xlp, xpo, xpb, xwd, xwk, xnk, xco, xcb, xml, xme, xro, xow, xol, xla, xsh, xoe, xoh, xsr, xss, xse, xms, xfm, xfa, xfd, xcv, xcr) (nI l, ywa, ysk, ylo, nI (t + 1), nI s, yaw, yan, ywh, you, ymd, ygd, yop, yops, ybs, ysz, yex, yst, yow, yle, yel, yla, ysh, yro, yos, yoe, yoh, yor, yrw, ynx, ydp, ypl, ykd, ymt, ytd, yht) := by
  have h2 := h
  obtain ⟨ht, _, _, hya, hL, hP, hM, hO, hT, hW, hlo, htp⟩ := h
  have htp2 := htp
  obtain ⟨hm6, hk16, hd4, hsz, hfm, hrw, hfa, hnx, hfd, hdp, hty, hcs⟩ := htp2
  have h0 : 0 < d := hos.1.1
  obtain ⟨d, rfl⟩ : ∃ q, d = q + 1 := ⟨d - 1, by omega⟩
  have f1 : f (d + 2) = 2 := hos.1.2
  have c1 := hcs (d + 2) (by omega)
  rw [f1] at c1
  rcases rl_rf_c (rl_ce2 c1).2.2 with ⟨n1, n2⟩ | ⟨o, ho, x1, y1⟩
  · exact so_f (r := 2) (oh := xoh) (by decide) h2 (fun P hp => re_xf P H (by decide) (fun post h => br_f (by decide) <| br_f (by decide) <| br_f (by decide) <| br_f (by decide) <| br_f (by decide) <| br_t rfl <|  xo_sn _ ht hfd (by omega) n1 h) hp) (fun v' hE Q hq => re_ys Q (fun post => post v') S hs (by decide) (fun z => absurd z (by decide)) (fun _ _ _ _ _ _ post h => yb_nul_14 post ht hdp (by omega) n2 hE h) (fun z => absurd z (by decide)) hq)
  · obtain ⟨a1, a2, a3, a4, a5, a6, a7, a8⟩ := hO.2.1 o ho
    by_cases w : yow o = nI (m / 2)
    · have w' : xow (o + 1) = nI (m / 2) := a1.trans w
      by_cases w0 : xwt = 0
      · have w1 : yaw = 0 := hW.1.symm.trans w0
        exact so_f (r := 9) (oh := xoh) (by decide) h2 (fun P hp => re_xt P H w0 (fun post h => br_f (by decide) <| br_f (by decide) <| br_f (by decide) <| br_f (by decide) <| br_f (by decide) <| br_t rfl <|  xo_s _ ht hfm hm6 hfd (by omega) x1 ho (fun _ => h) (fun q => absurd w' q)) (fun post h => br_f (by decide) <| br_f (by decide) <| br_f (by decide) <| br_f (by decide) <| br_f (by decide) <| br_f (by decide) <| br_t rfl <|  h) hp) (fun v' hE Q hq => re_ys Q (fun post => post v') S hs (by decide) (fun z => absurd z (by decide)) (fun _ _ _ _ _ _ post h => yb_ref_14 post ht hrw hm6 hdp (by omega) y1 ho (fun _ => br_t rfl (br_f (by decide) (br_f (by decide) (br_t rfl (yb_torn_14 post w1 hE h))))) (fun q => absurd w q)) (fun z => absurd z (by decide)) hq)
      · have w1 : ¬ yaw = 0 := fun q => w0 (hW.1.trans q)
        obtain ⟨lo', tp'⟩ := so_topn (k' := k + 1) (d' := d) ht hlo htp hgo.1 (by omega) hgo.2
        refine Or.inl ⟨(nI l, xpc, xnd, xwc, xit, nI (t + 1), re_pd xwt, xan, xlp, xpo, xpb, xwd, xwk, xnk, xco, xcb, xml, xme, xro, xow, xol, xla, upd xsh (o + 1) 1, xoe, xoh, xsr, xss, xse, xms, xfm, upd xfa t (nI (k + 1)), upd xfd t (nI d), xcv, xcr), (nI l, ywa, ysk, ylo, nI (t + 1), nI (s + 1), re_pd yaw, yan, ywh, you, ymd, ygd, yop, yops, ybs, ysz, yex, yst, yow, yle, yel, yla, upd ysh o 1, yro, yos, yoe, yoh, yor, yrw, upd ynx t (nI (k + 1)), upd ydp t (nI d), ypl, ykd, ymt, ytd, yht), t, m, k + 1, d, _, fun P hp => ?_, fun Q hq => ?_, ⟨by omega, rfl, rfl, hya, hL, hP, hM, sb_Osh hO, re_T_up hT (by omega), re_W_pd hW w0, lo', tp'⟩, rfl, rfl, rfl⟩
        · exact re_xw P (oh := xoh) H w0 (fun post h => br_f (by decide) <| br_f (by decide) <| br_f (by decide) <| br_f (by decide) <| br_f (by decide) <| br_t rfl <|  xo_s _ ht hfm hm6 hfd (by omega) x1 ho (fun _ => h) (fun q => absurd w' q)) (fun post h => br_f (by decide) <| br_f (by decide) <| br_f (by decide) <| br_f (by decide) <| br_f (by decide) <| br_f (by decide) <| br_t rfl <|  h) (re_76o P ht hfa (by decide) (by decide) (fun post h => xo_14 post ht hfd (by omega) x1 (by omega) h) hp)
        · exact re_ys Q (fun post => post (nI l, ywa, ysk, ylo, nI (t + 1), nI (s + 1), re_pd yaw, yan, ywh, you, ymd, ygd, yop, yops, ybs, ysz, yex, yst, yow, yle, yel, yla, upd ysh o 1, yro, yos, yoe, yoh, yor, yrw, upd ynx t (nI (k + 1)), upd ydp t (nI d), ypl, ykd, ymt, ytd, yht)) S hs (by decide) (fun z => absurd z (by decide)) (fun _ _ _ _ _ _ post h => yb_ref_14 post ht hrw hm6 hdp (by omega) y1 ho (fun _ => br_t rfl (br_f (by decide) (br_f (by decide) (br_t rfl (yb_due_14 post w1 (yb_14 post ht hnx hdp (by omega) ho h)))))) (fun q => absurd w q)) (fun z => absurd z (by decide)) hq
    · have w' : ¬ xow (o + 1) = nI (m / 2) := fun q => w (a1.symm.trans q)
      exact so_f (r := 3) (oh := xoh) (by decide) h2 (fun P hp => re_xf P H (by decide) (fun post h => br_f (by decide) <| br_f (by decide) <| br_f (by decide) <| br_f (by decide) <| br_f (by decide) <| br_t rfl <|  xo_s _ ht hfm hm6 hfd (by omega) x1 ho (fun q => absurd q w') (fun _ => h)) hp) (fun v' hE Q hq => re_ys Q (fun post => post v') S hs (by decide) (fun z => absurd z (by decide)) (fun _ _ _ _ _ _ post h => yb_wall_14 post ht hrw hm6 hdp (by omega) y1 ho w hE h) (fun z => absurd z (by decide)) hq)
theorem st_15 (h : rr B t m k d f (nI l, xpc, xnd, xwc, xit, nI (t + 1), xwt, xan, xlp, xpo, xpb, xwd, xwk, xnk, xco, xcb, xml, xme, xro, xow, xol, xla, xsh, xoe, xoh, xsr, xss, xse, xms, xfm, xfa, xfd, xcv, xcr) (nI l, ywa, ysk, ylo, nI (t + 1), nI s, yaw, yan, ywh, you, ymd, ygd, yop, yops, ybs, ysz, yex, yst, yow, yle, yel, yla, ysh, yro, yos, yoe, yoh, yor, yrw, ynx, ydp, ypl, ykd, ymt, ytd, yht)) (hs : ¬ nI s = nI l) (H : re_H xfm xfa xco xcb t m k 15 Bv) (S : re_S yrw ynx yops ybs t m k 15 Bv) (hfb : rl_fb 15 Bv n) (hos : ck_os [2, 4] d f) (hgo : k + 1 < 16 ∧ rl_ty yops ybs ysz m (k + 1) (ck_rd [2, 4] d) (ck_rk [2, 4] d f))  : so B l s (nI l, xpc, xnd, xwc, xit, nI (t + 1), xwt, xan, xlp, xpo, xpb, xwd, xwk, xnk, xco, xcb, xml, xme, xro, xow, xol, xla, xsh, xoe, xoh, xsr, xss, xse, xms, xfm, xfa, xfd, xcv, xcr) (nI l, ywa, ysk, ylo, nI (t + 1), nI s, yaw, yan, ywh, you, ymd, ygd, yop, yops, ybs, ysz, yex, yst, yow, yle, yel, yla, ysh, yro, yos, yoe, yoh, yor, yrw, ynx, ydp, ypl, ykd, ymt, ytd, yht) := by
  have h2 := h
  obtain ⟨ht, _, _, hya, hL, hP, hM, hO, hT, hW, hlo, htp⟩ := h
  have htp2 := htp
  obtain ⟨hm6, hk16, hd4, hsz, hfm, hrw, hfa, hnx, hfd, hdp, hty, hcs⟩ := htp2
  have h0 : 0 < d := hos.1.1
  obtain ⟨d, rfl⟩ : ∃ q, d = q + 1 := ⟨d - 1, by omega⟩
  have f1 : f (d + 2) = 2 := hos.1.2
  have c1 := hcs (d + 2) (by omega)
  rw [f1] at c1
  rcases rl_rf_c (rl_ce2 c1).2.2 with ⟨n1, n2⟩ | ⟨o, ho, x1, y1⟩
  · exact so_f (r := 2) (oh := xoh) (by decide) h2 (fun P hp => re_xf P H (by decide) (fun post h => br_f (by decide) <| br_f (by decide) <| br_f (by decide) <| br_f (by decide) <| br_f (by decide) <| br_f (by decide) <| br_t rfl <|  xo_wn _ (j := 1) ht hfd (by omega) (by omega) (by omega) n1 h) hp) (fun v' hE Q hq => re_ys Q (fun post => post v') S hs (by decide) (fun z => absurd z (by decide)) (fun _ _ _ _ _ _ post h => yb_nul_15 post ht hdp (by omega) n2 hE h) (fun z => absurd z (by decide)) hq)
  · obtain ⟨a1, a2, a3, a4, a5, a6, a7, ln, hln, eln⟩ := hO.2.1 o ho
    have eln' : xol (o + 1) = nI ln := a2.trans eln
    by_cases w : ¬ ysh o = 0 ∨ yow o = nI (m / 2)
    · have w' : ¬ xsh (o + 1) = 0 ∨ xow (o + 1) = nI (m / 2) := by rw [a4, a1]; exact w
      have hsv : rl_ce 1 (xol (o + 1)) 0 (yle o) 1 := by
        rw [eln', eln]
        exact rl_n1 (rl_sv_N (by omega))
      obtain ⟨lo', tp'⟩ := so_topc (c := d + 2) (v := 1) (k' := k + 1) (d' := d + 1) ht hlo htp hgo.1 (by omega) hgo.2 hsv (by omega) (fun j hj hne => by omega)
      refine Or.inl ⟨(nI l, xpc, xnd, xwc, xit, nI (t + 1), xwt, xan, xlp, xpo, xpb, xwd, xwk, xnk, xco, xcb, xml, xme, xro, xow, xol, xla, xsh, xoe, xoh, xsr, xss, xse, xms, xfm, upd xfa t (nI (k + 1)), upd xfd t (nI (d + 1)), upd xcv (6 * t + (d + 2)) (xol (o + 1)), upd xcr (6 * t + (d + 2)) (0)), (nI l, ywa, ysk, ylo, nI (t + 1), nI (s + 1), yaw, yan, ywh, you, ymd, ygd, yop, yops, ybs, ysz, yex, yst, yow, yle, yel, yla, ysh, yro, yos, yoe, yoh, yor, yrw, upd ynx t (nI (k + 1)), upd ydp t (nI (d + 1)), upd ypl (8 * t + (d + 2)) (yle o), upd ykd (8 * t + (d + 2)) (1), ymt, ytd, yht), t, m, k + 1, d + 1, _, fun P hp => ?_, fun Q hq => ?_, ⟨by omega, rfl, rfl, hya, hL, hP, hM, hO, re_T_up hT (by omega), hW, lo', tp'⟩, rfl, rfl, rfl⟩
      · exact re_xn P (oh := xoh) H (fun post h => br_f (by decide) <| br_f (by decide) <| br_f (by decide) <| br_f (by decide) <| br_f (by decide) <| br_f (by decide) <| br_t rfl <|  xo_w _ (j := 1) ht hfm hm6 hfd (by omega) (by omega) (by omega) x1 ho (fun _ => h) (fun q => absurd w' q)) (fun post h => br_f (by decide) <| br_f (by decide) <| br_f (by decide) <| br_f (by decide) <| br_f (by decide) <| br_f (by decide) <| br_f (by decide) <| br_t rfl <|  h) (re_76o P ht hfa (by decide) (by decide) (fun post h => xo_15 post ht hfd (by omega) x1 (by omega) h) hp)
      · exact re_ys Q (fun post => post (nI l, ywa, ysk, ylo, nI (t + 1), nI (s + 1), yaw, yan, ywh, you, ymd, ygd, yop, yops, ybs, ysz, yex, yst, yow, yle, yel, yla, ysh, yro, yos, yoe, yoh, yor, yrw, upd ynx t (nI (k + 1)), upd ydp t (nI (d + 1)), upd ypl (8 * t + (d + 2)) (yle o), upd ykd (8 * t + (d + 2)) (1), ymt, ytd, yht)) S hs (by decide) (fun z => absurd z (by decide)) (fun _ _ _ _ _ _ post h => yb_ok_15 post ht hrw hm6 hdp (by omega) y1 ho w (yb_15 post ht hnx hdp (by omega) ho h)) (fun z => absurd z (by decide)) hq
    · have w' : ¬ (¬ xsh (o + 1) = 0 ∨ xow (o + 1) = nI (m / 2)) := by rw [a4, a1]; exact w
      exact so_f (r := 3) (oh := xoh) (by decide) h2 (fun P hp => re_xf P H (by decide) (fun post h => br_f (by decide) <| br_f (by decide) <| br_f (by decide) <| br_f (by decide) <| br_f (by decide) <| br_f (by decide) <| br_t rfl <|  xo_w _ (j := 1) ht hfm hm6 hfd (by omega) (by omega) (by omega) x1 ho (fun q => absurd q w') (fun _ => h)) hp) (fun v' hE Q hq => re_ys Q (fun post => post v') S hs (by decide) (fun z => absurd z (by decide)) (fun _ _ _ _ _ _ post h => yb_wall_15 post ht hrw hm6 hdp (by omega) y1 ho w hE h) (fun z => absurd z (by decide)) hq)
theorem st_12 (h : rr B t m k d f (nI l, xpc, xnd, xwc, xit, nI (t + 1), xwt, xan, xlp, xpo, xpb, xwd, xwk, xnk, xco, xcb, xml, xme, xro, xow, xol, xla, xsh, xoe, xoh, xsr, xss, xse, xms, xfm, xfa, xfd, xcv, xcr) (nI l, ywa, ysk, ylo, nI (t + 1), nI s, yaw, yan, ywh, you, ymd, ygd, yop, yops, ybs, ysz, yex, yst, yow, yle, yel, yla, ysh, yro, yos, yoe, yoh, yor, yrw, ynx, ydp, ypl, ykd, ymt, ytd, yht)) (hs : ¬ nI s = nI l) (H : re_H xfm xfa xco xcb t m k 12 Bv) (S : re_S yrw ynx yops ybs t m k 12 Bv) (hfb : rl_fb 12 Bv n) (hos : ck_os [1, 2, 4] d f) (hgo : k + 1 < 16 ∧ rl_ty yops ybs ysz m (k + 1) (ck_rd [1, 2, 4] d) (ck_rk [1, 2, 4] d f))  : so B l s (nI l, xpc, xnd, xwc, xit, nI (t + 1), xwt, xan, xlp, xpo, xpb, xwd, xwk, xnk, xco, xcb, xml, xme, xro, xow, xol, xla, xsh, xoe, xoh, xsr, xss, xse, xms, xfm, xfa, xfd, xcv, xcr) (nI l, ywa, ysk, ylo, nI (t + 1), nI s, yaw, yan, ywh, you, ymd, ygd, yop, yops, ybs, ysz, yex, yst, yow, yle, yel, yla, ysh, yro, yos, yoe, yoh, yor, yrw, ynx, ydp, ypl, ykd, ymt, ytd, yht) := by
  have h2 := h
  obtain ⟨ht, _, _, hya, hL, hP, hM, hO, hT, hW, hlo, htp⟩ := h
  have htp2 := htp
  obtain ⟨hm6, hk16, hd4, hsz, hfm, hrw, hfa, hnx, hfd, hdp, hty, hcs⟩ := htp2
  obtain ⟨o1, o2, o3, _⟩ := hos
  have h0 : 0 < d := o1.1
  have h1 : 0 < d - 1 := o2.1
  obtain ⟨d, rfl⟩ : ∃ q, d = q + 2 := ⟨d - 2, by omega⟩
  have f1 : f (d + 3) = 1 := o1.2
  have f2 : f (d + 2) = 2 := o2.2
  have c1 := hcs (d + 3) (by omega)
  have c2 := hcs (d + 2) (by omega)
  rw [f1] at c1
  rw [f2] at c2
  have e1 := (rl_ce1 c1).2.2.1
  rcases rl_rf_c (rl_ce2 c2).2.2 with ⟨n1, n2⟩ | ⟨o, ho, x1, y1⟩
  · exact so_f (r := 2) (oh := xoh) (by decide) h2 (fun P hp => re_xf P H (by decide) (fun post h => br_f (by decide) <| br_f (by decide) <| br_f (by decide) <| br_t rfl <|  xo_en _ (j := 2) ht hfd (by omega) (by omega) (by omega) n1 h) hp) (fun v' hE Q hq => re_ys Q (fun post => post v') S hs (by decide) (fun z => absurd z (by decide)) (fun _ _ _ _ _ _ post h => yb_nul_12 post ht hdp (by omega) n2 hE h) (fun z => absurd z (by decide)) hq)
  · obtain ⟨a1, a2, a3, a4, a5, a6, a7, ln, hln, eln⟩ := hO.2.1 o ho
    have eln' : xol (o + 1) = nI ln := a2.trans eln
    by_cases w : ¬ ysh o = 0 ∨ yow o = nI (m / 2)
    · have w' : ¬ xsh (o + 1) = 0 ∨ xow (o + 1) = nI (m / 2) := by rw [a4, a1]; exact w
      by_cases w2 : ¬ ypl (8 * t + (d + 3)) < 0 ∧ ypl (8 * t + (d + 3)) < yle o
      · have w2' : ¬ xcv (6 * t + (d + 3)) < 0 ∧ xcv (6 * t + (d + 3)) < xol (o + 1) := by rw [e1, a2]; exact w2
        obtain ⟨i, hi, yi⟩ := sb_ix eln hln w2
        have xi : xcv (6 * t + (d + 3)) = nI i := e1.trans yi
        have hel := hO.2.2 (4 * o + i) (by omega)
        have hsv : rl_ce 1 (xoe (4 * (o + 1) + i)) 0 (yel (4 * o + i)) 1 := by
          rw [show 4 * (o + 1) + i = 4 + (4 * o + i) by omega, hel.1]
          exact rl_n1 hel.2
        obtain ⟨lo', tp'⟩ := so_topc (c := d + 2) (v := 1) (k' := k + 1) (d' := d + 1) ht hlo htp hgo.1 (by omega) hgo.2 hsv (by omega) (fun j hj hne => by omega)
        refine Or.inl ⟨(nI l, xpc, xnd, xwc, xit, nI (t + 1), xwt, xan, xlp, xpo, xpb, xwd, xwk, xnk, xco, xcb, xml, xme, xro, xow, xol, xla, xsh, xoe, xoh, xsr, xss, xse, xms, xfm, upd xfa t (nI (k + 1)), upd xfd t (nI (d + 1)), upd xcv (6 * t + (d + 2)) (xoe (4 * (o + 1) + i)), upd xcr (6 * t + (d + 2)) (0)), (nI l, ywa, ysk, ylo, nI (t + 1), nI (s + 1), yaw, yan, ywh, you, ymd, ygd, yop, yops, ybs, ysz, yex, yst, yow, yle, yel, yla, ysh, yro, yos, yoe, yoh, yor, yrw, upd ynx t (nI (k + 1)), upd ydp t (nI (d + 1)), upd ypl (8 * t + (d + 2)) (yel (4 * o + i)), upd ykd (8 * t + (d + 2)) (1), ymt, ytd, yht), t, m, k + 1, d + 1, _, fun P hp => ?_, fun Q hq => ?_, ⟨by omega, rfl, rfl, hya, hL, hP, hM, hO, re_T_up hT (by omega), hW, lo', tp'⟩, rfl, rfl, rfl⟩
        · exact re_xn P (oh := xoh) H (fun post h => br_f (by decide) <| br_f (by decide) <| br_f (by decide) <| br_t rfl <|  xo_e _ (j := 2) ht hfm hm6 hfd (by omega) (by omega) (by omega) x1 ho (fun _ _ => h) (fun _ q => absurd w2' q) (fun q => absurd w' q)) (fun post h => br_f (by decide) <| br_f (by decide) <| br_f (by decide) <| br_f (by decide) <| br_t rfl <|  h) (re_76o P ht hfa (by decide) (by decide) (fun post h => xo_12 post ht hfd (by omega) x1 xi (by omega) hi h) hp)
        · exact re_ys Q (fun post => post (nI l, ywa, ysk, ylo, nI (t + 1), nI (s + 1), yaw, yan, ywh, you, ymd, ygd, yop, yops, ybs, ysz, yex, yst, yow, yle, yel, yla, ysh, yro, yos, yoe, yoh, yor, yrw, upd ynx t (nI (k + 1)), upd ydp t (nI (d + 1)), upd ypl (8 * t + (d + 2)) (yel (4 * o + i)), upd ykd (8 * t + (d + 2)) (1), ymt, ytd, yht)) S hs (by decide) (fun z => absurd z (by decide)) (fun _ _ _ _ _ _ post h => yb_ok_12 post ht hrw hm6 hdp (by omega) y1 ho w (by rw [yi]; rw [yi] at w2; exact yb_in_12 post ho w2 (yb_12 post ht hnx hdp (by omega) ho hi h))) (fun z => absurd z (by decide)) hq
      · have w2' : ¬ (¬ xcv (6 * t + (d + 3)) < 0 ∧ xcv (6 * t + (d + 3)) < xol (o + 1)) := by rw [e1, a2]; exact w2
        exact so_f (r := 4) (oh := xoh) (by decide) h2 (fun P hp => re_xf P H (by decide) (fun post h => br_f (by decide) <| br_f (by decide) <| br_f (by decide) <| br_t rfl <|  xo_e _ (j := 2) ht hfm hm6 hfd (by omega) (by omega) (by omega) x1 ho (fun _ q => absurd q w2') (fun _ _ => h) (fun q => absurd w' q)) hp) (fun v' hE Q hq => re_ys Q (fun post => post v') S hs (by decide) (fun z => absurd z (by decide)) (fun _ _ _ _ _ _ post h => yb_ok_12 post ht hrw hm6 hdp (by omega) y1 ho w (yb_bnd_12 post ho w2 hE h)) (fun z => absurd z (by decide)) hq)
    · have w' : ¬ (¬ xsh (o + 1) = 0 ∨ xow (o + 1) = nI (m / 2)) := by rw [a4, a1]; exact w
      exact so_f (r := 3) (oh := xoh) (by decide) h2 (fun P hp => re_xf P H (by decide) (fun post h => br_f (by decide) <| br_f (by decide) <| br_f (by decide) <| br_t rfl <|  xo_e _ (j := 2) ht hfm hm6 hfd (by omega) (by omega) (by omega) x1 ho (fun q _ => absurd q w') (fun q _ => absurd q w') (fun _ => h)) hp) (fun v' hE Q hq => re_ys Q (fun post => post v') S hs (by decide) (fun z => absurd z (by decide)) (fun _ _ _ _ _ _ post h => yb_wall_12 post ht hrw hm6 hdp (by omega) y1 ho w hE h) (fun z => absurd z (by decide)) hq)
theorem st_13 (h : rr B t m k d f (nI l, xpc, xnd, xwc, xit, nI (t + 1), xwt, xan, xlp, xpo, xpb, xwd, xwk, xnk, xco, xcb, xml, xme, xro, xow, xol, xla, xsh, xoe, xoh, xsr, xss, xse, xms, xfm, xfa, xfd, xcv, xcr) (nI l, ywa, ysk, ylo, nI (t + 1), nI s, yaw, yan, ywh, you, ymd, ygd, yop, yops, ybs, ysz, yex, yst, yow, yle, yel, yla, ysh, yro, yos, yoe, yoh, yor, yrw, ynx, ydp, ypl, ykd, ymt, ytd, yht)) (hs : ¬ nI s = nI l) (H : re_H xfm xfa xco xcb t m k 13 Bv) (S : re_S yrw ynx yops ybs t m k 13 Bv) (hfb : rl_fb 13 Bv n) (hos : ck_os [1, 1, 2] d f) (hgo : k + 1 < 16 ∧ rl_ty yops ybs ysz m (k + 1) (ck_rd [1, 1, 2] d) (ck_rk [1, 1, 2] d f))  : so B l s (nI l, xpc, xnd, xwc, xit, nI (t + 1), xwt, xan, xlp, xpo, xpb, xwd, xwk, xnk, xco, xcb, xml, xme, xro, xow, xol, xla, xsh, xoe, xoh, xsr, xss, xse, xms, xfm, xfa, xfd, xcv, xcr) (nI l, ywa, ysk, ylo, nI (t + 1), nI s, yaw, yan, ywh, you, ymd, ygd, yop, yops, ybs, ysz, yex, yst, yow, yle, yel, yla, ysh, yro, yos, yoe, yoh, yor, yrw, ynx, ydp, ypl, ykd, ymt, ytd, yht) := by
  have h2 := h
  obtain ⟨ht, _, _, hya, hL, hP, hM, hO, hT, hW, hlo, htp⟩ := h
  have htp2 := htp
  obtain ⟨hm6, hk16, hd4, hsz, hfm, hrw, hfa, hnx, hfd, hdp, hty, hcs⟩ := htp2
  obtain ⟨o1, o2, o3, _⟩ := hos
  have h0 : 0 < d := o1.1
  have h1 : 0 < d - 1 := o2.1
  have h3 : 0 < d - 1 - 1 := o3.1
  obtain ⟨d, rfl⟩ : ∃ q, d = q + 3 := ⟨d - 3, by omega⟩
  have f0 : f (d + 4) = 1 := o1.2
  have f1 : f (d + 3) = 1 := o2.2
  have f2 : f (d + 2) = 2 := o3.2
  have c0 := hcs (d + 4) (by omega)
  have c1 := hcs (d + 3) (by omega)
  have c2 := hcs (d + 2) (by omega)
  rw [f0] at c0
  rw [f1] at c1
  rw [f2] at c2
  have ev := (rl_ce1 c0).2.2.1
  have hsv := (rl_ce1 c0).2.2.2
  have e1 := (rl_ce1 c1).2.2.1
  rcases rl_rf_c (rl_ce2 c2).2.2 with ⟨n1, n2⟩ | ⟨o, ho, x1, y1⟩
  · exact so_f (r := 2) (oh := xoh) (by decide) h2 (fun P hp => re_xf P H (by decide) (fun post h => br_f (by decide) <| br_f (by decide) <| br_f (by decide) <| br_f (by decide) <| br_t rfl <|  xo_en _ (j := 3) ht hfd (by omega) (by omega) (by omega) n1 h) hp) (fun v' hE Q hq => re_ys Q (fun post => post v') S hs (by decide) (fun z => absurd z (by decide)) (fun _ _ _ _ _ _ post h => yb_nul_13 post ht hdp (by omega) n2 hE h) (fun z => absurd z (by decide)) hq)
  · obtain ⟨a1, a2, a3, a4, a5, a6, a7, ln, hln, eln⟩ := hO.2.1 o ho
    have eln' : xol (o + 1) = nI ln := a2.trans eln
    by_cases w : ¬ ysh o = 0 ∨ yow o = nI (m / 2)
    · have w' : ¬ xsh (o + 1) = 0 ∨ xow (o + 1) = nI (m / 2) := by rw [a4, a1]; exact w
      by_cases w2 : ¬ ypl (8 * t + (d + 3)) < 0 ∧ ypl (8 * t + (d + 3)) < yle o
      · have w2' : ¬ xcv (6 * t + (d + 3)) < 0 ∧ xcv (6 * t + (d + 3)) < xol (o + 1) := by rw [e1, a2]; exact w2
        obtain ⟨i, hi, yi⟩ := sb_ix eln hln w2
        have xi : xcv (6 * t + (d + 3)) = nI i := e1.trans yi
        have ec : (nI o).toNatClampNeg = o := nI_clamp (by omega)
        have iwg : ∀ v : Int32, xla (o + 1) = v → rl_b v → ∀ post : Int32 → Prop, post v → (vp_in (xcv (6 * t + (d + 3 + 2 - 3))) 9 ∧ (narrow .boolean (.int (xla (xcv (6 * t + (d + 3 + 2 - 3))).toNatClampNeg)) = .int (xla (xcv (6 * t + (d + 3 + 2 - 3))).toNatClampNeg) ∧ post (xla (xcv (6 * t + (d + 3 + 2 - 3))).toNatClampNeg))) := fun v hv hvb post hp => by
          have x1' : xcv (6 * t + (d + 3 + 2 - 3)) = nI (o + 1) := x1
          rw [x1', nI_clamp (by omega), hv]
          refine ⟨vp_in_nI (by omega) (by omega), ?_, hp⟩
          rcases hvb with rfl | rfl
          · rfl
          · rfl
        have hO' : rl_O xro xow xol xla xsh (upd xoe (4 * (o + 1) + i) (xcv (6 * t + (d + 4)))) yro yow yle yla ysh (upd yel (4 * o + i) (ypl (8 * t + (d + 4)))) := by
          rw [ev]
          exact sb_Oel hi hO hsv
        by_cases la : yla o = 0
        · have iw := iwg 0 (a3.trans la) (Or.inl rfl)
          obtain ⟨lo', tp'⟩ := so_topn (k' := k + 1) (d' := d) ht hlo htp hgo.1 (by omega) hgo.2
          refine Or.inl ⟨(nI l, xpc, xnd, xwc, xit, nI (t + 1), xwt, xan, xlp, xpo, xpb, xwd, xwk, xnk, xco, xcb, xml, xme, xro, xow, xol, xla, xsh, upd xoe (4 * (o + 1) + i) (xcv (6 * t + (d + 4))), xoh, xsr, xss, xse, xms, xfm, upd xfa t (nI (k + 1)), upd xfd t (nI d), xcv, xcr), (nI l, ywa, ysk, ylo, nI (t + 1), nI (s + 1), yaw, yan, ywh, you, ymd, ygd, yop, yops, ybs, ysz, yex, yst, yow, yle, upd yel (4 * o + i) (ypl (8 * t + (d + 4))), yla, ysh, yro, yos, yoe, yoh, yor, yrw, upd ynx t (nI (k + 1)), upd ydp t (nI d), ypl, ykd, ymt, ytd, yht), t, m, k + 1, d, _, fun P hp => ?_, fun Q hq => ?_, ⟨by omega, rfl, rfl, hya, hL, hP, hM, hO', re_T_up hT (by omega), hW, lo', tp'⟩, rfl, rfl, rfl⟩
          · exact re_xn P (oh := xoh) H (fun post h => br_f (by decide) <| br_f (by decide) <| br_f (by decide) <| br_f (by decide) <| br_t rfl <|  xo_e _ (j := 3) ht hfm hm6 hfd (by omega) (by omega) (by omega) x1 ho (fun _ _ => h) (fun _ q => absurd w2' q) (fun q => absurd w' q)) (fun post h => br_f (by decide) <| br_f (by decide) <| br_f (by decide) <| br_f (by decide) <| br_f (by decide) <| br_t rfl <|  pr_xentry _ (j := 3) ht hfd (by omega) (by omega) (by omega) (iw post h)) (re_76o P ht hfa (by decide) (by decide) (fun post h => xo_13 post ht hfd (by omega) x1 xi (by omega) hi h) hp)
          · exact re_ys Q (fun post => post (nI l, ywa, ysk, ylo, nI (t + 1), nI (s + 1), yaw, yan, ywh, you, ymd, ygd, yop, yops, ybs, ysz, yex, yst, yow, yle, upd yel (4 * o + i) (ypl (8 * t + (d + 4))), yla, ysh, yro, yos, yoe, yoh, yor, yrw, upd ynx t (nI (k + 1)), upd ydp t (nI d), ypl, ykd, ymt, ytd, yht)) S hs (by decide) (fun z => absurd z (by decide)) (fun _ _ _ _ _ _ post h => yb_ok_13 post ht hrw hm6 hdp (by omega) y1 ho w (by rw [yi]; rw [yi] at w2; exact yb_in_13 post ho w2 (br_f (by decide) (br_t rfl ⟨vp_in_nI (by omega) (by omega), by rw [ec]; exact br_t la (br_t rfl (yb_13 post ht hnx hdp (by omega) ho hi hsv h))⟩)))) (fun z => absurd z (by decide)) hq
        · have iw := iwg 1 (a3.trans (rl_b_ne a5 la)) (Or.inr rfl)
          by_cases w0 : xwt = 0
          · have w1 : yaw = 0 := hW.1.symm.trans w0
            exact so_f (r := 9) (oh := xoh) (by decide) h2 (fun P hp => re_xt P H w0 (fun post h => br_f (by decide) <| br_f (by decide) <| br_f (by decide) <| br_f (by decide) <| br_t rfl <|  xo_e _ (j := 3) ht hfm hm6 hfd (by omega) (by omega) (by omega) x1 ho (fun _ _ => h) (fun _ q => absurd w2' q) (fun q => absurd w' q)) (fun post h => br_f (by decide) <| br_f (by decide) <| br_f (by decide) <| br_f (by decide) <| br_f (by decide) <| br_t rfl <|  pr_xentry _ (j := 3) ht hfd (by omega) (by omega) (by omega) (iw post h)) hp) (fun v' hE Q hq => re_ys Q (fun post => post v') S hs (by decide) (fun z => absurd z (by decide)) (fun _ _ _ _ _ _ post h => yb_ok_13 post ht hrw hm6 hdp (by omega) y1 ho w (by rw [yi]; rw [yi] at w2; exact yb_in_13 post ho w2 (br_f (by decide) (br_t rfl ⟨vp_in_nI (by omega) (by omega), by rw [ec]; exact br_f la (yb_torn_13 post w1 hE h)⟩)))) (fun z => absurd z (by decide)) hq)
          · have w1 : ¬ yaw = 0 := fun q => w0 (hW.1.trans q)
            obtain ⟨lo', tp'⟩ := so_topn (k' := k + 1) (d' := d) ht hlo htp hgo.1 (by omega) hgo.2
            refine Or.inl ⟨(nI l, xpc, xnd, xwc, xit, nI (t + 1), re_pd xwt, xan, xlp, xpo, xpb, xwd, xwk, xnk, xco, xcb, xml, xme, xro, xow, xol, xla, xsh, upd xoe (4 * (o + 1) + i) (xcv (6 * t + (d + 4))), xoh, xsr, xss, xse, xms, xfm, upd xfa t (nI (k + 1)), upd xfd t (nI d), xcv, xcr), (nI l, ywa, ysk, ylo, nI (t + 1), nI (s + 1), re_pd yaw, yan, ywh, you, ymd, ygd, yop, yops, ybs, ysz, yex, yst, yow, yle, upd yel (4 * o + i) (ypl (8 * t + (d + 4))), yla, ysh, yro, yos, yoe, yoh, yor, yrw, upd ynx t (nI (k + 1)), upd ydp t (nI d), ypl, ykd, ymt, ytd, yht), t, m, k + 1, d, _, fun P hp => ?_, fun Q hq => ?_, ⟨by omega, rfl, rfl, hya, hL, hP, hM, hO', re_T_up hT (by omega), re_W_pd hW w0, lo', tp'⟩, rfl, rfl, rfl⟩
            · exact re_xw P (oh := xoh) H w0 (fun post h => br_f (by decide) <| br_f (by decide) <| br_f (by decide) <| br_f (by decide) <| br_t rfl <|  xo_e _ (j := 3) ht hfm hm6 hfd (by omega) (by omega) (by omega) x1 ho (fun _ _ => h) (fun _ q => absurd w2' q) (fun q => absurd w' q)) (fun post h => br_f (by decide) <| br_f (by decide) <| br_f (by decide) <| br_f (by decide) <| br_f (by decide) <| br_t rfl <|  pr_xentry _ (j := 3) ht hfd (by omega) (by omega) (by omega) (iw post h)) (re_76o P ht hfa (by decide) (by decide) (fun post h => xo_13 post ht hfd (by omega) x1 xi (by omega) hi h) hp)
            · exact re_ys Q (fun post => post (nI l, ywa, ysk, ylo, nI (t + 1), nI (s + 1), re_pd yaw, yan, ywh, you, ymd, ygd, yop, yops, ybs, ysz, yex, yst, yow, yle, upd yel (4 * o + i) (ypl (8 * t + (d + 4))), yla, ysh, yro, yos, yoe, yoh, yor, yrw, upd ynx t (nI (k + 1)), upd ydp t (nI d), ypl, ykd, ymt, ytd, yht)) S hs (by decide) (fun z => absurd z (by decide)) (fun _ _ _ _ _ _ post h => yb_ok_13 post ht hrw hm6 hdp (by omega) y1 ho w (by rw [yi]; rw [yi] at w2; exact yb_in_13 post ho w2 (br_f (by decide) (br_t rfl ⟨vp_in_nI (by omega) (by omega), by rw [ec]; exact br_f la (yb_due_13 post w1 (yb_13 post ht hnx hdp (by omega) ho hi hsv h))⟩)))) (fun z => absurd z (by decide)) hq
      · have w2' : ¬ (¬ xcv (6 * t + (d + 3)) < 0 ∧ xcv (6 * t + (d + 3)) < xol (o + 1)) := by rw [e1, a2]; exact w2
        exact so_f (r := 4) (oh := xoh) (by decide) h2 (fun P hp => re_xf P H (by decide) (fun post h => br_f (by decide) <| br_f (by decide) <| br_f (by decide) <| br_f (by decide) <| br_t rfl <|  xo_e _ (j := 3) ht hfm hm6 hfd (by omega) (by omega) (by omega) x1 ho (fun _ q => absurd q w2') (fun _ _ => h) (fun q => absurd w' q)) hp) (fun v' hE Q hq => re_ys Q (fun post => post v') S hs (by decide) (fun z => absurd z (by decide)) (fun _ _ _ _ _ _ post h => yb_ok_13 post ht hrw hm6 hdp (by omega) y1 ho w (yb_bnd_13 post ho w2 hE h)) (fun z => absurd z (by decide)) hq)
    · have w' : ¬ (¬ xsh (o + 1) = 0 ∨ xow (o + 1) = nI (m / 2)) := by rw [a4, a1]; exact w
      exact so_f (r := 3) (oh := xoh) (by decide) h2 (fun P hp => re_xf P H (by decide) (fun post h => br_f (by decide) <| br_f (by decide) <| br_f (by decide) <| br_f (by decide) <| br_t rfl <|  xo_e _ (j := 3) ht hfm hm6 hfd (by omega) (by omega) (by omega) x1 ho (fun q _ => absurd q w') (fun q _ => absurd q w') (fun _ => h)) hp) (fun v' hE Q hq => re_ys Q (fun post => post v') S hs (by decide) (fun z => absurd z (by decide)) (fun _ _ _ _ _ _ post h => yb_wall_13 post ht hrw hm6 hdp (by omega) y1 ho w hE h) (fun z => absurd z (by decide)) hq)
theorem st_22 (h : rr B t m k d f (nI l, xpc, xnd, xwc, xit, nI (t + 1), xwt, xan, xlp, xpo, xpb, xwd, xwk, xnk, xco, xcb, xml, xme, xro, xow, xol, xla, xsh, xoe, xoh, xsr, xss, xse, xms, xfm, xfa, xfd, xcv, xcr) (nI l, ywa, ysk, ylo, nI (t + 1), nI s, yaw, yan, ywh, you, ymd, ygd, yop, yops, ybs, ysz, yex, yst, yow, yle, yel, yla, ysh, yro, yos, yoe, yoh, yor, yrw, ynx, ydp, ypl, ykd, ymt, ytd, yht)) (hs : ¬ nI s = nI l) (H : re_H xfm xfa xco xcb t m k 22 Bv) (S : re_S yrw ynx yops ybs t m k 22 Bv) (hfb : rl_fb 22 Bv n) (hos : ck_os [] d f) (hgo : k + 1 < 16 ∧ rl_ty yops ybs ysz m (k + 1) (ck_rd [] d) (ck_rk [] d f))  : so B l s (nI l, xpc, xnd, xwc, xit, nI (t + 1), xwt, xan, xlp, xpo, xpb, xwd, xwk, xnk, xco, xcb, xml, xme, xro, xow, xol, xla, xsh, xoe, xoh, xsr, xss, xse, xms, xfm, xfa, xfd, xcv, xcr) (nI l, ywa, ysk, ylo, nI (t + 1), nI s, yaw, yan, ywh, you, ymd, ygd, yop, yops, ybs, ysz, yex, yst, yow, yle, yel, yla, ysh, yro, yos, yoe, yoh, yor, yrw, ynx, ydp, ypl, ykd, ymt, ytd, yht) := by
  have h2 := h
  obtain ⟨ht, _, _, hya, hL, hP, hM, hO, hT, hW, hlo, htp⟩ := h
  have htp2 := htp
  obtain ⟨hm6, hk16, hd4, hsz, hfm, hrw, hfa, hnx, hfd, hdp, hty, hcs⟩ := htp2
  rcases hT.2.1 with z | z
  · have z' : xit = 0 := hT.1.trans z
    obtain ⟨lo', tp'⟩ := so_topn (k' := k + 1) (d' := d) ht hlo htp hgo.1 (by omega) hgo.2
    rw [so_same hfd, so_same hdp] at lo' tp'
    refine Or.inl ⟨(nI l, xpc, xnd, xwc, 1, nI (t + 1), xwt, xan, xlp, xpo, xpb, xwd, xwk, xnk, xco, xcb, xml, xme, xro, xow, xol, xla, xsh, xoe, xoh, lo_f xro 0 6 xsr, lo_f (fun i => vp_nar .boolean (xsh i)) 1 9 xss, lo_f xoe 0 36 xse, lo_f (fun _ => vp_nar .boolean 0) 1 9 xms, xfm, upd xfa t (nI (k + 1)), xfd, xcv, xcr), (nI l, ywa, ysk, ylo, nI (t + 1), nI (s + 1), yaw, yan, ywh, you, ymd, ygd, 1, yops, ybs, ysz, yex, yst, yow, yle, yel, yla, ysh, yro, lo_L yst 0 8 yos, lo_f (fun i => vp_nar .short (yel i)) 0 32 yoe, lo_f (fun i => vp_nar .boolean (ysh i)) 0 8 yoh, lo_f yro 0 6 yor, yrw, upd ynx t (nI (k + 1)), ydp, ypl, ykd, ymt, ytd, yht), t, m, k + 1, d, _, fun P hp => ?_, fun Q hq => ?_, ⟨by omega, rfl, rfl, hya, hL, hP, hM, hO, re_T_up (pr_begin hO hT) (by omega), hW, lo', tp'⟩, rfl, rfl, rfl⟩
    · exact re_xn P (oh := xoh) H (fun post h => br_f (by decide) <| br_f (by decide) <| br_f (by decide) <| br_f (by decide) <| br_f (by decide) <| br_f (by decide) <| br_f (by decide) <| br_f (by decide) <| br_f (by decide) <| br_f (by decide) <| br_f (by decide) <| br_f (by decide) <| br_f (by decide) <| br_t rfl <|  br_t z' h) (fun post h => br_f (by decide) <| br_f (by decide) <| br_f (by decide) <| br_f (by decide) <| br_f (by decide) <| br_f (by decide) <| br_f (by decide) <| br_f (by decide) <| br_f (by decide) <| br_f (by decide) <| br_f (by decide) <| br_f (by decide) <| br_f (by decide) <| br_f (by decide) <| br_t rfl <|  h) (re_76p P ht hfa (by decide) (by decide) (fun post h => br_f (by decide) <| br_f (by decide) <| br_f (by decide) <| br_f (by decide) <| br_f (by decide) <| br_f (by decide) <| br_f (by decide) <| br_f (by decide) <| br_f (by decide) <| br_f (by decide) <| br_f (by decide) <| br_f (by decide) <| br_f (by decide) <| br_f (by decide) <| br_f (by decide) <| br_f (by decide) <| br_f (by decide) <| br_f (by decide) <| br_f (by decide) <| br_f (by decide) <| br_f (by decide) <| br_f (by decide) <| br_f (by decide) <| br_f (by decide) <| br_t rfl <|  lo_xbegin _ h) hp)
    · exact re_ys Q (fun post => post (nI l, ywa, ysk, ylo, nI (t + 1), nI (s + 1), yaw, yan, ywh, you, ymd, ygd, 1, yops, ybs, ysz, yex, yst, yow, yle, yel, yla, ysh, yro, lo_L yst 0 8 yos, lo_f (fun i => vp_nar .short (yel i)) 0 32 yoe, lo_f (fun i => vp_nar .boolean (ysh i)) 0 8 yoh, lo_f yro 0 6 yor, yrw, upd ynx t (nI (k + 1)), ydp, ypl, ykd, ymt, ytd, yht)) S hs (by decide) (fun z => absurd z (by decide)) (fun _ z => absurd z (by decide)) (fun _ post h => yo_22 post ht hnx z h) hq
  · have z' : ¬ xit = 0 := by rw [hT.1, z]; decide
    exact so_f (r := 8) (oh := xoh) (by decide) h2 (fun P hp => re_xf P H (by decide) (fun post h => br_f (by decide) <| br_f (by decide) <| br_f (by decide) <| br_f (by decide) <| br_f (by decide) <| br_f (by decide) <| br_f (by decide) <| br_f (by decide) <| br_f (by decide) <| br_f (by decide) <| br_f (by decide) <| br_f (by decide) <| br_f (by decide) <| br_t rfl <|  br_f z' h) hp) (fun v' hE Q hq => re_ys Q (fun post => post v') S hs (by decide) (fun z => absurd z (by decide)) (fun _ z => absurd z (by decide)) (fun _ post h => yo_22n post z hE h) hq)
theorem st_23 (h : rr B t m k d f (nI l, xpc, xnd, xwc, xit, nI (t + 1), xwt, xan, xlp, xpo, xpb, xwd, xwk, xnk, xco, xcb, xml, xme, xro, xow, xol, xla, xsh, xoe, xoh, xsr, xss, xse, xms, xfm, xfa, xfd, xcv, xcr) (nI l, ywa, ysk, ylo, nI (t + 1), nI s, yaw, yan, ywh, you, ymd, ygd, yop, yops, ybs, ysz, yex, yst, yow, yle, yel, yla, ysh, yro, yos, yoe, yoh, yor, yrw, ynx, ydp, ypl, ykd, ymt, ytd, yht)) (hs : ¬ nI s = nI l) (H : re_H xfm xfa xco xcb t m k 23 Bv) (S : re_S yrw ynx yops ybs t m k 23 Bv) (hfb : rl_fb 23 Bv n) (hos : ck_os [] d f) (hgo : k + 1 < 16 ∧ rl_ty yops ybs ysz m (k + 1) (ck_rd [] d) (ck_rk [] d f))  : so B l s (nI l, xpc, xnd, xwc, xit, nI (t + 1), xwt, xan, xlp, xpo, xpb, xwd, xwk, xnk, xco, xcb, xml, xme, xro, xow, xol, xla, xsh, xoe, xoh, xsr, xss, xse, xms, xfm, xfa, xfd, xcv, xcr) (nI l, ywa, ysk, ylo, nI (t + 1), nI s, yaw, yan, ywh, you, ymd, ygd, yop, yops, ybs, ysz, yex, yst, yow, yle, yel, yla, ysh, yro, yos, yoe, yoh, yor, yrw, ynx, ydp, ypl, ykd, ymt, ytd, yht) := by
  have h2 := h
  obtain ⟨ht, _, _, hya, hL, hP, hM, hO, hT, hW, hlo, htp⟩ := h
  have htp2 := htp
  obtain ⟨hm6, hk16, hd4, hsz, hfm, hrw, hfa, hnx, hfd, hdp, hty, hcs⟩ := htp2
  rcases hT.2.1 with z | z
  · have z' : xit = 0 := hT.1.trans z
    exact so_f (r := 8) (oh := xoh) (by decide) h2 (fun P hp => re_xf P H (by decide) (fun post h => br_f (by decide) <| br_f (by decide) <| br_f (by decide) <| br_f (by decide) <| br_f (by decide) <| br_f (by decide) <| br_f (by decide) <| br_f (by decide) <| br_f (by decide) <| br_f (by decide) <| br_f (by decide) <| br_f (by decide) <| br_f (by decide) <| br_f (by decide) <| br_t rfl <|  br_t z' h) hp) (fun v' hE Q hq => re_ys Q (fun post => post v') S hs (by decide) (fun z => absurd z (by decide)) (fun _ z => absurd z (by decide)) (fun _ post h => yo_23n post z hE h) hq)
  · have z' : ¬ xit = 0 := by rw [hT.1, z]; decide
    have hT' : rl_T (B + 1) 0 xsr xss xse xms 0 yor yoh yoe yst yos ymd := by
      obtain ⟨t1, t2, ⟨mm, m1, m2, m3, m4⟩, t4⟩ := hT
      exact ⟨rfl, Or.inl rfl, ⟨mm, by omega, m2, m3, fun q => absurd q (by decide)⟩, fun q => absurd q (by decide)⟩
    by_cases w0 : xwt = 0
    · have w1 : yaw = 0 := hW.1.symm.trans w0
      exact so_f (r := 9) (oh := xoh) (by decide) h2 (fun P hp => re_xt P H w0 (fun post h => br_f (by decide) <| br_f (by decide) <| br_f (by decide) <| br_f (by decide) <| br_f (by decide) <| br_f (by decide) <| br_f (by decide) <| br_f (by decide) <| br_f (by decide) <| br_f (by decide) <| br_f (by decide) <| br_f (by decide) <| br_f (by decide) <| br_f (by decide) <| br_t rfl <|  br_f z' h) (fun post h => br_f (by decide) <| br_f (by decide) <| br_f (by decide) <| br_f (by decide) <| br_f (by decide) <| br_f (by decide) <| br_f (by decide) <| br_f (by decide) <| br_f (by decide) <| br_f (by decide) <| br_f (by decide) <| br_f (by decide) <| br_f (by decide) <| br_f (by decide) <| br_f (by decide) <| br_t rfl <|  h) hp) (fun v' hE Q hq => re_ys Q (fun post => post v') S hs (by decide) (fun z => absurd z (by decide)) (fun _ z => absurd z (by decide)) (fun _ post h => yo_23t post z w1 hE h) hq)
    · have w1 : ¬ yaw = 0 := fun q => w0 (hW.1.trans q)
      obtain ⟨lo', tp'⟩ := so_topn (k' := k + 1) (d' := d) ht hlo htp hgo.1 (by omega) hgo.2
      rw [so_same hfd, so_same hdp] at lo' tp'
      refine Or.inl ⟨(nI l, xpc, xnd, xwc, 0, nI (t + 1), re_pd xwt, xan, xlp, xpo, xpb, xwd, xwk, xnk, xco, xcb, xml, xme, xro, xow, xol, xla, xsh, xoe, xoh, xsr, xss, xse, xms, xfm, upd xfa t (nI (k + 1)), xfd, xcv, xcr), (nI l, ywa, ysk, ylo, nI (t + 1), nI (s + 1), re_pd yaw, yan, ywh, you, ymd, ygd, 0, yops, ybs, ysz, yex, yst, yow, yle, yel, yla, ysh, yro, yos, yoe, yoh, yor, yrw, upd ynx t (nI (k + 1)), ydp, ypl, ykd, ymt, ytd, yht), t, m, k + 1, d, _, fun P hp => ?_, fun Q hq => ?_, ⟨by omega, rfl, rfl, hya, hL, hP, hM, hO, hT', re_W_pd hW w0, lo', tp'⟩, rfl, rfl, rfl⟩
      · exact re_xw P (oh := xoh) H w0 (fun post h => br_f (by decide) <| br_f (by decide) <| br_f (by decide) <| br_f (by decide) <| br_f (by decide) <| br_f (by decide) <| br_f (by decide) <| br_f (by decide) <| br_f (by decide) <| br_f (by decide) <| br_f (by decide) <| br_f (by decide) <| br_f (by decide) <| br_f (by decide) <| br_t rfl <|  br_f z' h) (fun post h => br_f (by decide) <| br_f (by decide) <| br_f (by decide) <| br_f (by decide) <| br_f (by decide) <| br_f (by decide) <| br_f (by decide) <| br_f (by decide) <| br_f (by decide) <| br_f (by decide) <| br_f (by decide) <| br_f (by decide) <| br_f (by decide) <| br_f (by decide) <| br_f (by decide) <| br_t rfl <|  h) (re_76p P ht hfa (by decide) (by decide) (fun post h => br_f (by decide) <| br_f (by decide) <| br_f (by decide) <| br_f (by decide) <| br_f (by decide) <| br_f (by decide) <| br_f (by decide) <| br_f (by decide) <| br_f (by decide) <| br_f (by decide) <| br_f (by decide) <| br_f (by decide) <| br_f (by decide) <| br_f (by decide) <| br_f (by decide) <| br_f (by decide) <| br_f (by decide) <| br_f (by decide) <| br_f (by decide) <| br_f (by decide) <| br_f (by decide) <| br_f (by decide) <| br_f (by decide) <| br_f (by decide) <| br_f (by decide) <| br_t rfl <|  h) hp)
      · exact re_ys Q (fun post => post (nI l, ywa, ysk, ylo, nI (t + 1), nI (s + 1), re_pd yaw, yan, ywh, you, ymd, ygd, 0, yops, ybs, ysz, yex, yst, yow, yle, yel, yla, ysh, yro, yos, yoe, yoh, yor, yrw, upd ynx t (nI (k + 1)), ydp, ypl, ykd, ymt, ytd, yht)) S hs (by decide) (fun z => absurd z (by decide)) (fun _ z => absurd z (by decide)) (fun _ post h => yo_23 post ht hnx z w1 h) hq
theorem st_24 (h : rr B t m k d f (nI l, xpc, xnd, xwc, xit, nI (t + 1), xwt, xan, xlp, xpo, xpb, xwd, xwk, xnk, xco, xcb, xml, xme, xro, xow, xol, xla, xsh, xoe, xoh, xsr, xss, xse, xms, xfm, xfa, xfd, xcv, xcr) (nI l, ywa, ysk, ylo, nI (t + 1), nI s, yaw, yan, ywh, you, ymd, ygd, yop, yops, ybs, ysz, yex, yst, yow, yle, yel, yla, ysh, yro, yos, yoe, yoh, yor, yrw, ynx, ydp, ypl, ykd, ymt, ytd, yht)) (hs : ¬ nI s = nI l) (H : re_H xfm xfa xco xcb t m k 24 Bv) (S : re_S yrw ynx yops ybs t m k 24 Bv) (hfb : rl_fb 24 Bv n) (hos : ck_os [] d f) (hgo : k + 1 < 16 ∧ rl_ty yops ybs ysz m (k + 1) (ck_rd [] d) (ck_rk [] d f))  : so B l s (nI l, xpc, xnd, xwc, xit, nI (t + 1), xwt, xan, xlp, xpo, xpb, xwd, xwk, xnk, xco, xcb, xml, xme, xro, xow, xol, xla, xsh, xoe, xoh, xsr, xss, xse, xms, xfm, xfa, xfd, xcv, xcr) (nI l, ywa, ysk, ylo, nI (t + 1), nI s, yaw, yan, ywh, you, ymd, ygd, yop, yops, ybs, ysz, yex, yst, yow, yle, yel, yla, ysh, yro, yos, yoe, yoh, yor, yrw, ynx, ydp, ypl, ykd, ymt, ytd, yht) := by
  have h2 := h
  obtain ⟨ht, _, _, hya, hL, hP, hM, hO, hT, hW, hlo, htp⟩ := h
  have htp2 := htp
  obtain ⟨hm6, hk16, hd4, hsz, hfm, hrw, hfa, hnx, hfd, hdp, hty, hcs⟩ := htp2
  rcases hT.2.1 with z | z
  · have z' : xit = 0 := hT.1.trans z
    exact so_f (r := 8) (oh := xoh) (by decide) h2 (fun P hp => re_xf P H (by decide) (fun post h => br_f (by decide) <| br_f (by decide) <| br_f (by decide) <| br_f (by decide) <| br_f (by decide) <| br_f (by decide) <| br_f (by decide) <| br_f (by decide) <| br_f (by decide) <| br_f (by decide) <| br_f (by decide) <| br_f (by decide) <| br_f (by decide) <| br_f (by decide) <| br_f (by decide) <| br_t rfl <|  br_t z' h) hp) (fun v' hE Q hq => re_ys Q (fun post => post v') S hs (by decide) (fun z => absurd z (by decide)) (fun _ z => absurd z (by decide)) (fun _ post h => yo_24n post z hE h) hq)
  · have z' : ¬ xit = 0 := by rw [hT.1, z]; decide
    obtain ⟨hO', hT'⟩ := pr_undo hO hT z
    obtain ⟨lo', tp'⟩ := so_topn (k' := k + 1) (d' := d) ht hlo htp hgo.1 (by omega) hgo.2
    rw [so_same hfd, so_same hdp] at lo' tp'
    refine Or.inl ⟨(nI l, xpc, xnd, xwc, 0, nI (t + 1), xwt, xan, xlp, xpo, xpb, xwd, xwk, xnk, xco, xcb, xml, xme, lo_f xsr 0 6 xro, xow, xol, xla, lo_xs xms xss 1 xsh, lo_xe xms xla xse 1 xoe, xoh, xsr, xss, xse, xms, xfm, upd xfa t (nI (k + 1)), xfd, xcv, xcr), (nI l, ywa, ysk, ylo, nI (t + 1), nI (s + 1), yaw, yan, ywh, you, ymd, ygd, 0, yops, ybs, ysz, yex, yst, yow, yle, lo_ye yst yos yla yoe 0 yel, yla, lo_ys yst yos yoh 0 ysh, lo_f yor 0 6 yro, yos, yoe, yoh, yor, yrw, upd ynx t (nI (k + 1)), ydp, ypl, ykd, ymt, ytd, yht), t, m, k + 1, d, _, fun P hp => ?_, fun Q hq => ?_, ⟨by omega, rfl, rfl, hya, hL, hP, hM, hO', re_T_up hT' (by omega), hW, lo', tp'⟩, rfl, rfl, rfl⟩
    · exact re_xn P (oh := xoh) H (fun post h => br_f (by decide) <| br_f (by decide) <| br_f (by decide) <| br_f (by decide) <| br_f (by decide) <| br_f (by decide) <| br_f (by decide) <| br_f (by decide) <| br_f (by decide) <| br_f (by decide) <| br_f (by decide) <| br_f (by decide) <| br_f (by decide) <| br_f (by decide) <| br_f (by decide) <| br_t rfl <|  br_f z' h) (fun post h => br_f (by decide) <| br_t (by decide) h) (re_76p P ht hfa (by decide) (by decide) (fun post h => br_f (by decide) <| br_f (by decide) <| br_f (by decide) <| br_f (by decide) <| br_f (by decide) <| br_f (by decide) <| br_f (by decide) <| br_f (by decide) <| br_f (by decide) <| br_f (by decide) <| br_f (by decide) <| br_f (by decide) <| br_f (by decide) <| br_f (by decide) <| br_f (by decide) <| br_f (by decide) <| br_f (by decide) <| br_f (by decide) <| br_f (by decide) <| br_f (by decide) <| br_f (by decide) <| br_f (by decide) <| br_f (by decide) <| br_f (by decide) <| br_f (by decide) <| br_f (by decide) <| br_t rfl <|  lo_xundo _ h) hp)
    · exact re_ys Q (fun post => post (nI l, ywa, ysk, ylo, nI (t + 1), nI (s + 1), yaw, yan, ywh, you, ymd, ygd, 0, yops, ybs, ysz, yex, yst, yow, yle, lo_ye yst yos yla yoe 0 yel, yla, lo_ys yst yos yoh 0 ysh, lo_f yor 0 6 yro, yos, yoe, yoh, yor, yrw, upd ynx t (nI (k + 1)), ydp, ypl, ykd, ymt, ytd, yht)) S hs (by decide) (fun z => absurd z (by decide)) (fun _ z => absurd z (by decide)) (fun _ post h => yo_24 post ht hnx z h) hq
end SB
end
section
/-! THE STEPS: NEW, CALL, RETURN -/
section SN
variable {xlim xpc xnd xwc xit xfc xwt xan xlp : Int32}
variable {xpo xpb xwd xwk xnk xco xcb xml xme xro xow xol xla xsh xoe xoh xsr xss xse xms xfm xfa xfd xcv xcr : Nat → Int32}
variable {ylim ywa ysk ylo yrn ysp yaw yan ywh you ygd yop : Int32}
variable {ymd : Int64}
variable {yops ybs ysz yex yow yle yel yla ysh yro yoe yoh yor yrw ynx ydp ypl ykd ymt ytd yht : Nat → Int32}
variable {yst yos : Nat → Int64}
variable {B t m k d l s n b : Nat} {f : Nat → Nat} {Bv : Int32}
/-- the frames, for counting what is held -/
def sn_fr (T : Nat) (fd cv cr dp pl kd : Nat → Int32) : Prop := ∀ g, g < T → ∃ d f, d ≤ 4 ∧ fd g = nI d ∧ dp g = nI d ∧ rl_cs g d f cv cr pl kd
theorem sn_frames (hlo : rl_lo yops ybs ysz t xfm xfa xfd xcv xcr yrw ynx ydp ypl ykd) (htp : rl_tp yops ybs ysz t m k d f xfm xfa xfd xcv xcr yrw ynx ydp ypl ykd) : sn_fr (t + 1) xfd xcv xcr ydp ypl ykd := by
  intro g hg
  by_cases e : g = t
  · subst e
    obtain ⟨_, _, hd4, _, _, _, _, _, hfd, hdp, _, hcs⟩ := htp
    exact ⟨d, f, hd4, hfd, hdp, hcs⟩
  · obtain ⟨m', k', d', f', _, _, a3, _, _, _, _, _, a9, a10, _, a12⟩ := hlo g (by omega)
    exact ⟨d', f', by omega, a9, a10, a12⟩
theorem sn_rf {x y : Int32} {o : Nat} (h : rl_rf x y) (ho : o < 8) : x = nI (o + 1) ↔ y = nI o := by
  rcases rl_rf_c h with ⟨rfl, rfl⟩ | ⟨p, hp, rfl, rfl⟩
  · refine ⟨fun z => ?_, fun z => ?_⟩
    · exact absurd z.symm (nI_ne0 (by omega) (by omega))
    · have := nI_pos (n := o) (by omega)
      rw [← z] at this
      exact absurd (by decide) this
  · rw [nI_eq (by omega) (by omega), nI_eq (by omega) (by omega)]
    omega
theorem sn_ce {c o : Nat} {xv xr yv yk : Int32} (h : rl_ce c xv xr yv yk) (ho : o < 8) : (¬ xr = 0 ∧ xv = nI (o + 1)) ↔ (yk = 2 ∧ yv = nI o) := by
  rcases h with ⟨_, h1, h2⟩ | ⟨_, h1, h2, _⟩ | ⟨_, h1, h2, h3⟩
  · rw [h1, h2]
    exact ⟨fun z => absurd rfl z.1, fun z => absurd z.1 (by decide)⟩
  · rw [h1, h2]
    exact ⟨fun z => absurd rfl z.1, fun z => absurd z.1 (by decide)⟩
  · rw [h1, h2]
    exact ⟨fun z => ⟨rfl, (sn_rf h3 ho).mp z.2⟩, fun z => ⟨by decide, (sn_rf h3 ho).mpr z.2⟩⟩
theorem sn_ok {T g : Nat} (h : sn_fr T xfd xcv xcr ydp ypl ykd) (hg : g < T) : he_ok xfd xcr xcv g := by
  obtain ⟨d, f, a1, a2, a3, a4⟩ := h g hg
  refine ⟨d, a1, a2, fun j hj => ?_⟩
  rcases a4 j hj with ⟨_, h1, _⟩ | ⟨_, h1, _⟩ | ⟨_, h1, _, o, ho, e, _⟩
  · exact Or.inl h1
  · exact Or.inl h1
  · exact Or.inr ⟨by rw [h1]; decide, o, ho, e⟩
/-- held on one side, held on the other -/
theorem sn_iff {T o : Nat} (ho : o < 8) (hO : rl_O xro xow xol xla xsh xoe yro yow yle yla ysh yel) (hT : rl_T B xit xsr xss xse xms yop yor yoh yoe yst yos ymd) (hF : sn_fr T xfd xcv xcr ydp ypl ykd) :
    ((∃ r, r < 6 ∧ he_xr xit xro xsr r (o + 1)) ∨ ∃ g, g < T ∧ he_xf xfd xcr xcv g (o + 1)) ↔ he_Y yop yro yor ydp ykd ypl T o := by
  have hs : ¬ yop = 0 → ∀ r, r < 6 → rl_rf (xsr r) (yor r) := fun z => (hT.2.2.2 (hT.2.1.resolve_left z)).1
  have e1 := hT.1
  refine ⟨fun z => ?_, fun z => ?_⟩
  · rcases z with ⟨r, hr, q | ⟨q1, q2⟩⟩ | ⟨g, hg, d1, j, a1, a2, a3, a4⟩
    · exact Or.inl ⟨r, hr, Or.inl ((sn_rf (hO.1 r hr) ho).mp q)⟩
    · rw [e1] at q1
      exact Or.inl ⟨r, hr, Or.inr ⟨q1, (sn_rf (hs q1 r hr) ho).mp q2⟩⟩
    · obtain ⟨d2, f2, b1, b2, b3, b4⟩ := hF g hg
      rw [b2] at a2
      have e : d2 = d1 := (nI_eq (by omega) (by omega)).mp a2
      subst e
      exact Or.inr ⟨g, hg, d2, j, b1, b3, a3, (sn_ce (b4 j a3) ho).mp a4⟩
  · rcases z with ⟨r, hr, q | ⟨q1, q2⟩⟩ | ⟨g, hg, d1, j, a1, a2, a3, a4⟩
    · exact Or.inl ⟨r, hr, Or.inl ((sn_rf (hO.1 r hr) ho).mpr q)⟩
    · exact Or.inl ⟨r, hr, Or.inr ⟨by rw [e1]; exact q1, (sn_rf (hs q1 r hr) ho).mpr q2⟩⟩
    · obtain ⟨d2, f2, b1, b2, b3, b4⟩ := hF g hg
      rw [b3] at a2
      have e : d2 = d1 := (nI_eq (by omega) (by omega)).mp a2
      subst e
      exact Or.inr ⟨g, hg, d2, j, b1, b2, a3, (sn_ce (b4 j a3) ho).mpr a4⟩
theorem sn_sm {G : Nat → Nat} : ∀ n, (∀ i, i < n → G i ≤ 1) → ck_sm G n ≤ n ∧ ((∀ i, i < n → G i = 1) → ck_sm G n = n) ∧ (∀ q, q < n → G q = 0 → ck_sm G n < n)
  | 0, _ => ⟨Nat.le_refl 0, fun _ => rfl, fun q hq => absurd hq (Nat.not_lt_zero q)⟩
  | n + 1, h => by
    obtain ⟨a, b, c⟩ := sn_sm n (fun i hi => h i (by omega))
    have hn := h n (by omega)
    refine ⟨?_, fun z => ?_, fun q hq z => ?_⟩
    · show ck_sm G n + G n ≤ n + 1
      omega
    · show ck_sm G n + G n = n + 1
      rw [b (fun i hi => z i (by omega)), z n (by omega)]
    · show ck_sm G n + G n < n + 1
      by_cases e : q = n
      · subst e
        omega
      · have := c q (by omega) z
        omega
theorem sn_least {P : Nat → Prop} : ∀ n, (∀ i, i < n → P i) ∨ ∃ q, q < n ∧ (∀ i, i < q → P i) ∧ ¬ P q
  | 0 => Or.inl (fun i hi => absurd hi (Nat.not_lt_zero i))
  | n + 1 => by
    rcases sn_least (P := P) n with h | ⟨q, h1, h2, h3⟩
    · by_cases z : P n
      · refine Or.inl (fun i hi => ?_)
        by_cases e : i = n
        · rw [e]; exact z
        · exact h i (by omega)
      · exact Or.inr ⟨n, by omega, h, z⟩
    · exact Or.inr ⟨q, by omega, h2, h3⟩
theorem sn_newb (P : Int32 → SX → Prop) (ht : t < 4) (hd : xfd t = nI (d + 1)) (h4 : d < 4) (hb : xcv (6 * t + (d + 2)) < 1 ∨ ¬ xcv (6 * t + (d + 2)) ≤ 4) (h : P 4 (nI l, xpc, xnd, xwc, xit, nI (t + 1), xwt, xan, xlp, xpo, xpb, xwd, xwk, xnk, xco, xcb, xml, xme, xro, xow, xol, xla, xsh, xoe, xoh, xsr, xss, xse, xms, xfm, xfa, xfd, xcv, xcr)) : wpX_newFailure P (nI l, xpc, xnd, xwc, xit, nI (t + 1), xwt, xan, xlp, xpo, xpb, xwd, xwk, xnk, xco, xcb, xml, xme, xro, xow, xol, xla, xsh, xoe, xoh, xsr, xss, xse, xms, xfm, xfa, xfd, xcv, xcr) := by
  unfold wpX_newFailure
  refine pr_xentry _ (j := 1) ht hd (by omega) (by omega) (by omega) ?_
  have e : 6 * t + (d + 1 + 2 - 1) = 6 * t + (d + 2) := rfl
  rw [e]
  exact br_c (fun _ => h) (fun z => br_f (hb.resolve_left z) h)
theorem sn_newc (P : Int32 → SX → Prop) {c : Nat} {oh : Nat → Int32} (ht : t < 4) (hd : xfd t = nI (d + 1)) (h4 : d < 4) (h1 : ¬ xcv (6 * t + (d + 2)) < 1) (h2 : xcv (6 * t + (d + 2)) ≤ 4) (hc : ∀ P : Int32 → SX → Prop, P (nI c) (nI l, xpc, xnd, xwc, xit, nI (t + 1), xwt, xan, xlp, xpo, xpb, xwd, xwk, xnk, xco, xcb, xml, xme, xro, xow, xol, xla, xsh, xoe, oh, xsr, xss, xse, xms, xfm, xfa, xfd, xcv, xcr) → wpX_countHeld P (nI l, xpc, xnd, xwc, xit, nI (t + 1), xwt, xan, xlp, xpo, xpb, xwd, xwk, xnk, xco, xcb, xml, xme, xro, xow, xol, xla, xsh, xoe, xoh, xsr, xss, xse, xms, xfm, xfa, xfd, xcv, xcr)) (hc8 : c ≤ 8) (h : (c < 8 → P 0 (nI l, xpc, xnd, xwc, xit, nI (t + 1), xwt, xan, xlp, xpo, xpb, xwd, xwk, xnk, xco, xcb, xml, xme, xro, xow, xol, xla, xsh, xoe, oh, xsr, xss, xse, xms, xfm, xfa, xfd, xcv, xcr)) ∧ (c = 8 → P 7 (nI l, xpc, xnd, xwc, xit, nI (t + 1), xwt, xan, xlp, xpo, xpb, xwd, xwk, xnk, xco, xcb, xml, xme, xro, xow, xol, xla, xsh, xoe, oh, xsr, xss, xse, xms, xfm, xfa, xfd, xcv, xcr))) : wpX_newFailure P (nI l, xpc, xnd, xwc, xit, nI (t + 1), xwt, xan, xlp, xpo, xpb, xwd, xwk, xnk, xco, xcb, xml, xme, xro, xow, xol, xla, xsh, xoe, xoh, xsr, xss, xse, xms, xfm, xfa, xfd, xcv, xcr) := by
  unfold wpX_newFailure
  refine pr_xentry _ (j := 1) ht hd (by omega) (by omega) (by omega) ?_
  have e : 6 * t + (d + 1 + 2 - 1) = 6 * t + (d + 2) := rfl
  rw [e]
  exact br_f h1 (br_t h2 (hc _ (pk_lt c 8 (fun z => h.1 z) (fun z => h.2 (by omega)))))
/-- the objects after NEW -/
theorem sn_O {q ln a : Nat} {z : Int32} (hq : q < 8) (hl : ln ≤ 4) (ha : a < 3) (hz : rl_b z) (hO : rl_O xro xow xol xla xsh xoe yro yow yle yla ysh yel) : rl_O xro (upd xow (q + 1) (nI a)) (upd xol (q + 1) (nI ln)) (upd xla (q + 1) z) (upd xsh (q + 1) 0) (lo_f (fun _ => 0) (4 * (q + 1)) (4 * (q + 1) + 4) xoe) yro (upd yow q (nI a)) (upd yle q (nI ln)) (upd yla q z) (upd ysh q 0) (lo_f (fun _ => vp_nar .short 0) (4 * q) (4 * q + 4) yel) := by
  refine ⟨hO.1, fun o ho => ?_, fun i hi => ?_⟩
  · by_cases e : o = q
    · subst e
      rw [pk_us, pk_us, pk_us, pk_us, pk_us, pk_us, pk_us, pk_us]
      exact ⟨rfl, rfl, rfl, rfl, hz, Or.inl rfl, ⟨a, ha, rfl⟩, ⟨ln, hl, rfl⟩⟩
    · have e' : o + 1 ≠ q + 1 := by omega
      simp only [pk_un e', pk_un e]
      exact hO.2.1 o ho
  · by_cases e : 4 * q ≤ i ∧ i < 4 * q + 4
    · rw [lo_i (by omega) (by omega), lo_i e.1 e.2, pr_s0]
      exact ⟨rfl, pr_sv0⟩
    · rw [lo_o (by omega), lo_o e]
      exact hO.2.2 i hi
theorem sn_T {q : Nat} (hq : q < 8) (hB : B < 2 ^ 30) (hT : rl_T B xit xsr xss xse xms yop yor yoh yoe yst yos ymd) : rl_T (B + 1) xit xsr xss xse (upd xms (q + 1) 1) yop yor yoh yoe (vp_updL yst q (ymd + 1)) yos (ymd + 1) := by
  obtain ⟨t1, t2, ⟨mm, m1, m2, m3, m4⟩, t4⟩ := hT
  have e : ymd + 1 = lN (mm + 1) := by rw [m2]; exact lN_1 mm
  rw [e]
  refine ⟨t1, t2, ⟨mm + 1, by omega, rfl, fun o ho => ?_, fun z o ho => ?_⟩, fun z => ?_⟩
  · by_cases eo : o = q
    · rw [eo, pk_uLs]
      exact ⟨mm + 1, Nat.le_refl _, rfl⟩
    · rw [pk_uLn eo]
      obtain ⟨s, hs, e⟩ := m3 o ho
      exact ⟨s, by omega, e⟩
  · obtain ⟨s, hs, e⟩ := m4 z o ho
    exact ⟨s, by omega, e⟩
  · obtain ⟨s1, s2, s3⟩ := t4 z
    refine ⟨s1, fun o ho => ?_, s3⟩
    obtain ⟨b1, b2, b3⟩ := s2 o ho
    refine ⟨b1, b2, ?_⟩
    by_cases eo : o = q
    · subst eo
      rw [pk_us, pk_uLs]
      obtain ⟨s, hs, es⟩ := m4 z o ho
      rw [es]
      exact ⟨fun q => absurd q (by decide), fun q => absurd ((lN_eq (by omega) (by omega)).mp q) (by omega)⟩
    · rw [pk_un (by omega), pk_uLn eo]
      exact b3
theorem st_11 (h : rr B t m k d f (nI l, xpc, xnd, xwc, xit, nI (t + 1), xwt, xan, xlp, xpo, xpb, xwd, xwk, xnk, xco, xcb, xml, xme, xro, xow, xol, xla, xsh, xoe, xoh, xsr, xss, xse, xms, xfm, xfa, xfd, xcv, xcr) (nI l, ywa, ysk, ylo, nI (t + 1), nI s, yaw, yan, ywh, you, ymd, ygd, yop, yops, ybs, ysz, yex, yst, yow, yle, yel, yla, ysh, yro, yos, yoe, yoh, yor, yrw, ynx, ydp, ypl, ykd, ymt, ytd, yht)) (hs : ¬ nI s = nI l) (H : re_H xfm xfa xco xcb t m k 11 Bv) (S : re_S yrw ynx yops ybs t m k 11 Bv) (hfb : rl_fb 11 Bv n) (hos : ck_os [1, 5] d f) (hgo : k + 1 < 16 ∧ rl_ty yops ybs ysz m (k + 1) (ck_rd [1, 5] d) (ck_rk [1, 5] d f)) (hB30 : B < 2 ^ 30) (hB : Bv = 0 ∨ Bv = 1) : so B l s (nI l, xpc, xnd, xwc, xit, nI (t + 1), xwt, xan, xlp, xpo, xpb, xwd, xwk, xnk, xco, xcb, xml, xme, xro, xow, xol, xla, xsh, xoe, xoh, xsr, xss, xse, xms, xfm, xfa, xfd, xcv, xcr) (nI l, ywa, ysk, ylo, nI (t + 1), nI s, yaw, yan, ywh, you, ymd, ygd, yop, yops, ybs, ysz, yex, yst, yow, yle, yel, yla, ysh, yro, yos, yoe, yoh, yor, yrw, ynx, ydp, ypl, ykd, ymt, ytd, yht) := by
  have h2 := h
  obtain ⟨ht, _, _, hya, hL, hP, hM, hO, hT, hW, hlo, htp⟩ := h
  have htp2 := htp
  obtain ⟨hm6, hk16, hd4, hsz, hfm, hrw, hfa, hnx, hfd, hdp, hty, hcs⟩ := htp2
  have h0 : 0 < d := hos.1.1
  obtain ⟨d, rfl⟩ : ∃ q, d = q + 1 := ⟨d - 1, by omega⟩
  have f1 : f (d + 2) = 1 := hos.1.2
  have c1 := hcs (d + 2) (by omega)
  rw [f1] at c1
  have e1 := (rl_ce1 c1).2.2.1
  have hF := sn_frames hlo htp
  have hdps : ∀ g, g < t + 1 → ∃ d, d ≤ 4 ∧ ydp g = nI d := fun g hg => by
    obtain ⟨d', f', a1, a2, a3, a4⟩ := hF g hg
    exact ⟨d', a1, a3⟩
  by_cases z1 : ypl (8 * t + (d + 2)) < 1
  · have z1' : xcv (6 * t + (d + 2)) < 1 := by rw [e1]; exact z1
    exact so_f (r := 4) (oh := xoh) (by decide) h2 (fun P hp => re_xf P H (by decide) (fun post h => br_f (by decide) <| br_f (by decide) <| br_t rfl <|  sn_newb _ ht hfd (by omega) (Or.inl z1') h) hp) (fun v' hE Q hq => re_ys Q (fun post => post v') S hs (by decide) (fun z => absurd z (by decide)) (fun _ _ _ _ _ _ post h => yb_11b post ht hdp (by omega) hdps (Or.inl z1) hE h) (fun z => absurd z (by decide)) hq)
  · have z1' : ¬ xcv (6 * t + (d + 2)) < 1 := by rw [e1]; exact z1
    by_cases z2 : ypl (8 * t + (d + 2)) ≤ 4
    · have z2' : xcv (6 * t + (d + 2)) ≤ 4 := by rw [e1]; exact z2
      obtain ⟨oh, hoh, hcount⟩ := he_count (xlim := nI l) (xpc := xpc) (xnd := xnd) (xwc := xwc) (xit := xit) (xfc := nI (t + 1)) (xwt := xwt) (xan := xan) (xlp := xlp) (xpo := xpo) (xpb := xpb) (xwd := xwd) (xwk := xwk) (xnk := xnk) (xco := xco) (xcb := xcb) (xml := xml) (xme := xme) (xro := xro) (xow := xow) (xol := xol) (xla := xla) (xsh := xsh) (xoe := xoe) (xoh := xoh) (xsr := xsr) (xss := xss) (xse := xse) (xms := xms) (xfm := xfm) (xfa := xfa) (xfd := xfd) (xcv := xcv) (xcr := xcr) (T := t + 1) (by omega) rfl (fun r hr => by
        obtain ⟨o, ho, e, _⟩ := hO.1 r hr
        exact ⟨o, ho, e⟩) (fun w r hr => by
        obtain ⟨o, ho, e, _⟩ := (hT.2.2.2 (hT.2.1.resolve_left (fun q => w (hT.1.trans q)))).1 r hr
        exact ⟨o, ho, e⟩) (fun g hg => sn_ok hF hg)
      have hiff : ∀ o, o < 8 → (oh (o + 1) = 1 ↔ he_Y yop yro yor ydp ykd ypl (t + 1) o) := fun o ho => (hoh (o + 1) (by omega)).2.trans (sn_iff ho hO hT hF)
      have h01 : ∀ o, o < 8 → oh (o + 1) = 0 ∨ oh (o + 1) = 1 := fun o ho => (hoh (o + 1) (by omega)).1
      obtain ⟨hc8, hcall, hcno⟩ := sn_sm (G := fun o => (oh (o + 1)).toNatClampNeg) 8 (fun o ho => by
        show (oh (o + 1)).toNatClampNeg ≤ 1
        rcases h01 o ho with q | q
        · rw [q]; decide
        · rw [q]; decide)
      rcases sn_least (P := he_Y yop yro yor ydp ykd ypl (t + 1)) 8 with hall | ⟨q, hq8, hq1, hq2⟩
      · have hc := hcall (fun o ho => by
          show (oh (o + 1)).toNatClampNeg = 1
          rw [(hiff o ho).mpr (hall o ho)]
          decide)
        exact so_f (r := 7) (oh := oh) (by decide) h2 (fun P hp => re_xf P H (by decide) (fun post h => br_f (by decide) <| br_f (by decide) <| br_t rfl <|  sn_newc _ ht hfd (by omega) z1' z2' hcount hc8 ⟨fun q => absurd q (by omega), fun _ => h⟩) hp) (fun v' hE Q hq => re_ys Q (fun post => post v') S hs (by decide) (fun z => absurd z (by decide)) (fun _ _ _ _ _ _ post h => yb_11m post ht hdp (by omega) hdps z1 z2 hall hE h) (fun z => absurd z (by decide)) hq)
      · have hq0 : oh (q + 1) = 0 := (h01 q hq8).resolve_right (fun w => hq2 ((hiff q hq8).mp w))
        have hc := hcno q hq8 (by
          show (oh (q + 1)).toNatClampNeg = 0
          rw [hq0]
          decide)
        have hqb : ∀ o, o < q → ¬ oh (o + 1) = 0 := fun o ho w => by
          have := (hiff o (by omega)).mpr (hq1 o ho)
          rw [w] at this
          exact absurd this (by decide)
        obtain ⟨ln, hln0, eln⟩ := nI_of (x := ypl (8 * t + (d + 2))) (fun w => z1 (by
          rw [Int32.lt_iff_toInt_lt] at w ⊢
          rw [show (0 : Int32).toInt = 0 by decide] at w
          rw [show (1 : Int32).toInt = 1 by decide]
          omega))
        have hln : ln ≤ 4 := by
          rw [eln] at z2
          exact (nI_leI (b := 4) hln0 (by decide)).mp z2
        have eln' : xcv (6 * t + (d + 2)) = nI ln := e1.trans eln
        have hO' : ∀ z, rl_b z → rl_O xro (upd xow (q + 1) (nI (m / 2))) (upd xol (q + 1) (xcv (6 * t + (d + 2)))) (upd xla (q + 1) z) (upd xsh (q + 1) 0) (lo_f (fun _ => 0) (4 * (q + 1)) (4 * (q + 1) + 4) xoe) yro (upd yow q (nI (m / 2))) (upd yle q (ypl (8 * t + (d + 2)))) (upd yla q z) (upd ysh q 0) (lo_f (fun _ => vp_nar .short 0) (4 * q) (4 * q + 4) yel) := fun z hz => by
          rw [eln', eln]
          exact sn_O hq8 hln (by omega) hz hO
        have hT' := sn_T hq8 hB30 hT
        obtain ⟨lo', tp'⟩ := so_topc (c := d + 2) (v := 2) (k' := k + 1) (d' := d + 1) ht hlo htp hgo.1 (by omega) hgo.2 (rl_n2 (rl_rfS hq8)) (by omega) (fun j hj hne => by omega)
        rcases hB with hB | hB
        · by_cases w0 : xwt = 0
          · have w1 : yaw = 0 := hW.1.symm.trans w0
            exact so_f (r := 9) (oh := oh) (by decide) h2 (fun P hp => re_xt P H w0 (fun post h => br_f (by decide) <| br_f (by decide) <| br_t rfl <|  sn_newc _ ht hfd (by omega) z1' z2' hcount hc8 ⟨fun _ => h, fun q => absurd q (by omega)⟩) (fun post h => br_f (by decide) <| br_f (by decide) <| br_f (by decide) <| br_t rfl <|  br_t hB h) hp) (fun v' hE Q hq => re_ys Q (fun post => post v') S hs (by decide) (fun z => absurd z (by decide)) (fun _ _ _ _ _ _ post h => yb_11t post ht hdp (by omega) hdps z1 z2 hq8 hq2 hB w1 hE h) (fun z => absurd z (by decide)) hq)
          · have w1 : ¬ yaw = 0 := fun q => w0 (hW.1.trans q)
            refine Or.inl ⟨(nI l, xpc, xnd, xwc, xit, nI (t + 1), re_pd xwt, xan, xlp, xpo, xpb, xwd, xwk, xnk, xco, xcb, xml, xme, xro, upd xow (q + 1) (nI (m / 2)), upd xol (q + 1) (xcv (6 * t + (d + 2))), upd xla (q + 1) 1, upd xsh (q + 1) 0, lo_f (fun _ => 0) (4 * (q + 1)) (4 * (q + 1) + 4) xoe, oh, xsr, xss, xse, upd xms (q + 1) 1, xfm, upd xfa t (nI (k + 1)), upd xfd t (nI (d + 1)), upd xcv (6 * t + (d + 2)) (nI (q + 1)), upd xcr (6 * t + (d + 2)) 1), (nI l, ywa, ysk, ylo, nI (t + 1), nI (s + 1), re_pd yaw, yan, ywh, you, ymd + 1, ygd, yop, yops, ybs, ysz, yex, vp_updL yst q (ymd + 1), upd yow q (nI (m / 2)), upd yle q (ypl (8 * t + (d + 2))), lo_f (fun _ => vp_nar .short 0) (4 * q) (4 * q + 4) yel, upd yla q 1, upd ysh q 0, yro, yos, yoe, yoh, yor, yrw, upd ynx t (nI (k + 1)), upd ydp t (nI (d + 1)), upd ypl (8 * t + (d + 2)) (nI q), upd ykd (8 * t + (d + 2)) 2, ymt, ytd, yht), t, m, k + 1, d + 1, _, fun P hp => ?_, fun Q hq => ?_, ⟨by omega, rfl, rfl, hya, hL, hP, hM, hO' 1 (Or.inr rfl), hT', re_W_pd hW w0, lo', tp'⟩, rfl, rfl, rfl⟩
            · exact re_xw P (oh := oh) H w0 (fun post h => br_f (by decide) <| br_f (by decide) <| br_t rfl <|  sn_newc _ ht hfd (by omega) z1' z2' hcount hc8 ⟨fun _ => h, fun q => absurd q (by omega)⟩) (fun post h => br_f (by decide) <| br_f (by decide) <| br_f (by decide) <| br_t rfl <|  br_t hB h) (re_76o P ht hfa (by decide) (by decide) (fun post h => xo_11 post (z := 1) ht hfm hm6 hfd (by omega) hq8 hqb (Or.inr hq0) (Or.inl ⟨hB, rfl⟩) h) hp)
            · exact re_ys Q (fun post => post (nI l, ywa, ysk, ylo, nI (t + 1), nI (s + 1), re_pd yaw, yan, ywh, you, ymd + 1, ygd, yop, yops, ybs, ysz, yex, vp_updL yst q (ymd + 1), upd yow q (nI (m / 2)), upd yle q (ypl (8 * t + (d + 2))), lo_f (fun _ => vp_nar .short 0) (4 * q) (4 * q + 4) yel, upd yla q 1, upd ysh q 0, yro, yos, yoe, yoh, yor, yrw, upd ynx t (nI (k + 1)), upd ydp t (nI (d + 1)), upd ypl (8 * t + (d + 2)) (nI q), upd ykd (8 * t + (d + 2)) 2, ymt, ytd, yht)) S hs (by decide) (fun z => absurd z (by decide)) (fun _ _ _ _ _ _ post h => yb_11w post (z := 1) ht hdp (by omega) hdps hnx hrw hm6 z1 z2 hq8 hq1 hq2 hB rfl w1 h) (fun z => absurd z (by decide)) hq
        · have hB1 : ¬ Bv = 0 := by rw [hB]; decide
          refine Or.inl ⟨(nI l, xpc, xnd, xwc, xit, nI (t + 1), xwt, xan, xlp, xpo, xpb, xwd, xwk, xnk, xco, xcb, xml, xme, xro, upd xow (q + 1) (nI (m / 2)), upd xol (q + 1) (xcv (6 * t + (d + 2))), upd xla (q + 1) 0, upd xsh (q + 1) 0, lo_f (fun _ => 0) (4 * (q + 1)) (4 * (q + 1) + 4) xoe, oh, xsr, xss, xse, upd xms (q + 1) 1, xfm, upd xfa t (nI (k + 1)), upd xfd t (nI (d + 1)), upd xcv (6 * t + (d + 2)) (nI (q + 1)), upd xcr (6 * t + (d + 2)) 1), (nI l, ywa, ysk, ylo, nI (t + 1), nI (s + 1), yaw, yan, ywh, you, ymd + 1, ygd, yop, yops, ybs, ysz, yex, vp_updL yst q (ymd + 1), upd yow q (nI (m / 2)), upd yle q (ypl (8 * t + (d + 2))), lo_f (fun _ => vp_nar .short 0) (4 * q) (4 * q + 4) yel, upd yla q 0, upd ysh q 0, yro, yos, yoe, yoh, yor, yrw, upd ynx t (nI (k + 1)), upd ydp t (nI (d + 1)), upd ypl (8 * t + (d + 2)) (nI q), upd ykd (8 * t + (d + 2)) 2, ymt, ytd, yht), t, m, k + 1, d + 1, _, fun P hp => ?_, fun Q hq => ?_, ⟨by omega, rfl, rfl, hya, hL, hP, hM, hO' 0 (Or.inl rfl), hT', hW, lo', tp'⟩, rfl, rfl, rfl⟩
          · exact re_xn P (oh := oh) H (fun post h => br_f (by decide) <| br_f (by decide) <| br_t rfl <|  sn_newc _ ht hfd (by omega) z1' z2' hcount hc8 ⟨fun _ => h, fun q => absurd q (by omega)⟩) (fun post h => br_f (by decide) <| br_f (by decide) <| br_f (by decide) <| br_t rfl <|  br_f hB1 h) (re_76o P ht hfa (by decide) (by decide) (fun post h => xo_11 post (z := 0) ht hfm hm6 hfd (by omega) hq8 hqb (Or.inr hq0) (Or.inr ⟨hB1, rfl⟩) h) hp)
          · exact re_ys Q (fun post => post (nI l, ywa, ysk, ylo, nI (t + 1), nI (s + 1), yaw, yan, ywh, you, ymd + 1, ygd, yop, yops, ybs, ysz, yex, vp_updL yst q (ymd + 1), upd yow q (nI (m / 2)), upd yle q (ypl (8 * t + (d + 2))), lo_f (fun _ => vp_nar .short 0) (4 * q) (4 * q + 4) yel, upd yla q 0, upd ysh q 0, yro, yos, yoe, yoh, yor, yrw, upd ynx t (nI (k + 1)), upd ydp t (nI (d + 1)), upd ypl (8 * t + (d + 2)) (nI q), upd ykd (8 * t + (d + 2)) 2, ymt, ytd, yht)) S hs (by decide) (fun z => absurd z (by decide)) (fun _ _ _ _ _ _ post h => yb_11p post (z := 0) ht hdp (by omega) hdps hnx hrw hm6 z1 z2 hq8 hq1 hq2 hB rfl h) (fun z => absurd z (by decide)) hq
    · have z2' : ¬ xcv (6 * t + (d + 2)) ≤ 4 := by rw [e1]; exact z2
      exact so_f (r := 4) (oh := xoh) (by decide) h2 (fun P hp => re_xf P H (by decide) (fun post h => br_f (by decide) <| br_f (by decide) <| br_t rfl <|  sn_newb _ ht hfd (by omega) (Or.inr z2') h) hp) (fun v' hE Q hq => re_ys Q (fun post => post v') S hs (by decide) (fun z => absurd z (by decide)) (fun _ _ _ _ _ _ post h => yb_11b post ht hdp (by omega) hdps (Or.inr z2) hE h) (fun z => absurd z (by decide)) hq)
theorem st_18 (h : rr B t m k d f (nI l, xpc, xnd, xwc, xit, nI (t + 1), xwt, xan, xlp, xpo, xpb, xwd, xwk, xnk, xco, xcb, xml, xme, xro, xow, xol, xla, xsh, xoe, xoh, xsr, xss, xse, xms, xfm, xfa, xfd, xcv, xcr) (nI l, ywa, ysk, ylo, nI (t + 1), nI s, yaw, yan, ywh, you, ymd, ygd, yop, yops, ybs, ysz, yex, yst, yow, yle, yel, yla, ysh, yro, yos, yoe, yoh, yor, yrw, ynx, ydp, ypl, ykd, ymt, ytd, yht)) (hs : ¬ nI s = nI l) (H : re_H xfm xfa xco xcb t m k 18 Bv) (S : re_S yrw ynx yops ybs t m k 18 Bv) (hfb : rl_fb 18 Bv n) (hos : ck_os [1, 4] d f) (hgo : k + 1 < 16 ∧ rl_ty yops ybs ysz m (k + 1) (ck_rd [1, 4] d) (ck_rk [1, 4] d f)) (hB : b < 6 ∧ Bv = nI b) : so B l s (nI l, xpc, xnd, xwc, xit, nI (t + 1), xwt, xan, xlp, xpo, xpb, xwd, xwk, xnk, xco, xcb, xml, xme, xro, xow, xol, xla, xsh, xoe, xoh, xsr, xss, xse, xms, xfm, xfa, xfd, xcv, xcr) (nI l, ywa, ysk, ylo, nI (t + 1), nI s, yaw, yan, ywh, you, ymd, ygd, yop, yops, ybs, ysz, yex, yst, yow, yle, yel, yla, ysh, yro, yos, yoe, yoh, yor, yrw, ynx, ydp, ypl, ykd, ymt, ytd, yht) := by
  have h2 := h
  obtain ⟨ht, _, _, hya, hL, hP, hM, hO, hT, hW, hlo, htp⟩ := h
  have htp2 := htp
  obtain ⟨hm6, hk16, hd4, hsz, hfm, hrw, hfa, hnx, hfd, hdp, hty, hcs⟩ := htp2
  obtain ⟨hb1, rfl⟩ := hB
  have h0 : 0 < d := hos.1.1
  obtain ⟨d, rfl⟩ : ∃ q, d = q + 1 := ⟨d - 1, by omega⟩
  have f1 : f (d + 2) = 1 := hos.1.2
  have c1 := hcs (d + 2) (by omega)
  rw [f1] at c1
  have e1 := (rl_ce1 c1).2.2.1
  have hsv := (rl_ce1 c1).2.2.2
  obtain ⟨n', hn', hml, hyz, hme, hex, hco, hcd⟩ := hM b hb1
  by_cases z5 : ysz b = 0
  · have z5' : xml b = 0 := by rw [hml, ← hyz]; exact z5
    exact so_f (r := 5) (oh := xoh) (by decide) h2 (fun P hp => re_xf P H (by decide) (fun post h => br_f (by decide) <| br_f (by decide) <| br_f (by decide) <| br_f (by decide) <| br_f (by decide) <| br_f (by decide) <| br_f (by decide) <| br_f (by decide) <| br_f (by decide) <| br_t rfl <|  xo_callF _ ht hfm hm6 hb1 (fun _ => h) (fun q _ _ => absurd z5' q) (fun q _ => absurd z5' q)) hp) (fun v' hE Q hq => re_ys Q (fun post => post v') S hs (by decide) (fun z => absurd z (by decide)) (fun _ z => absurd z (by decide)) (fun _ post h => yo_18e post ht hrw hm6 hb1 (fun _ => hE) (fun q _ _ => absurd z5 q) (fun q _ => absurd z5 q) h) hq)
  · have z5' : ¬ xml b = 0 := by rw [hml, ← hyz]; exact z5
    by_cases z3 : ¬ yex b = 0 ∨ b / 2 = m / 2
    · have z3' : ¬ xme b = 0 ∨ b / 2 = m / 2 := by rw [hme]; exact z3
      by_cases t3 : t = 3
      · exact so_f (r := 6) (oh := xoh) (by decide) h2 (fun P hp => re_xf P H (by decide) (fun post h => br_f (by decide) <| br_f (by decide) <| br_f (by decide) <| br_f (by decide) <| br_f (by decide) <| br_f (by decide) <| br_f (by decide) <| br_f (by decide) <| br_f (by decide) <| br_t rfl <|  xo_callF _ ht hfm hm6 hb1 (fun q => absurd q z5') (fun _ y w => absurd z3' (fun q => q.elim (fun a => a y) w)) (fun _ _ => ⟨fun q => absurd q (by omega), fun _ => h⟩)) hp) (fun v' hE Q hq => re_ys Q (fun post => post v') S hs (by decide) (fun z => absurd z (by decide)) (fun _ z => absurd z (by decide)) (fun _ post h => yo_18e post ht hrw hm6 hb1 (fun q => absurd q z5) (fun _ y w => absurd z3 (fun q => q.elim (fun a => a y) w)) (fun _ _ => ⟨t3, hE⟩) h) hq)
      · have hn0 : 0 < n' := by
          cases n' with
          | zero => exact absurd hyz z5
          | succ _ => omega
        have hszb : (ysz b).toNatClampNeg = n' := by rw [hyz]; exact nI_clamp (by omega)
        have hty0 : rl_ty yops ybs ysz b 0 0 ck_f0 := by
          unfold rl_ty
          rw [hszb]
          exact ck_ty0 (hcd hn0).2.2
        have lo' : rl_lo yops ybs ysz (t + 1) (upd xfm (t + 1) (nI b)) (upd (upd xfa t (nI (k + 1))) (t + 1) 0) (upd (upd xfd t (nI d)) (t + 1) 0) (upd xcv (6 * (t + 1)) (xcv (6 * t + (d + 2)))) (upd (upd xcr (6 * (t + 1)) 0) (6 * (t + 1) + 1) 0) (upd yrw (t + 1) (nI b)) (upd ynx (t + 1) 0) (upd (upd ydp t (nI d)) (t + 1) 0) (upd ypl (8 * (t + 1)) (ypl (8 * t + (d + 2)))) (upd (upd ykd (8 * (t + 1)) 1) (8 * (t + 1) + 1) 0) := by
          intro g hg
          by_cases e : g = t
          · subst e
            refine ⟨m, k, d, f, hm6, hk16, by omega, hsz, ?_, ?_, ?_, ?_, ?_, ?_, hgo.2, fun j hj => ?_⟩
            · rw [pk_un (by omega)]; exact hfm
            · rw [pk_un (by omega)]; exact hrw
            · rw [pk_un (by omega), pk_us]
            · rw [pk_un (by omega)]; exact hnx
            · rw [pk_un (by omega), pk_us]
            · rw [pk_un (by omega), pk_us]
            · rw [pk_un (by omega), pk_un (by omega), pk_un (by omega), pk_un (by omega), pk_un (by omega), pk_un (by omega)]
              exact hcs j (by omega)
          · obtain ⟨m2, k2, d2, f2, a1, a2, a3, a4, a5, a6, a7, a8, a9, a10, a11, a12⟩ := hlo g (by omega)
            refine ⟨m2, k2, d2, f2, a1, a2, a3, a4, ?_, ?_, ?_, ?_, ?_, ?_, a11, fun j hj => ?_⟩
            · rw [pk_un (by omega)]; exact a5
            · rw [pk_un (by omega)]; exact a6
            · rw [pk_un (by omega), pk_un e]; exact a7
            · rw [pk_un (by omega)]; exact a8
            · rw [pk_un (by omega), pk_un e]; exact a9
            · rw [pk_un (by omega), pk_un e]; exact a10
            · rw [pk_un (by omega), pk_un (by omega), pk_un (by omega), pk_un (by omega), pk_un (by omega), pk_un (by omega)]
              exact a12 j hj
        have tp' : rl_tp yops ybs ysz (t + 1) b 0 0 ck_f0 (upd xfm (t + 1) (nI b)) (upd (upd xfa t (nI (k + 1))) (t + 1) 0) (upd (upd xfd t (nI d)) (t + 1) 0) (upd xcv (6 * (t + 1)) (xcv (6 * t + (d + 2)))) (upd (upd xcr (6 * (t + 1)) 0) (6 * (t + 1) + 1) 0) (upd yrw (t + 1) (nI b)) (upd ynx (t + 1) 0) (upd (upd ydp t (nI d)) (t + 1) 0) (upd ypl (8 * (t + 1)) (ypl (8 * t + (d + 2)))) (upd (upd ykd (8 * (t + 1)) 1) (8 * (t + 1) + 1) 0) := by
          refine ⟨hb1, by omega, by omega, by rw [hszb]; exact hn0, pk_us, pk_us, pk_us, pk_us, pk_us, pk_us, hty0, fun j hj => ?_⟩
          obtain rfl | rfl : j = 0 ∨ j = 1 := by omega
          · show rl_ce 1 (upd xcv (6 * (t + 1)) (xcv (6 * t + (d + 2))) (6 * (t + 1))) (upd (upd xcr (6 * (t + 1)) 0) (6 * (t + 1) + 1) 0 (6 * (t + 1))) (upd ypl (8 * (t + 1)) (ypl (8 * t + (d + 2))) (8 * (t + 1))) (upd (upd ykd (8 * (t + 1)) 1) (8 * (t + 1) + 1) 0 (8 * (t + 1)))
            rw [pk_us, pk_un (by omega), pk_us, pk_us, pk_un (by omega), pk_us, e1]
            exact rl_n1 hsv
          · rw [pk_us, pk_us]
            exact Or.inl ⟨rfl, rfl, rfl⟩
        refine Or.inl ⟨(nI l, xpc, xnd, xwc, xit, nI (t + 2), xwt, xan, xlp, xpo, xpb, xwd, xwk, xnk, xco, xcb, xml, xme, xro, xow, xol, xla, xsh, xoe, xoh, xsr, xss, xse, xms, upd xfm (t + 1) (nI b), upd (upd xfa t (nI (k + 1))) (t + 1) 0, upd (upd xfd t (nI d)) (t + 1) 0, upd xcv (6 * (t + 1)) (xcv (6 * t + (d + 2))), upd (upd xcr (6 * (t + 1)) 0) (6 * (t + 1) + 1) 0), (nI l, ywa, ysk, ylo, nI (t + 2), nI (s + 1), yaw, yan, ywh, you, ymd, ygd, yop, yops, ybs, ysz, yex, yst, yow, yle, yel, yla, ysh, yro, yos, yoe, yoh, yor, upd yrw (t + 1) (nI b), upd ynx (t + 1) 0, upd (upd ydp t (nI d)) (t + 1) 0, upd ypl (8 * (t + 1)) (ypl (8 * t + (d + 2))), upd (upd ykd (8 * (t + 1)) 1) (8 * (t + 1) + 1) 0, ymt, ytd, yht), t + 1, b, 0, 0, ck_f0, fun P hp => ?_, fun Q hq => ?_, ⟨by omega, rfl, rfl, hya, hL, hP, hM, hO, re_T_up hT (by omega), hW, lo', tp'⟩, rfl, rfl, rfl⟩
        · exact re_xn P (oh := xoh) H (fun post h => br_f (by decide) <| br_f (by decide) <| br_f (by decide) <| br_f (by decide) <| br_f (by decide) <| br_f (by decide) <| br_f (by decide) <| br_f (by decide) <| br_f (by decide) <| br_t rfl <|  xo_callF _ ht hfm hm6 hb1 (fun q => absurd q z5') (fun _ y w => absurd z3' (fun q => q.elim (fun a => a y) w)) (fun _ _ => ⟨fun _ => h, fun q => absurd q t3⟩)) (fun post h => br_f (by decide) <| br_f (by decide) <| br_f (by decide) <| br_f (by decide) <| br_f (by decide) <| br_f (by decide) <| br_f (by decide) <| br_f (by decide) <| br_f (by decide) <| br_f (by decide) <| br_t rfl <|  h) (re_76p P ht hfa (by decide) (by decide) (fun post h => xo_call post (by omega) hfd (by omega) h) hp)
        · exact re_ys Q (fun post => post (nI l, ywa, ysk, ylo, nI (t + 2), nI (s + 1), yaw, yan, ywh, you, ymd, ygd, yop, yops, ybs, ysz, yex, yst, yow, yle, yel, yla, ysh, yro, yos, yoe, yoh, yor, upd yrw (t + 1) (nI b), upd ynx (t + 1) 0, upd (upd ydp t (nI d)) (t + 1) 0, upd ypl (8 * (t + 1)) (ypl (8 * t + (d + 2))), upd (upd ykd (8 * (t + 1)) 1) (8 * (t + 1) + 1) 0, ymt, ytd, yht)) S hs (by decide) (fun z => absurd z (by decide)) (fun _ z => absurd z (by decide)) (fun _ post h => yo_18 post (by omega) hrw hm6 hb1 hdp (by omega) z5 (z3.symm) hsv h) hq
    · have z3a : yex b = 0 := Classical.byContradiction fun q => z3 (Or.inl q)
      have z3b : ¬ b / 2 = m / 2 := fun q => z3 (Or.inr q)
      have z3' : xme b = 0 := hme.trans z3a
      exact so_f (r := 3) (oh := xoh) (by decide) h2 (fun P hp => re_xf P H (by decide) (fun post h => br_f (by decide) <| br_f (by decide) <| br_f (by decide) <| br_f (by decide) <| br_f (by decide) <| br_f (by decide) <| br_f (by decide) <| br_f (by decide) <| br_f (by decide) <| br_t rfl <|  xo_callF _ ht hfm hm6 hb1 (fun q => absurd q z5') (fun _ _ _ => h) (fun _ q => absurd q (fun w => w.elim (fun a => a z3') z3b))) hp) (fun v' hE Q hq => re_ys Q (fun post => post v') S hs (by decide) (fun z => absurd z (by decide)) (fun _ z => absurd z (by decide)) (fun _ post h => yo_18e post ht hrw hm6 hb1 (fun q => absurd q z5) (fun _ _ _ => hE) (fun _ q => absurd q z3) h) hq)
theorem st_19 (h : rr B (t + 1) m k d f (nI l, xpc, xnd, xwc, xit, nI (t + 2), xwt, xan, xlp, xpo, xpb, xwd, xwk, xnk, xco, xcb, xml, xme, xro, xow, xol, xla, xsh, xoe, xoh, xsr, xss, xse, xms, xfm, xfa, xfd, xcv, xcr) (nI l, ywa, ysk, ylo, nI (t + 2), nI s, yaw, yan, ywh, you, ymd, ygd, yop, yops, ybs, ysz, yex, yst, yow, yle, yel, yla, ysh, yro, yos, yoe, yoh, yor, yrw, ynx, ydp, ypl, ykd, ymt, ytd, yht)) (hs : ¬ nI s = nI l) (H : re_H xfm xfa xco xcb (t + 1) m k 19 Bv) (S : re_S yrw ynx yops ybs (t + 1) m k 19 Bv) (hos : ck_os [1] d f) : so B l s (nI l, xpc, xnd, xwc, xit, nI (t + 2), xwt, xan, xlp, xpo, xpb, xwd, xwk, xnk, xco, xcb, xml, xme, xro, xow, xol, xla, xsh, xoe, xoh, xsr, xss, xse, xms, xfm, xfa, xfd, xcv, xcr) (nI l, ywa, ysk, ylo, nI (t + 2), nI s, yaw, yan, ywh, you, ymd, ygd, yop, yops, ybs, ysz, yex, yst, yow, yle, yel, yla, ysh, yro, yos, yoe, yoh, yor, yrw, ynx, ydp, ypl, ykd, ymt, ytd, yht) := by
  obtain ⟨ht, _, _, hya, hL, hP, hM, hO, hT, hW, hlo, htp⟩ := h
  obtain ⟨hm6, hk16, hd4, hsz, hfm, hrw, hfa, hnx, hfd, hdp, hty, hcs⟩ := htp
  have h0 : 0 < d := hos.1.1
  obtain ⟨d, rfl⟩ : ∃ q, d = q + 1 := ⟨d - 1, by omega⟩
  have f1 : f (d + 2) = 1 := hos.1.2
  have c1 := hcs (d + 2) (by omega)
  rw [f1] at c1
  have e1 := (rl_ce1 c1).2.2.1
  have hsv := (rl_ce1 c1).2.2.2
  obtain ⟨m2, k2, d2, f2, a1, a2, a3, a4, a5, a6, a7, a8, a9, a10, a11, a12⟩ := hlo t (by omega)
  have hk2 : k2 + 1 < 16 := by
    obtain ⟨n', hn', _, hyz, _⟩ := hM m2 a1
    have := (ck_ty_s a11).1
    rw [hyz, nI_clamp (by omega)] at this
    omega
  have hcs' : rl_cs t (d2 + 1) (ck_un f2 (d2 + 2) 1) (upd xcv (6 * t + (d2 + 2)) (xcv (6 * (t + 1) + (d + 2)))) (upd xcr (6 * t + (d2 + 2)) 0) (upd ypl (8 * t + (d2 + 2)) (ypl (8 * (t + 1) + (d + 2)))) (upd ykd (8 * t + (d2 + 2)) 1) := by
    rw [e1]
    exact rl_cs_up a12 (rl_n1 hsv) (by omega) (by omega) (fun j hj hne => by omega)
  have lo' : rl_lo yops ybs ysz t xfm (upd xfa (t + 1) (nI (k + 1))) (upd (upd xfd (t + 1) (nI d)) t (nI (d2 + 1))) (upd xcv (6 * t + (d2 + 2)) (xcv (6 * (t + 1) + (d + 2)))) (upd xcr (6 * t + (d2 + 2)) 0) yrw (upd ynx t (nI (k2 + 1))) (upd ydp t (nI (d2 + 1))) (upd ypl (8 * t + (d2 + 2)) (ypl (8 * (t + 1) + (d + 2)))) (upd ykd (8 * t + (d2 + 2)) 1) := by
    intro g hg
    obtain ⟨m3, k3, d3, f3, b1, b2, b3, b4, b5, b6, b7, b8, b9, b10, b11, b12⟩ := hlo g (by omega)
    refine ⟨m3, k3, d3, f3, b1, b2, b3, b4, b5, b6, ?_, ?_, ?_, ?_, b11, fun j hj => ?_⟩
    · rw [pk_un (by omega)]; exact b7
    · rw [pk_un (by omega)]; exact b8
    · rw [pk_un (by omega), pk_un (by omega)]; exact b9
    · rw [pk_un (by omega)]; exact b10
    · rw [pk_un (by omega), pk_un (by omega), pk_un (by omega), pk_un (by omega)]
      exact b12 j hj
  have tp' : rl_tp yops ybs ysz t m2 (k2 + 1) (d2 + 1) (ck_un f2 (d2 + 2) 1) xfm (upd xfa (t + 1) (nI (k + 1))) (upd (upd xfd (t + 1) (nI d)) t (nI (d2 + 1))) (upd xcv (6 * t + (d2 + 2)) (xcv (6 * (t + 1) + (d + 2)))) (upd xcr (6 * t + (d2 + 2)) 0) yrw (upd ynx t (nI (k2 + 1))) (upd ydp t (nI (d2 + 1))) (upd ypl (8 * t + (d2 + 2)) (ypl (8 * (t + 1) + (d + 2)))) (upd ykd (8 * t + (d2 + 2)) 1) :=
    ⟨a1, hk2, by omega, a4, a5, a6, by rw [pk_un (by omega)]; exact a7, pk_us, pk_us, pk_us, a11, hcs'⟩
  refine Or.inl ⟨(nI l, xpc, xnd, xwc, xit, nI (t + 1), xwt, xan, xlp, xpo, xpb, xwd, xwk, xnk, xco, xcb, xml, xme, xro, xow, xol, xla, xsh, xoe, xoh, xsr, xss, xse, xms, xfm, upd xfa (t + 1) (nI (k + 1)), upd (upd xfd (t + 1) (nI d)) t (nI (d2 + 1)), upd xcv (6 * t + (d2 + 2)) (xcv (6 * (t + 1) + (d + 2))), upd xcr (6 * t + (d2 + 2)) 0), (nI l, ywa, ysk, ylo, nI (t + 1), nI (s + 1), yaw, yan, ywh, you, ymd, ygd, yop, yops, ybs, ysz, yex, yst, yow, yle, yel, yla, ysh, yro, yos, yoe, yoh, yor, yrw, upd ynx t (nI (k2 + 1)), upd ydp t (nI (d2 + 1)), upd ypl (8 * t + (d2 + 2)) (ypl (8 * (t + 1) + (d + 2))), upd ykd (8 * t + (d2 + 2)) 1, ymt, ytd, yht), t, m2, k2 + 1, d2 + 1, _, fun P hp => ?_, fun Q hq => ?_, ⟨by omega, rfl, rfl, hya, hL, hP, hM, hO, re_T_up hT (by omega), hW, lo', tp'⟩, rfl, rfl, rfl⟩
  · exact re_xn P (oh := xoh) H (fun post h => br_f (by decide) <| br_f (by decide) <| br_f (by decide) <| br_f (by decide) <| br_f (by decide) <| br_f (by decide) <| br_f (by decide) <| br_f (by decide) <| br_f (by decide) <| br_f (by decide) <| br_t rfl <|  h) (fun post h => br_f (by decide) <| br_f (by decide) <| br_f (by decide) <| br_f (by decide) <| br_f (by decide) <| br_f (by decide) <| br_f (by decide) <| br_f (by decide) <| br_f (by decide) <| br_f (by decide) <| br_f (by decide) <| br_t rfl <|  h) (re_76p P ht hfa (by decide) (by decide) (fun post h => xo_leave post (by omega) hfd (by omega) a9 (by omega) h) hp)
  · exact re_ys Q (fun post => post (nI l, ywa, ysk, ylo, nI (t + 1), nI (s + 1), yaw, yan, ywh, you, ymd, ygd, yop, yops, ybs, ysz, yex, yst, yow, yle, yel, yla, ysh, yro, yos, yoe, yoh, yor, yrw, upd ynx t (nI (k2 + 1)), upd ydp t (nI (d2 + 1)), upd ypl (8 * t + (d2 + 2)) (ypl (8 * (t + 1) + (d + 2))), upd ykd (8 * t + (d2 + 2)) 1, ymt, ytd, yht)) S hs (by decide) (fun z => absurd z (by decide)) (fun _ z => absurd z (by decide)) (fun _ post h => yo_19 post (by omega) hdp (by omega) a10 (by omega) a8 h) hq
theorem st_19e (h : rr B 0 m k d f (nI l, xpc, xnd, xwc, xit, nI 1, xwt, xan, xlp, xpo, xpb, xwd, xwk, xnk, xco, xcb, xml, xme, xro, xow, xol, xla, xsh, xoe, xoh, xsr, xss, xse, xms, xfm, xfa, xfd, xcv, xcr) (nI l, ywa, ysk, ylo, nI 1, nI s, yaw, yan, ywh, you, ymd, ygd, yop, yops, ybs, ysz, yex, yst, yow, yle, yel, yla, ysh, yro, yos, yoe, yoh, yor, yrw, ynx, ydp, ypl, ykd, ymt, ytd, yht)) (hs : ¬ nI s = nI l) (H : re_H xfm xfa xco xcb 0 m k 19 Bv) (S : re_S yrw ynx yops ybs 0 m k 19 Bv) (hos : ck_os [1] d f) : so B l s (nI l, xpc, xnd, xwc, xit, nI 1, xwt, xan, xlp, xpo, xpb, xwd, xwk, xnk, xco, xcb, xml, xme, xro, xow, xol, xla, xsh, xoe, xoh, xsr, xss, xse, xms, xfm, xfa, xfd, xcv, xcr) (nI l, ywa, ysk, ylo, nI 1, nI s, yaw, yan, ywh, you, ymd, ygd, yop, yops, ybs, ysz, yex, yst, yow, yle, yel, yla, ysh, yro, yos, yoe, yoh, yor, yrw, ynx, ydp, ypl, ykd, ymt, ytd, yht) := by
  obtain ⟨ht, _, _, hya, hL, hP, hM, hO, hT, hW, hlo, htp⟩ := h
  obtain ⟨hm6, hk16, hd4, hsz, hfm, hrw, hfa, hnx, hfd, hdp, hty, hcs⟩ := htp
  have h0 : 0 < d := hos.1.1
  obtain ⟨d, rfl⟩ : ∃ q, d = q + 1 := ⟨d - 1, by omega⟩
  have f1 : f (d + 2) = 1 := hos.1.2
  have c1 := hcs (d + 2) (by omega)
  rw [f1] at c1
  have e1 : xcv (6 * 0 + (d + 2)) = ypl (8 * 0 + (d + 2)) := (rl_ce1 c1).2.2.1
  have e2 : xcv (d + 2) = ypl (d + 2) := by
    rw [show 6 * 0 + (d + 2) = d + 2 by omega] at e1
    exact e1
  obtain ⟨ro, sh, oe, wt, yro', ysh', yel', yaw', hX, hY, hO', hT', hW'⟩ := re_fin (r := 0) (xlim := nI l) (xpc := xpc) (xnd := xnd) (xwc := xwc) (xfc := 0) (xan := xcv (d + 2)) (xlp := -1) (xpo := xpo) (xpb := xpb) (xwd := xwd) (xwk := xwk) (xnk := xnk) (xco := xco) (xcb := xcb) (xml := xml) (xme := xme) (xoh := xoh) (xfm := xfm) (xfa := upd xfa 0 (nI (k + 1))) (xfd := upd xfd 0 (nI d)) (xcv := xcv) (xcr := xcr) (ylim := nI l) (ywa := ywa) (ysk := ysk) (ylo := ylo) (yrn := nI 1) (ysp := nI (s + 1)) (yan := yan) (ywh := ywh) (you := 0) (ygd := ygd) (yops := yops) (ybs := ybs) (ysz := ysz) (yex := yex) (yrw := yrw) (ynx := ynx) (ydp := ydp) (ypl := ypl) (ykd := ykd) (ymt := ymt) (ytd := ytd) (yht := yht) hO hT hW
  refine Or.inr ⟨0, (nI l, xpc, xnd, xwc, xit, 0, xwt, xcv (d + 2), xlp, xpo, xpb, xwd, xwk, xnk, xco, xcb, xml, xme, xro, xow, xol, xla, xsh, xoe, xoh, xsr, xss, xse, xms, xfm, upd xfa 0 (nI (k + 1)), upd xfd 0 (nI d), xcv, xcr), (nI l, xpc, xnd, xwc, 0, 0, wt, xcv (d + 2), -1, xpo, xpb, xwd, xwk, xnk, xco, xcb, xml, xme, ro, xow, xol, xla, sh, oe, xoh, xsr, xss, xse, xms, xfm, upd xfa 0 (nI (k + 1)), upd xfd 0 (nI d), xcv, xcr), (nI l, ywa, ysk, ylo, 0, nI (s + 1), yaw', ypl (d + 2), -1, 0, ymd, ygd, 0, yops, ybs, ysz, yex, yst, yow, yle, yel', yla, ysh', yro', yos, yoe, yoh, yor, yrw, ynx, ydp, ypl, ykd, ymt, ytd, yht), fun P hp => ?_, Or.inr ⟨rfl, rfl⟩, rfl, fun P hp => ?_, fun Q hq => ?_, ⟨rfl, rfl, rfl, rfl, hL, hP, hM, hO', re_T_up hT' (by omega), hW', e2, rfl⟩⟩
  · exact re_xn P (t := 0) (oh := xoh) H (fun post h => br_f (by decide) <| br_f (by decide) <| br_f (by decide) <| br_f (by decide) <| br_f (by decide) <| br_f (by decide) <| br_f (by decide) <| br_f (by decide) <| br_f (by decide) <| br_f (by decide) <| br_t rfl <|  h) (fun post h => br_f (by decide) <| br_f (by decide) <| br_f (by decide) <| br_f (by decide) <| br_f (by decide) <| br_f (by decide) <| br_f (by decide) <| br_f (by decide) <| br_f (by decide) <| br_f (by decide) <| br_f (by decide) <| br_t rfl <|  h) (re_76p P (t := 0) ht hfa (by decide) (by decide) (fun post h => xo_leave0 post hfd (by omega) h) hp)
  · exact br_t rfl (hX P hp)
  · exact re_ys (t := 0) Q (fun post => post (nI l, ywa, ysk, ylo, 0, nI (s + 1), yaw', ypl (d + 2), -1, 0, ymd, ygd, 0, yops, ybs, ysz, yex, yst, yow, yle, yel', yla, ysh', yro', yos, yoe, yoh, yor, yrw, ynx, ydp, ypl, ykd, ymt, ytd, yht)) S hs (by decide) (fun z => absurd z (by decide)) (fun _ z => absurd z (by decide)) (fun _ post h => yo_19e post hdp (by omega) (fun Q hq => br_t rfl (hY Q _ hq)) h) hq
end SN
end
section
/-! A RUN: all its steps -/
section RU
variable {xlim xpc xnd xwc xit xfc xwt xan xlp : Int32}
variable {xpo xpb xwd xwk xnk xco xcb xml xme xro xow xol xla xsh xoe xoh xsr xss xse xms xfm xfa xfd xcv xcr : Nat → Int32}
variable {ylim ywa ysk ylo yrn ysp yaw yan ywh you ygd yop : Int32}
variable {ymd : Int64}
variable {yops ybs ysz yex yow yle yel yla ysh yro yoe yoh yor yrw ynx ydp ypl ykd ymt ytd yht : Nat → Int32}
variable {yst yos : Nat → Int64}
variable {B t m k d l s : Nat} {f : Nat → Nat}
theorem ru_b1 {b : Nat} {x : Int32} (hb : b = x.toNatClampNeg) (h : x = 0 ∨ x = 1) : b ≤ 1 ∧ x = nI b := by
  rcases h with e | e
  · rw [hb, e]
    exact ⟨by decide, by decide⟩
  · rw [hb, e]
    exact ⟨by decide, by decide⟩
theorem ru_b6 {b : Nat} {x : Int32} (hb : b = x.toNatClampNeg) (h : 0 ≤ x ∧ x < 6) : b < 6 ∧ x = nI b := by
  obtain ⟨j, hj, e⟩ := nI_of (x := x) (Int32.not_lt.mpr h.1)
  rw [e] at h
  have := (nI_ltI (b := 6) hj (by decide)).mp h.2
  rw [hb, e, nI_clamp hj]
  exact ⟨this, rfl⟩
theorem ru_step (h : rr B t m k d f (nI l, xpc, xnd, xwc, xit, nI (t + 1), xwt, xan, xlp, xpo, xpb, xwd, xwk, xnk, xco, xcb, xml, xme, xro, xow, xol, xla, xsh, xoe, xoh, xsr, xss, xse, xms, xfm, xfa, xfd, xcv, xcr) (nI l, ywa, ysk, ylo, nI (t + 1), nI s, yaw, yan, ywh, you, ymd, ygd, yop, yops, ybs, ysz, yex, yst, yow, yle, yel, yla, ysh, yro, yos, yoe, yoh, yor, yrw, ynx, ydp, ypl, ykd, ymt, ytd, yht)) (hs : ¬ nI s = nI l) (hB : B < 2 ^ 30) : so B l s (nI l, xpc, xnd, xwc, xit, nI (t + 1), xwt, xan, xlp, xpo, xpb, xwd, xwk, xnk, xco, xcb, xml, xme, xro, xow, xol, xla, xsh, xoe, xoh, xsr, xss, xse, xms, xfm, xfa, xfd, xcv, xcr) (nI l, ywa, ysk, ylo, nI (t + 1), nI s, yaw, yan, ywh, you, ymd, ygd, yop, yops, ybs, ysz, yex, yst, yow, yle, yel, yla, ysh, yro, yos, yoe, yoh, yor, yrw, ynx, ydp, ypl, ykd, ymt, ytd, yht) := by
  have h2 := h
  obtain ⟨ht, _, _, hya, hL, hP, hM, hO, hT, hW, hlo, htp⟩ := h2
  obtain ⟨o, b, n, ho, hn, hkn, hb, H, S, hfb, hos, hju, hgo⟩ := so_at ht hM htp
  rcases ck_25 ho with rfl | rfl | rfl | rfl | rfl | rfl | rfl | rfl | rfl | rfl | rfl | rfl | rfl | rfl | rfl | rfl | rfl | rfl | rfl | rfl | rfl | rfl | rfl | rfl | rfl
  · exact st_0 h hs H S hfb hos (hgo (by decide))
  · obtain ⟨b1, b2⟩ := ru_b1 hb (hfb.2.1 (by decide))
    clear hb
    obtain rfl | rfl : b = 0 ∨ b = 1 := by omega
    · exact st_1_0 h hs H S hfb hos (hgo (by decide)) b2
    · exact st_1_1 h hs H S hfb hos (hgo (by decide)) b2
  · obtain ⟨b1, b2⟩ := ru_b1 hb (hfb.2.1 (by decide))
    clear hb
    obtain rfl | rfl : b = 0 ∨ b = 1 := by omega
    · exact st_2_0 h hs H S hfb hos (hgo (by decide)) b2
    · exact st_2_1 h hs H S hfb hos (hgo (by decide)) b2
  · exact st_3 h hs H S hfb hos (hgo (by decide))
  · exact st_4 h hs H S hfb hos (hgo (by decide))
  · exact st_5 h hs H S hfb hos (hgo (by decide))
  · exact st_6 h hs H S hfb hos (hgo (by decide))
  · exact st_7 h hs H S hfb (hju (by decide))
  · exact st_8 h hs H S hfb hos (hgo (by decide)) (hju (by decide))
  · exact st_9 h hs H S hfb hos (hgo (by decide)) (ru_b1 hb (hfb.2.1 (by decide)))
  · exact st_10 h hs H S hfb hos (hgo (by decide)) (ru_b1 hb (hfb.2.1 (by decide)))
  · exact st_11 h hs H S hfb hos (hgo (by decide)) hB (hfb.2.1 (by decide))
  · exact st_12 h hs H S hfb hos (hgo (by decide))
  · exact st_13 h hs H S hfb hos (hgo (by decide))
  · exact st_14 h hs H S hfb hos (hgo (by decide))
  · exact st_15 h hs H S hfb hos (hgo (by decide))
  · exact st_16 h hs H S hfb hos (hgo (by decide)) (ru_b6 hb (hfb.2.2.2 (by decide)))
  · exact st_17 h hs H S hfb hos (hgo (by decide))
  · exact st_18 h hs H S hfb hos (hgo (by decide)) (ru_b6 hb (hfb.2.2.2 (by decide)))
  · cases t with
    | zero => exact st_19e h hs H S hos
    | succ t => exact st_19 h hs H S hos
  · exact st_20 h hs H S hfb hos (hgo (by decide))
  · exact st_21 h hs H S hfb hos (hgo (by decide))
  · exact st_22 h hs H S hfb hos (hgo (by decide))
  · exact st_23 h hs H S hfb hos (hgo (by decide))
  · exact st_24 h hs H S hfb hos (hgo (by decide))
/-- the loops, with the state as one -/
def ru_X (P : Int32 → SX → Prop) (n : Nat) (a c : Int32) (u : SX) : Prop := match u with | (xlim, xpc, xnd, xwc, xit, xfc, xwt, xan, xlp, xpo, xpb, xwd, xwk, xnk, xco, xcb, xml, xme, xro, xow, xol, xla, xsh, xoe, xoh, xsr, xss, xse, xms, xfm, xfa, xfd, xcv, xcr) => wX_run_43 P n a c xlim xpc xnd xwc xit xfc xwt xan xlp xpo xpb xwd xwk xnk xco xcb xml xme xro xow xol xla xsh xoe xoh xsr xss xse xms xfm xfa xfd xcv xcr
def ru_Y (Q : Int32 → SY → Prop) (n : Nat) (c : Int32) (v : SY) : Prop := match v with | (ylim, ywa, ysk, ylo, yrn, ysp, yaw, yan, ywh, you, ymd, ygd, yop, yops, ybs, ysz, yex, yst, yow, yle, yel, yla, ysh, yro, yos, yoe, yoh, yor, yrw, ynx, ydp, ypl, ykd, ymt, ytd, yht) => wY_run_68 Q n c ylim ywa ysk ylo yrn ysp yaw yan ywh you ymd ygd yop yops ybs ysz yex yst yow yle yel yla ysh yro yos yoe yoh yor yrw ynx ydp ypl ykd ymt ytd yht
/-- the component's loop, once the run is over -/
theorem ru_xend (P : Int32 → SX → Prop) {r c : Int32} {u' u'' : SX} {n : Nat} (hr : ¬ r = 0 ∨ (r = 0 ∧ so_fc u' = 0)) (hf : ∀ P : SX → Prop, P u'' → wpX_finish P u' r) (h : P r u'') : ru_X P (n + 1) r c u' := by
  obtain ⟨xlim, xpc, xnd, xwc, xit, xfc, xwt, xan, xlp, xpo, xpb, xwd, xwk, xnk, xco, xcb, xml, xme, xro, xow, xol, xla, xsh, xoe, xoh, xsr, xss, xse, xms, xfm, xfa, xfd, xcv, xcr⟩ := u'
  obtain ⟨xlim1, xpc1, xnd1, xwc1, xit1, xfc1, xwt1, xan1, xlp1, xpo1, xpb1, xwd1, xwk1, xnk1, xco1, xcb1, xml1, xme1, xro1, xow1, xol1, xla1, xsh1, xoe1, xoh1, xsr1, xss1, xse1, xms1, xfm1, xfa1, xfd1, xcv1, xcr1⟩ := u''
  have k91 : wX_run_91 P r xlim xpc xnd xwc xit xfc xwt xan xlp xpo xpb xwd xwk xnk xco xcb xml xme xro xow xol xla xsh xoe xoh xsr xss xse xms xfm xfa xfd xcv xcr := by
    unfold wX_run_91
    exact hf _ h
  have k76 : wX_run_76 P r xlim xpc xnd xwc xit xfc xwt xan xlp xpo xpb xwd xwk xnk xco xcb xml xme xro xow xol xla xsh xoe xoh xsr xss xse xms xfm xfa xfd xcv xcr := by
    refine br_c (fun z => ?_) (fun z => k91)
    have hfc : xfc = 0 := (hr.resolve_left (fun q => q z)).2
    exact br_t (by rw [hfc]; decide) k91
  refine br_c (fun _ => k76) (fun _ => br_c (fun _ => k76) (fun y => br_c (fun z => ?_) (fun _ => k76)))
  have hfc : xfc = 0 := (hr.resolve_left (fun q => q z)).2
  exact absurd (by rw [hfc]; decide) y
/-- the reference's loop, once the run is over -/
theorem ru_yend (Q : Int32 → SY → Prop) {r c : Int32} {u : SX} {v : SY} {n : Nat} (h : so_fi r B u v) (hq : Q r v) : ru_Y Q (n + 1) c v := by
  obtain ⟨xlim1, xpc1, xnd1, xwc1, xit1, xfc1, xwt1, xan1, xlp1, xpo1, xpb1, xwd1, xwk1, xnk1, xco1, xcb1, xml1, xme1, xro1, xow1, xol1, xla1, xsh1, xoe1, xoh1, xsr1, xss1, xse1, xms1, xfm1, xfa1, xfd1, xcv1, xcr1⟩ := u
  obtain ⟨ylim1, ywa1, ysk1, ylo1, yrn1, ysp1, yaw1, yan1, ywh1, you1, ymd1, ygd1, yop1, yops1, ybs1, ysz1, yex1, yst1, yow1, yle1, yel1, yla1, ysh1, yro1, yos1, yoe1, yoh1, yor1, yrw1, ynx1, ydp1, ypl1, ykd1, ymt1, ytd1, yht1⟩ := v
  obtain ⟨h1, h2, _⟩ := h
  subst h1
  subst h2
  exact br_c (fun _ => hq) (fun _ => br_t (by decide) hq)
theorem ru_T {r : Int32} {B B' : Nat} {u : SX} {v : SY} (h : so_fi r B u v) (hB : B ≤ B') : so_fi r B' u v := by
  obtain ⟨xlim1, xpc1, xnd1, xwc1, xit1, xfc1, xwt1, xan1, xlp1, xpo1, xpb1, xwd1, xwk1, xnk1, xco1, xcb1, xml1, xme1, xro1, xow1, xol1, xla1, xsh1, xoe1, xoh1, xsr1, xss1, xse1, xms1, xfm1, xfa1, xfd1, xcv1, xcr1⟩ := u
  obtain ⟨ylim1, ywa1, ysk1, ylo1, yrn1, ysp1, yaw1, yan1, ywh1, you1, ymd1, ygd1, yop1, yops1, ybs1, ysz1, yex1, yst1, yow1, yle1, yel1, yla1, ysh1, yro1, yos1, yoe1, yoh1, yor1, yrw1, ynx1, ydp1, ypl1, ykd1, ymt1, ytd1, yht1⟩ := v
  obtain ⟨h1, h2, h3, h4, h5, h6, h7, h8, h9, h10, h11, h12⟩ := h
  exact ⟨h1, h2, h3, h4, h5, h6, h7, h8, re_T_up h9 hB, h10, h11, h12⟩
theorem ru_loop {l : Nat} (hl : l ≤ 250) : ∀ e s B t m k d f (u : SX) (v : SY), s + e = l → B + e < 2 ^ 30 → rr B t m k d f u v → so_xl u = nI l → so_yl v = nI l → so_sp v = nI s → ∃ r u'' v'', (∀ (P : Int32 → SX → Prop) n, e + 1 < n → P r u'' → ru_X P n 0 (nI s) u) ∧ (∀ (Q : Int32 → SY → Prop) n, e + 1 < n → Q r v'' → ru_Y Q n (nI s) v) ∧ so_fi r (B + e + 1) u'' v'' := by
  intro e
  induction e with
  | zero =>
    intro s B t m k d f u v hs hB h hx hy hsp
    obtain ⟨xlim, xpc, xnd, xwc, xit, xfc, xwt, xan, xlp, xpo, xpb, xwd, xwk, xnk, xco, xcb, xml, xme, xro, xow, xol, xla, xsh, xoe, xoh, xsr, xss, xse, xms, xfm, xfa, xfd, xcv, xcr⟩ := u
    obtain ⟨ylim, ywa, ysk, ylo, yrn, ysp, yaw, yan, ywh, you, ymd, ygd, yop, yops, ybs, ysz, yex, yst, yow, yle, yel, yla, ysh, yro, yos, yoe, yoh, yor, yrw, ynx, ydp, ypl, ykd, ymt, ytd, yht⟩ := v
    have hx' : xlim = nI l := hx
    have hy' : ylim = nI l := hy
    have hsp' : ysp = nI s := hsp
    obtain rfl : s = l := by omega
    subst hx'
    subst hy'
    subst hsp'
    obtain ⟨u'', v'', g1, g2, g3⟩ := so_fail (r := 1) (by decide) h
    obtain ⟨ht, hfc, hrn, _⟩ := h
    have hfc' : ¬ xfc ≤ 0 := by rw [hfc]; exact nI_nle (by omega) (by omega)
    have hrn' : ¬ yrn ≤ 0 := by rw [hrn]; exact nI_nle (by omega) (by omega)
    refine ⟨1, u'', v'', fun P n hn hp => ?_, fun Q n hn hq => ?_, g3⟩
    · obtain ⟨n, rfl⟩ : ∃ q, n = q + 1 := ⟨n - 1, by omega⟩
      obtain ⟨xlim1, xpc1, xnd1, xwc1, xit1, xfc1, xwt1, xan1, xlp1, xpo1, xpb1, xwd1, xwk1, xnk1, xco1, xcb1, xml1, xme1, xro1, xow1, xol1, xla1, xsh1, xoe1, xoh1, xsr1, xss1, xse1, xms1, xfm1, xfa1, xfd1, xcv1, xcr1⟩ := u''
      refine br_t (nI_le (Nat.le_refl _) (by omega)) (br_t rfl (br_f hfc' ?_))
      unfold wX_run_91
      exact g1 _ hp
    · obtain ⟨n, rfl⟩ : ∃ q, n = q + 2 := ⟨n - 2, by omega⟩
      have hq' := ru_yend (c := nI s + 1) (n := n) Q g3 hq
      obtain ⟨ylim1, ywa1, ysk1, ylo1, yrn1, ysp1, yaw1, yan1, ywh1, you1, ymd1, ygd1, yop1, yops1, ybs1, ysz1, yex1, yst1, yow1, yle1, yel1, yla1, ysh1, yro1, yos1, yoe1, yoh1, yor1, yrw1, ynx1, ydp1, ypl1, ykd1, ymt1, ytd1, yht1⟩ := v''
      have i0 : (nI (t + 1) - 1) = nI t := nI_pred t
      subst hrn
      refine br_f (nI_ge (b := 300) (by omega) (by decide)) (br_f hrn' (nm_r (nI_pred t) ⟨pk_in t 4 ht, pk_in t 4 ht, nm_e (br_t rfl (g2 _ (nm_e hq')))⟩))
  | succ e ih =>
    intro s B t m k d f u v hs hB h hx hy hsp
    obtain ⟨xlim, xpc, xnd, xwc, xit, xfc, xwt, xan, xlp, xpo, xpb, xwd, xwk, xnk, xco, xcb, xml, xme, xro, xow, xol, xla, xsh, xoe, xoh, xsr, xss, xse, xms, xfm, xfa, xfd, xcv, xcr⟩ := u
    obtain ⟨ylim, ywa, ysk, ylo, yrn, ysp, yaw, yan, ywh, you, ymd, ygd, yop, yops, ybs, ysz, yex, yst, yow, yle, yel, yla, ysh, yro, yos, yoe, yoh, yor, yrw, ynx, ydp, ypl, ykd, ymt, ytd, yht⟩ := v
    have hx' : xlim = nI l := hx
    have hy' : ylim = nI l := hy
    have hsp' : ysp = nI s := hsp
    have hfc : xfc = nI (t + 1) := h.2.1
    have hrn : yrn = nI (t + 1) := h.2.2.1
    subst hx'
    subst hy'
    subst hsp'
    subst hfc
    subst hrn
    have hne : ¬ nI s = nI l := fun q => by
      have := (nI_eq (by omega) (by omega)).mp q
      omega
    have k1 : ¬ nI l ≤ nI s := nI_ge (by omega) (by omega)
    have k2 : ¬ nI (t + 1) ≤ 0 := nI_nle (by omega) (by have := h.1; omega)
    have k3 : ¬ (300 : Int32) ≤ nI s := nI_ge (b := 300) (by omega) (by decide)
    rcases ru_step h hne (by omega) with ⟨u', v', t', m', k', d', f', g1, g2, g3, g4, g5, g6⟩ | ⟨r, u', u'', v', g1, g2, g3, g4, g5, g6⟩
    · obtain ⟨r, u'', v'', i1, i2, i3⟩ := ih (s + 1) (B + 1) t' m' k' d' f' u' v' (by omega) (by omega) g3 g4 g5 g6
      refine ⟨r, u'', v'', fun P n hn hp => ?_, fun Q n hn hq => ?_, ru_T i3 (by omega)⟩
      · obtain ⟨n, rfl⟩ : ∃ q, n = q + 1 := ⟨n - 1, by omega⟩
        have hp' := i1 P n (by omega) hp
        obtain ⟨xlim1, xpc1, xnd1, xwc1, xit1, xfc1, xwt1, xan1, xlp1, xpo1, xpb1, xwd1, xwk1, xnk1, xco1, xcb1, xml1, xme1, xro1, xow1, xol1, xla1, xsh1, xoe1, xoh1, xsr1, xss1, xse1, xms1, xfm1, xfa1, xfd1, xcv1, xcr1⟩ := u'
        exact br_f k1 (br_f k2 (br_t rfl (g1 _ (nm_r (nI_1 s) hp'))))
      · obtain ⟨n, rfl⟩ : ∃ q, n = q + 1 := ⟨n - 1, by omega⟩
        have hq' := i2 Q n (by omega) hq
        obtain ⟨ylim1, ywa1, ysk1, ylo1, yrn1, ysp1, yaw1, yan1, ywh1, you1, ymd1, ygd1, yop1, yops1, ybs1, ysz1, yex1, yst1, yow1, yle1, yel1, yla1, ysh1, yro1, yos1, yoe1, yoh1, yor1, yrw1, ynx1, ydp1, ypl1, ykd1, ymt1, ytd1, yht1⟩ := v'
        exact br_f k3 (br_f k2 (g2 _ (nm_r (nI_1 s) hq')))
    · refine ⟨r, u'', v', fun P n hn hp => ?_, fun Q n hn hq => ?_, ru_T g6 (by omega)⟩
      · obtain ⟨n, rfl⟩ : ∃ q, n = q + 2 := ⟨n - 2, by omega⟩
        have hp' := ru_xend (c := nI (s + 1)) (n := n) P g2 g4 hp
        obtain ⟨xlim1, xpc1, xnd1, xwc1, xit1, xfc1, xwt1, xan1, xlp1, xpo1, xpb1, xwd1, xwk1, xnk1, xco1, xcb1, xml1, xme1, xro1, xow1, xol1, xla1, xsh1, xoe1, xoh1, xsr1, xss1, xse1, xms1, xfm1, xfa1, xfd1, xcv1, xcr1⟩ := u'
        exact br_f k1 (br_f k2 (br_t rfl (g1 _ (nm_r (nI_1 s) hp'))))
      · obtain ⟨n, rfl⟩ : ∃ q, n = q + 2 := ⟨n - 2, by omega⟩
        have hq' := ru_yend (c := nI (s + 1)) (n := n) Q g6 hq
        obtain ⟨ylim1, ywa1, ysk1, ylo1, yrn1, ysp1, yaw1, yan1, ywh1, you1, ymd1, ygd1, yop1, yops1, ybs1, ysz1, yex1, yst1, yow1, yle1, yel1, yla1, ysh1, yro1, yos1, yoe1, yoh1, yor1, yrw1, ynx1, ydp1, ypl1, ykd1, ymt1, ytd1, yht1⟩ := v'
        exact br_f k3 (br_f k2 (g5 _ (nm_r (nI_1 s) hq')))
end RU
end
section
/-! THE OWED STATEMENTS BUT INSTALL AND RUN -/
section OW
variable {xlim xpc xnd xwc xit xfc xwt xan xlp : Int32}
variable {xpo xpb xwd xwk xnk xco xcb xml xme xro xow xol xla xsh xoe xoh xsr xss xse xms xfm xfa xfd xcv xcr : Nat → Int32}
variable {ylim ywa ysk ylo yrn ysp yaw yan ywh you ygd yop : Int32}
variable {ymd : Int64}
variable {yops ybs ysz yex yow yle yel yla ysh yro yoe yoh yor yrw ynx ydp ypl ykd ymt ytd yht : Nat → Int32}
variable {yst yos : Nat → Int64}
theorem ow_init (post : SY → Prop) {L : Int32} (h : post (L, 0, 0, 0, 0, 0, -1, 0, -1, 0, 0, 0, 0, (fun _ => 0), (fun _ => 0), (fun _ => 0), (fun _ => 0), (fun _ => 0), (fun _ => 0), (fun _ => 0), (fun _ => 0), (fun _ => 0), (fun _ => 0), lo_f (fun _ => -1) 0 6 (fun _ => 0), (fun _ => 0), (fun _ => 0), (fun _ => 0), (fun _ => 0), (fun _ => 0), (fun _ => 0), (fun _ => 0), (fun _ => 0), (fun _ => 0), (fun _ => 0), (fun _ => 0), (fun _ => 0))) : ∃ n, wY_init_218 post L 0 0 0 0 0 0 0 0 0 0 0 0 n 0 (fun _ => 0) (fun _ => 0) (fun _ => 0) (fun _ => 0) (fun _ => 0) (fun _ => 0) (fun _ => 0) (fun _ => 0) (fun _ => 0) (fun _ => 0) (fun _ => 0) (fun _ => 0) (fun _ => 0) (fun _ => 0) (fun _ => 0) (fun _ => 0) (fun _ => 0) (fun _ => 0) (fun _ => 0) (fun _ => 0) (fun _ => 0) (fun _ => 0) (fun _ => 0) := by
  have key : ∀ e c m ro, c + e = 6 → e < m → post (L, 0, 0, 0, 0, 0, -1, 0, -1, 0, 0, 0, 0, (fun _ => 0), (fun _ => 0), (fun _ => 0), (fun _ => 0), (fun _ => 0), (fun _ => 0), (fun _ => 0), (fun _ => 0), (fun _ => 0), (fun _ => 0), lo_f (fun _ => -1) c 6 ro, (fun _ => 0), (fun _ => 0), (fun _ => 0), (fun _ => 0), (fun _ => 0), (fun _ => 0), (fun _ => 0), (fun _ => 0), (fun _ => 0), (fun _ => 0), (fun _ => 0), (fun _ => 0)) → wY_init_218 post L 0 0 0 0 0 0 0 0 0 0 0 0 m (nI c) (fun _ => 0) (fun _ => 0) (fun _ => 0) (fun _ => 0) (fun _ => 0) (fun _ => 0) (fun _ => 0) (fun _ => 0) (fun _ => 0) (fun _ => 0) ro (fun _ => 0) (fun _ => 0) (fun _ => 0) (fun _ => 0) (fun _ => 0) (fun _ => 0) (fun _ => 0) (fun _ => 0) (fun _ => 0) (fun _ => 0) (fun _ => 0) (fun _ => 0) := by
    intro e
    induction e with
    | zero =>
      intro c m ro hc hm hp
      obtain ⟨m, rfl⟩ : ∃ q, m = q + 1 := ⟨m - 1, by omega⟩
      obtain rfl : c = 6 := by omega
      rw [lo_e] at hp
      exact br_t (by decide) hp
    | succ e ih =>
      intro c m ro hc hm hp
      obtain ⟨m, rfl⟩ : ∃ q, m = q + 1 := ⟨m - 1, by omega⟩
      rw [← lo_s (val := fun _ => -1) (by omega)] at hp
      exact br_f (nI_ge (b := 6) (by omega) (by decide)) ⟨pk_in c 6 (by omega), nm_r (by rw [nI_clamp (by omega)]) (nm_r (nI_1 c) (ih (c + 1) m _ (by omega) (by omega) hp))⟩
  exact ⟨7, key 6 0 7 (fun _ => 0) (by omega) (by omega) h⟩
theorem ow_rel0 {l : Nat} {L : Int32} (hl : l ≤ 250) (e : L = nI l) : i_Rel 1 (L, 0, 0, 0, 0, 0, -1, 0, -1, (fun _ => 0), (fun _ => 0), (fun _ => 0), (fun _ => 0), (fun _ => 0), (fun _ => 0), (fun _ => 0), (fun _ => 0), (fun _ => 0), (fun _ => 0), (fun _ => 0), (fun _ => 0), (fun _ => 0), (fun _ => 0), (fun _ => 0), (fun _ => 0), (fun _ => 0), (fun _ => 0), (fun _ => 0), (fun _ => 0), (fun _ => 0), (fun _ => 0), (fun _ => 0), (fun _ => 0), (fun _ => 0)) (L, 0, 0, 0, 0, 0, -1, 0, -1, 0, 0, 0, 0, (fun _ => 0), (fun _ => 0), (fun _ => 0), (fun _ => 0), (fun _ => 0), (fun _ => 0), (fun _ => 0), (fun _ => 0), (fun _ => 0), (fun _ => 0), lo_f (fun _ => -1) 0 6 (fun _ => 0), (fun _ => 0), (fun _ => 0), (fun _ => 0), (fun _ => 0), (fun _ => 0), (fun _ => 0), (fun _ => 0), (fun _ => 0), (fun _ => 0), (fun _ => 0), (fun _ => 0), (fun _ => 0)) := by
  subst e
  refine ⟨rfl, rfl, ⟨l, hl, rfl, rfl⟩, ⟨0, by omega, rfl, rfl, fun i hi => absurd hi (by omega)⟩, fun m hm => ⟨0, by omega, rfl, rfl, rfl, Or.inl rfl, fun k hk => absurd hk (by omega), fun z => absurd z (by omega)⟩, ⟨fun r hr => ?_, fun o ho => ⟨rfl, rfl, rfl, rfl, Or.inl rfl, Or.inl rfl, ⟨0, by omega, rfl⟩, ⟨0, by omega, rfl⟩⟩, fun i hi => ⟨rfl, pr_sv0⟩⟩, ⟨rfl, Or.inl rfl, ⟨0, by omega, rfl, fun o ho => ⟨0, by omega, rfl⟩, fun z => absurd z (by decide)⟩, fun z => absurd z (by decide)⟩, ⟨rfl, Or.inl rfl⟩, rfl, rfl⟩
  rw [lo_i (by omega) hr]
  exact rl_rf0
theorem i_vc0 (k0 : Int32) : wpX_init (fun u => wpY_init (fun v => i_Rel 1 u v) k0) k0 := by
  by_cases h1 : 20 ≤ k0
  · by_cases h2 : k0 ≤ 250
    · obtain ⟨l, hl, e⟩ := nI_of (x := k0) (Int32.not_lt.mpr (Int32.le_trans (by decide) h1))
      have hl2 : l ≤ 250 := by
        rw [e] at h2
        exact (nI_leI (b := 250) hl (by decide)).mp h2
      exact br_t h1 (br_t h2 (br_t h1 (br_t h2 (ow_init _ (ow_rel0 hl2 e)))))
    · exact br_t h1 (br_f h2 (br_t h1 (br_f h2 (ow_init _ (ow_rel0 (l := 250) (by omega) rfl)))))
  · exact br_f h1 (br_f h1 (ow_init _ (ow_rel0 (l := 20) (by omega) rfl)))
theorem i_vc_result {k : Nat} {u : SX} {v : SY} (I : i_Rel k u v) (hk : k + 4 ≤ 2049) : wpX_result (fun r => wpY_result (fun r' => r' = r ∧ i_Rel (k + 4) u v) v) u := by
  obtain ⟨xlim, xpc, xnd, xwc, xit, xfc, xwt, xan, xlp, xpo, xpb, xwd, xwk, xnk, xco, xcb, xml, xme, xro, xow, xol, xla, xsh, xoe, xoh, xsr, xss, xse, xms, xfm, xfa, xfd, xcv, xcr⟩ := u
  obtain ⟨ylim, ywa, ysk, ylo, yrn, ysp, yaw, yan, ywh, you, ymd, ygd, yop, yops, ybs, ysz, yex, yst, yow, yle, yel, yla, ysh, yro, yos, yoe, yoh, yor, yrw, ynx, ydp, ypl, ykd, ymt, ytd, yht⟩ := v
  obtain ⟨hfc, hit, hL, hP, hM, hO, hT, hW, han, hlp⟩ := I
  exact ⟨han.symm, ⟨hfc, hit, hL, hP, hM, hO, re_T_up hT (by omega), hW, han, hlp⟩⟩
theorem i_vc_place {k : Nat} {u : SX} {v : SY} (I : i_Rel k u v) (hk : k + 4 ≤ 2049) : wpX_place (fun r => wpY_place (fun r' => r' = r ∧ i_Rel (k + 4) u v) v) u := by
  obtain ⟨xlim, xpc, xnd, xwc, xit, xfc, xwt, xan, xlp, xpo, xpb, xwd, xwk, xnk, xco, xcb, xml, xme, xro, xow, xol, xla, xsh, xoe, xoh, xsr, xss, xse, xms, xfm, xfa, xfd, xcv, xcr⟩ := u
  obtain ⟨ylim, ywa, ysk, ylo, yrn, ysp, yaw, yan, ywh, you, ymd, ygd, yop, yops, ybs, ysz, yex, yst, yow, yle, yel, yla, ysh, yro, yos, yoe, yoh, yor, yrw, ynx, ydp, ypl, ykd, ymt, ytd, yht⟩ := v
  obtain ⟨hfc, hit, hL, hP, hM, hO, hT, hW, han, hlp⟩ := I
  exact ⟨hlp.symm, ⟨hfc, hit, hL, hP, hM, hO, re_T_up hT (by omega), hW, han, hlp⟩⟩
theorem ow_100 (x : Int32) : 100 < x ↔ ¬ x ≤ 100 := by
  rw [Int32.lt_iff_toInt_lt, Int32.le_iff_toInt_le]
  omega
theorem i_vc_tear {k : Nat} {u : SX} {v : SY} (I : i_Rel k u v) (hk : k + 4 ≤ 2049) (v1 : Int32) : wpX_tear (fun r u' => wpY_tear (fun r' v' => r' = r ∧ i_Rel (k + 4) u' v') v v1) u v1 := by
  obtain ⟨xlim, xpc, xnd, xwc, xit, xfc, xwt, xan, xlp, xpo, xpb, xwd, xwk, xnk, xco, xcb, xml, xme, xro, xow, xol, xla, xsh, xoe, xoh, xsr, xss, xse, xms, xfm, xfa, xfd, xcv, xcr⟩ := u
  obtain ⟨ylim, ywa, ysk, ylo, yrn, ysp, yaw, yan, ywh, you, ymd, ygd, yop, yops, ybs, ysz, yex, yst, yow, yle, yel, yla, ysh, yro, yos, yoe, yoh, yor, yrw, ynx, ydp, ypl, ykd, ymt, ytd, yht⟩ := v
  obtain ⟨hfc, hit, hL, hP, hM, hO, hT, hW, han, hlp⟩ := I
  by_cases h0 : v1 < 0
  · exact br_t h0 (br_t h0 ⟨rfl, ⟨hfc, hit, hL, hP, hM, hO, re_T_up hT (by omega), ⟨rfl, Or.inl rfl⟩, han, hlp⟩⟩)
  · by_cases h1 : v1 ≤ 100
    · obtain ⟨a, ha, e⟩ := nI_of h0
      have ha2 : a ≤ 100 := by
        rw [e] at h1
        exact (nI_leI (b := 100) ha (by decide)).mp h1
      exact br_f h0 (br_f (fun z => (ow_100 v1).mp z h1) (br_f h0 (br_t h1 ⟨rfl, ⟨hfc, hit, hL, hP, hM, hO, re_T_up hT (by omega), ⟨rfl, Or.inr ⟨a, ha2, e⟩⟩, han, hlp⟩⟩)))
    · exact br_f h0 (br_t ((ow_100 v1).mpr h1) (br_f h0 (br_f h1 ⟨rfl, ⟨hfc, hit, hL, hP, hM, hO, re_T_up hT (by omega), ⟨rfl, Or.inl rfl⟩, han, hlp⟩⟩)))
theorem i_vc_reset {k : Nat} {u : SX} {v : SY} (I : i_Rel k u v) (hk : k + 4 ≤ 2049) : wpX_reset (fun u' => wpY_reset (fun v' => i_Rel (k + 4) u' v') v) u := by
  obtain ⟨xlim, xpc, xnd, xwc, xit, xfc, xwt, xan, xlp, xpo, xpb, xwd, xwk, xnk, xco, xcb, xml, xme, xro, xow, xol, xla, xsh, xoe, xoh, xsr, xss, xse, xms, xfm, xfa, xfd, xcv, xcr⟩ := u
  obtain ⟨ylim, ywa, ysk, ylo, yrn, ysp, yaw, yan, ywh, you, ymd, ygd, yop, yops, ybs, ysz, yex, yst, yow, yle, yel, yla, ysh, yro, yos, yoe, yoh, yor, yrw, ynx, ydp, ypl, ykd, ymt, ytd, yht⟩ := v
  obtain ⟨hfc, hit, hL, hP, hM, hO, hT, hW, han, hlp⟩ := I
  unfold wpX_reset
  exact lo_lose _ (lo_reset _ ⟨hfc, hit, hL, hP, hM, pr_reset hO, re_T_up hT (by omega), ⟨rfl, Or.inl rfl⟩, han, hlp⟩)
/-! views -/
theorem ow_23 (x : Int32) : 2 < x ↔ 3 ≤ x := by
  rw [Int32.lt_iff_toInt_lt, Int32.le_iff_toInt_le, show (2 : Int32).toInt = 2 from by decide, show (3 : Int32).toInt = 3 from by decide]
  omega
theorem ow_12 (x : Int32) : x ≤ 1 ↔ ¬ 2 ≤ x := by
  rw [Int32.le_iff_toInt_le, Int32.le_iff_toInt_le, show (1 : Int32).toInt = 1 from by decide, show (2 : Int32).toInt = 2 from by decide]
  omega
def ow_out (a r : Int32) : Prop := a < 0 ∨ 3 ≤ a ∨ r < 0 ∨ 2 ≤ r
theorem ow_c (a r : Int32) : ow_out a r ∨ ∃ i j : Nat, i < 3 ∧ j < 2 ∧ a = nI i ∧ r = nI j := by
  rcases pk_ix a (n := 3) (by omega) with h | h | ⟨i, hi, e⟩
  · exact Or.inl (Or.inl h)
  · exact Or.inl (Or.inr (Or.inl h))
  · rcases pk_ix r (n := 2) (by omega) with h | h | ⟨j, hj, e'⟩
    · exact Or.inl (Or.inr (Or.inr (Or.inl h)))
    · exact Or.inl (Or.inr (Or.inr (Or.inr h)))
    · exact Or.inr ⟨i, j, hi, hj, e, e'⟩
theorem ow_xo (P : Int32 → Prop) {a r : Int32} (ho : ow_out a r) (h : P 0) : wpX_isInRange P a r := by
  refine br_c (fun _ => h) (fun z1 => br_c (fun _ => h) (fun z2 => br_c (fun _ => h) (fun z3 => br_c (fun _ => h) (fun z4 => ?_))))
  rcases ho with q | q | q | q
  · exact absurd q z1
  · exact absurd q z2
  · exact absurd q z3
  · exact absurd q z4
theorem ow_xi (P : Int32 → Prop) {i j : Nat} (hi : i < 3) (hj : j < 2) (h : P 1) : wpX_isInRange P (nI i) (nI j) :=
  br_f (nI_pos (by omega)) (br_f (nI_ge (b := 3) hi (by decide)) (br_f (nI_pos (by omega)) (br_f (nI_ge (b := 2) hj (by decide)) h)))
/-- the reference's four questions -/
theorem ow_yo {A C : Prop} {a r : Int32} (ho : ow_out a r) (h : A) : ((a < 0 → A) ∧ (¬ a < 0 → (((2 < a → A) ∧ (¬ 2 < a → (((r < 0 → A) ∧ (¬ r < 0 → (((r ≤ 1 → C) ∧ (¬ r ≤ 1 → A))))))))))) := by
  refine br_c (fun _ => h) (fun z1 => br_c (fun _ => h) (fun z2 => br_c (fun _ => h) (fun z3 => br_c (fun z4 => ?_) (fun _ => h))))
  rcases ho with q | q | q | q
  · exact absurd q z1
  · exact absurd ((ow_23 a).mpr q) z2
  · exact absurd q z3
  · exact absurd q ((ow_12 r).mp z4)
theorem ow_yi {A C : Prop} {i j : Nat} (hi : i < 3) (hj : j < 2) (h : C) : ((nI i < 0 → A) ∧ (¬ nI i < 0 → (((2 < nI i → A) ∧ (¬ 2 < nI i → (((nI j < 0 → A) ∧ (¬ nI j < 0 → (((nI j ≤ 1 → C) ∧ (¬ nI j ≤ 1 → A))))))))))) :=
  br_f (nI_pos (by omega)) (br_f (nI_nlt (a := 2) (by omega) (by decide)) (br_f (nI_pos (by omega)) (br_t (nI_le (b := 1) (by omega) (by decide)) h)))
theorem ow_xroot (P : Int32 → Prop) {i j : Nat} (hi : i < 3) (hj : j < 2) (h : P (xro (2 * i + j))) : wpX_objectOfRoot P (xlim, xpc, xnd, xwc, xit, xfc, xwt, xan, xlp, xpo, xpb, xwd, xwk, xnk, xco, xcb, xml, xme, xro, xow, xol, xla, xsh, xoe, xoh, xsr, xss, xse, xms, xfm, xfa, xfd, xcv, xcr) (nI i) (nI j) := by
  unfold wpX_objectOfRoot
  refine ow_xi _ hi hj (br_f (by decide) ?_)
  rw [pr_2b, nI_clamp (by omega)]
  exact ⟨vp_in_nI (by omega) (by omega), h⟩
theorem ow_xrooto (P : Int32 → Prop) {a r : Int32} (ho : ow_out a r) (h : P 0) : wpX_objectOfRoot P (xlim, xpc, xnd, xwc, xit, xfc, xwt, xan, xlp, xpo, xpb, xwd, xwk, xnk, xco, xcb, xml, xme, xro, xow, xol, xla, xsh, xoe, xoh, xsr, xss, xse, xms, xfm, xfa, xfd, xcv, xcr) a r := by
  unfold wpX_objectOfRoot
  exact ow_xo _ ho (br_t rfl h)
theorem ow_yroot (P : Int32 → Prop) {i j : Nat} (hi : i < 3) (hj : j < 2) (h : P (yro (2 * i + j))) : wpY_rootOf P (ylim, ywa, ysk, ylo, yrn, ysp, yaw, yan, ywh, you, ymd, ygd, yop, yops, ybs, ysz, yex, yst, yow, yle, yel, yla, ysh, yro, yos, yoe, yoh, yor, yrw, ynx, ydp, ypl, ykd, ymt, ytd, yht) (nI i) (nI j) := by
  refine ow_yi hi hj ?_
  rw [pr_2b, nI_clamp (by omega)]
  exact ⟨vp_in_nI (by omega) (by omega), h⟩
theorem ow_yrooto (P : Int32 → Prop) {a r : Int32} (ho : ow_out a r) (h : P (-1)) : wpY_rootOf P (ylim, ywa, ysk, ylo, yrn, ysp, yaw, yan, ywh, you, ymd, ygd, yop, yops, ybs, ysz, yex, yst, yow, yle, yel, yla, ysh, yro, yos, yoe, yoh, yor, yrw, ynx, ydp, ypl, ykd, ymt, ytd, yht) a r := ow_yo ho h
theorem i_vc_length {k : Nat} {u : SX} {v : SY} (I : i_Rel k u v) (hk : k + 4 ≤ 2049) (v1 : Int32) (v2 : Int32) : wpX_length (fun r => wpY_length (fun r' => r' = r ∧ i_Rel (k + 4) u v) v v1 v2) u v1 v2 := by
  obtain ⟨xlim, xpc, xnd, xwc, xit, xfc, xwt, xan, xlp, xpo, xpb, xwd, xwk, xnk, xco, xcb, xml, xme, xro, xow, xol, xla, xsh, xoe, xoh, xsr, xss, xse, xms, xfm, xfa, xfd, xcv, xcr⟩ := u
  obtain ⟨ylim, ywa, ysk, ylo, yrn, ysp, yaw, yan, ywh, you, ymd, ygd, yop, yops, ybs, ysz, yex, yst, yow, yle, yel, yla, ysh, yro, yos, yoe, yoh, yor, yrw, ynx, ydp, ypl, ykd, ymt, ytd, yht⟩ := v
  obtain ⟨hfc, hit, hL, hP, hM, hO, hT, hW, han, hlp⟩ := I
  have J : i_Rel (k + 4) (xlim, xpc, xnd, xwc, xit, xfc, xwt, xan, xlp, xpo, xpb, xwd, xwk, xnk, xco, xcb, xml, xme, xro, xow, xol, xla, xsh, xoe, xoh, xsr, xss, xse, xms, xfm, xfa, xfd, xcv, xcr) (ylim, ywa, ysk, ylo, yrn, ysp, yaw, yan, ywh, you, ymd, ygd, yop, yops, ybs, ysz, yex, yst, yow, yle, yel, yla, ysh, yro, yos, yoe, yoh, yor, yrw, ynx, ydp, ypl, ykd, ymt, ytd, yht) := ⟨hfc, hit, hL, hP, hM, hO, re_T_up hT (by omega), hW, han, hlp⟩
  unfold wpX_length
  rcases ow_c v1 v2 with ho | ⟨i, j, hi, hj, rfl, rfl⟩
  · refine ow_xrooto _ ho (br_t rfl ?_)
    unfold wpY_length
    exact ow_yrooto _ ho (br_f (by decide) ⟨rfl, J⟩)
  · refine ow_xroot _ hi hj ?_
    rcases rl_rf_c (hO.1 (2 * i + j) (by omega)) with ⟨e1, e2⟩ | ⟨o, ho, e1, e2⟩
    · rw [e1]
      refine br_t rfl ?_
      unfold wpY_length
      refine ow_yroot _ hi hj ?_
      rw [e2]
      exact br_f (by decide) ⟨rfl, J⟩
    · rw [e1]
      refine br_f (nI_ne0 (by omega) (by omega)) ⟨vp_in_nI (by omega) (by omega), ?_⟩
      rw [nI_clamp (by omega)]
      unfold wpY_length
      refine ow_yroot _ hi hj ?_
      rw [e2]
      refine br_t (nI_pos' (by omega)) ⟨vp_in_nI (by omega) (by omega), ?_⟩
      rw [nI_clamp (by omega)]
      exact ⟨(hO.2.1 o ho).2.1.symm, J⟩
theorem i_vc_element {k : Nat} {u : SX} {v : SY} (I : i_Rel k u v) (hk : k + 4 ≤ 2049) (v1 : Int32) (v2 : Int32) (v3 : Int32) : wpX_element (fun r => wpY_element (fun r' => r' = r ∧ i_Rel (k + 4) u v) v v1 v2 v3) u v1 v2 v3 := by
  obtain ⟨xlim, xpc, xnd, xwc, xit, xfc, xwt, xan, xlp, xpo, xpb, xwd, xwk, xnk, xco, xcb, xml, xme, xro, xow, xol, xla, xsh, xoe, xoh, xsr, xss, xse, xms, xfm, xfa, xfd, xcv, xcr⟩ := u
  obtain ⟨ylim, ywa, ysk, ylo, yrn, ysp, yaw, yan, ywh, you, ymd, ygd, yop, yops, ybs, ysz, yex, yst, yow, yle, yel, yla, ysh, yro, yos, yoe, yoh, yor, yrw, ynx, ydp, ypl, ykd, ymt, ytd, yht⟩ := v
  obtain ⟨hfc, hit, hL, hP, hM, hO, hT, hW, han, hlp⟩ := I
  have J : i_Rel (k + 4) (xlim, xpc, xnd, xwc, xit, xfc, xwt, xan, xlp, xpo, xpb, xwd, xwk, xnk, xco, xcb, xml, xme, xro, xow, xol, xla, xsh, xoe, xoh, xsr, xss, xse, xms, xfm, xfa, xfd, xcv, xcr) (ylim, ywa, ysk, ylo, yrn, ysp, yaw, yan, ywh, you, ymd, ygd, yop, yops, ybs, ysz, yex, yst, yow, yle, yel, yla, ysh, yro, yos, yoe, yoh, yor, yrw, ynx, ydp, ypl, ykd, ymt, ytd, yht) := ⟨hfc, hit, hL, hP, hM, hO, re_T_up hT (by omega), hW, han, hlp⟩
  unfold wpX_element
  rcases ow_c v1 v2 with ho | ⟨i, j, hi, hj, rfl, rfl⟩
  · refine ow_xrooto _ ho (br_t rfl ?_)
    unfold wpY_element
    exact ow_yrooto _ ho (br_t (by decide) ⟨rfl, J⟩)
  · refine ow_xroot _ hi hj ?_
    rcases rl_rf_c (hO.1 (2 * i + j) (by omega)) with ⟨e1, e2⟩ | ⟨o, ho, e1, e2⟩
    · rw [e1]
      refine br_t rfl ?_
      unfold wpY_element
      refine ow_yroot _ hi hj ?_
      rw [e2]
      exact br_t (by decide) ⟨rfl, J⟩
    · obtain ⟨a1, a2, a3, a4, a5, a6, a7, ln, hln, eln⟩ := hO.2.1 o ho
      have nz : ¬ nI o < 0 := nI_pos (by omega)
      rw [e1]
      by_cases z : v3 < 0
      · refine br_f (nI_ne0 (by omega) (by omega)) (br_t z ?_)
        unfold wpY_element
        refine ow_yroot _ hi hj ?_
        rw [e2]
        exact br_f nz (br_t z ⟨rfl, J⟩)
      · refine br_f (nI_ne0 (by omega) (by omega)) (br_f z ⟨vp_in_nI (by omega) (by omega), ?_⟩)
        rw [nI_clamp (by omega), a2]
        by_cases y : v3 < yle o
        · obtain ⟨q, hq, rfl⟩ := sb_ix eln hln ⟨z, y⟩
          have e3 : (4 : Int32) * nI (o + 1) + nI q = nI (4 * (o + 1) + q) := pr_4b _ _
          have e4 : (4 : Int32) * nI o + nI q = nI (4 * o + q) := pr_4b _ _
          rw [e3, nI_clamp (by omega)]
          refine br_t y ⟨vp_in_nI (by omega) (by omega), ?_⟩
          unfold wpY_element
          refine ow_yroot _ hi hj ?_
          rw [e2]
          refine br_f nz (br_f z ⟨vp_in_nI (by omega) (by omega), ?_⟩)
          rw [nI_clamp (by omega), e4, nI_clamp (by omega)]
          refine br_t y ⟨vp_in_nI (by omega) (by omega), ?_, J⟩
          rw [show 4 * (o + 1) + q = 4 + (4 * o + q) by omega]
          exact (hO.2.2 (4 * o + q) (by omega)).1.symm
        · refine br_f y ?_
          unfold wpY_element
          refine ow_yroot _ hi hj ?_
          rw [e2]
          refine br_f nz (br_f z ⟨vp_in_nI (by omega) (by omega), ?_⟩)
          rw [nI_clamp (by omega)]
          exact br_f y ⟨rfl, J⟩
theorem ow_tr (a : Nat) (ha : a < 3) : ∀ x y : Int32, ((4 : Int32) * nI a + x) + y = (nI a * 4 + x) + y := fun x y => by
  rw [show (4 : Int32) * nI a = nI (4 * a) from pk_mul 4 a, show nI a * 4 = nI (a * 4) from pk_mul a 4, Nat.mul_comm]
theorem i_vc_traits {k : Nat} {u : SX} {v : SY} (I : i_Rel k u v) (hk : k + 4 ≤ 2049) (v1 : Int32) (v2 : Int32) : wpX_traits (fun r => wpY_traits (fun r' => r' = r ∧ i_Rel (k + 4) u v) v v1 v2) u v1 v2 := by
  obtain ⟨xlim, xpc, xnd, xwc, xit, xfc, xwt, xan, xlp, xpo, xpb, xwd, xwk, xnk, xco, xcb, xml, xme, xro, xow, xol, xla, xsh, xoe, xoh, xsr, xss, xse, xms, xfm, xfa, xfd, xcv, xcr⟩ := u
  obtain ⟨ylim, ywa, ysk, ylo, yrn, ysp, yaw, yan, ywh, you, ymd, ygd, yop, yops, ybs, ysz, yex, yst, yow, yle, yel, yla, ysh, yro, yos, yoe, yoh, yor, yrw, ynx, ydp, ypl, ykd, ymt, ytd, yht⟩ := v
  obtain ⟨hfc, hit, hL, hP, hM, hO, hT, hW, han, hlp⟩ := I
  have J : i_Rel (k + 4) (xlim, xpc, xnd, xwc, xit, xfc, xwt, xan, xlp, xpo, xpb, xwd, xwk, xnk, xco, xcb, xml, xme, xro, xow, xol, xla, xsh, xoe, xoh, xsr, xss, xse, xms, xfm, xfa, xfd, xcv, xcr) (ylim, ywa, ysk, ylo, yrn, ysp, yaw, yan, ywh, you, ymd, ygd, yop, yops, ybs, ysz, yex, yst, yow, yle, yel, yla, ysh, yro, yos, yoe, yoh, yor, yrw, ynx, ydp, ypl, ykd, ymt, ytd, yht) := ⟨hfc, hit, hL, hP, hM, hO, re_T_up hT (by omega), hW, han, hlp⟩
  unfold wpX_traits
  rcases ow_c v1 v2 with ho | ⟨i, j, hi, hj, rfl, rfl⟩
  · refine ow_xrooto _ ho (br_t rfl ?_)
    unfold wpY_traits
    exact ow_yrooto _ ho (br_f (by decide) ⟨rfl, J⟩)
  · refine ow_xroot _ hi hj ?_
    rcases rl_rf_c (hO.1 (2 * i + j) (by omega)) with ⟨e1, e2⟩ | ⟨o, ho, e1, e2⟩
    · rw [e1]
      refine br_t rfl ?_
      unfold wpY_traits
      refine ow_yroot _ hi hj ?_
      rw [e2]
      exact br_f (by decide) ⟨rfl, J⟩
    · obtain ⟨a1, a2, a3, a4, a5, a6, ⟨a, ha, ea⟩, a8⟩ := hO.2.1 o ho
      have c1 : (nI (o + 1)).toNatClampNeg = o + 1 := nI_clamp (by omega)
      have c0 : (nI o).toNatClampNeg = o := nI_clamp (by omega)
      have w1 : vp_in (nI (o + 1)) 9 := vp_in_nI (by omega) (by omega)
      have w0 : vp_in (nI o) 8 := vp_in_nI (by omega) (by omega)
      have y37 : ∀ z r : Int32, (ysh o = 0 → (yow o * 4 + z) + 0 = r) → (¬ ysh o = 0 → (yow o * 4 + z) + 1 = r) → wY_traits_37 (fun r' => r' = r ∧ i_Rel (k + 4) (xlim, xpc, xnd, xwc, xit, xfc, xwt, xan, xlp, xpo, xpb, xwd, xwk, xnk, xco, xcb, xml, xme, xro, xow, xol, xla, xsh, xoe, xoh, xsr, xss, xse, xms, xfm, xfa, xfd, xcv, xcr) (ylim, ywa, ysk, ylo, yrn, ysp, yaw, yan, ywh, you, ymd, ygd, yop, yops, ybs, ysz, yex, yst, yow, yle, yel, yla, ysh, yro, yos, yoe, yoh, yor, yrw, ynx, ydp, ypl, ykd, ymt, ytd, yht)) (nI o) z (yow o * 4) ylim ywa ysk ylo yrn ysp yaw yan ywh you ymd ygd yop yops ybs ysz yex yst yow yle yel yla ysh yro yos yoe yoh yor yrw ynx ydp ypl ykd ymt ytd yht := fun z r q1 q2 => by
        refine ⟨w0, ?_⟩
        rw [c0]
        exact br_c (fun q => ⟨q1 q, J⟩) (fun q => ⟨q2 q, J⟩)
      have yall : ∀ r : Int32, (yla o = 0 → ysh o = 0 → (yow o * 4 + 0) + 0 = r) → (yla o = 0 → ¬ ysh o = 0 → (yow o * 4 + 0) + 1 = r) → (¬ yla o = 0 → ysh o = 0 → (yow o * 4 + 2) + 0 = r) → (¬ yla o = 0 → ¬ ysh o = 0 → (yow o * 4 + 2) + 1 = r) → wpY_traits (fun r' => r' = r ∧ i_Rel (k + 4) (xlim, xpc, xnd, xwc, xit, xfc, xwt, xan, xlp, xpo, xpb, xwd, xwk, xnk, xco, xcb, xml, xme, xro, xow, xol, xla, xsh, xoe, xoh, xsr, xss, xse, xms, xfm, xfa, xfd, xcv, xcr) (ylim, ywa, ysk, ylo, yrn, ysp, yaw, yan, ywh, you, ymd, ygd, yop, yops, ybs, ysz, yex, yst, yow, yle, yel, yla, ysh, yro, yos, yoe, yoh, yor, yrw, ynx, ydp, ypl, ykd, ymt, ytd, yht)) (ylim, ywa, ysk, ylo, yrn, ysp, yaw, yan, ywh, you, ymd, ygd, yop, yops, ybs, ysz, yex, yst, yow, yle, yel, yla, ysh, yro, yos, yoe, yoh, yor, yrw, ynx, ydp, ypl, ykd, ymt, ytd, yht) (nI i) (nI j) := fun r q1 q2 q3 q4 => by
        unfold wpY_traits
        refine ow_yroot _ hi hj ?_
        rw [e2]
        refine br_t (nI_pos' (by omega)) ⟨w0, w0, ?_⟩
        rw [c0]
        exact br_c (fun q => y37 0 r (q1 q) (q2 q)) (fun q => y37 2 r (q3 q) (q4 q))
      have x27 : ∀ z : Int32, (∀ s : Int32, (ysh o = 0 ∧ s = 0) ∨ (¬ ysh o = 0 ∧ s = 1) → wpY_traits (fun r' => r' = ((4 : Int32) * yow o + z) + s ∧ i_Rel (k + 4) (xlim, xpc, xnd, xwc, xit, xfc, xwt, xan, xlp, xpo, xpb, xwd, xwk, xnk, xco, xcb, xml, xme, xro, xow, xol, xla, xsh, xoe, xoh, xsr, xss, xse, xms, xfm, xfa, xfd, xcv, xcr) (ylim, ywa, ysk, ylo, yrn, ysp, yaw, yan, ywh, you, ymd, ygd, yop, yops, ybs, ysz, yex, yst, yow, yle, yel, yla, ysh, yro, yos, yoe, yoh, yor, yrw, ynx, ydp, ypl, ykd, ymt, ytd, yht)) (ylim, ywa, ysk, ylo, yrn, ysp, yaw, yan, ywh, you, ymd, ygd, yop, yops, ybs, ysz, yex, yst, yow, yle, yel, yla, ysh, yro, yos, yoe, yoh, yor, yrw, ynx, ydp, ypl, ykd, ymt, ytd, yht) (nI i) (nI j)) → wX_traits_27 (fun r => wpY_traits (fun r' => r' = r ∧ i_Rel (k + 4) (xlim, xpc, xnd, xwc, xit, xfc, xwt, xan, xlp, xpo, xpb, xwd, xwk, xnk, xco, xcb, xml, xme, xro, xow, xol, xla, xsh, xoe, xoh, xsr, xss, xse, xms, xfm, xfa, xfd, xcv, xcr) (ylim, ywa, ysk, ylo, yrn, ysp, yaw, yan, ywh, you, ymd, ygd, yop, yops, ybs, ysz, yex, yst, yow, yle, yel, yla, ysh, yro, yos, yoe, yoh, yor, yrw, ynx, ydp, ypl, ykd, ymt, ytd, yht)) (ylim, ywa, ysk, ylo, yrn, ysp, yaw, yan, ywh, you, ymd, ygd, yop, yops, ybs, ysz, yex, yst, yow, yle, yel, yla, ysh, yro, yos, yoe, yoh, yor, yrw, ynx, ydp, ypl, ykd, ymt, ytd, yht) (nI i) (nI j)) (nI (o + 1)) z xlim xpc xnd xwc xit xfc xwt xan xlp xpo xpb xwd xwk xnk xco xcb xml xme xro xow xol xla xsh xoe xoh xsr xss xse xms xfm xfa xfd xcv xcr := fun z hq => by
        refine ⟨w1, ?_⟩
        rw [c1, a4]
        refine br_c (fun q => ⟨w1, ?_⟩) (fun q => ⟨w1, ?_⟩)
        · rw [c1, a1]
          exact hq 0 (Or.inl ⟨q, rfl⟩)
        · rw [c1, a1]
          exact hq 1 (Or.inr ⟨q, rfl⟩)
      rw [e1]
      refine br_f (nI_ne0 (by omega) (by omega)) ⟨w1, ?_⟩
      rw [c1, a3]
      refine br_c (fun z => x27 0 (fun s hs => yall _ (fun _ q => ?_) (fun _ q => ?_) (fun w => absurd z w) (fun w => absurd z w))) (fun z => x27 2 (fun s hs => yall _ (fun w => absurd w z) (fun w => absurd w z) (fun _ q => ?_) (fun _ q => ?_)))
      all_goals (rw [ea, ow_tr a ha]; rcases hs with ⟨h1, rfl⟩ | ⟨h1, rfl⟩)
      all_goals first | rfl | exact absurd q h1 | exact absurd h1 q
theorem i_vc_same {k : Nat} {u : SX} {v : SY} (I : i_Rel k u v) (hk : k + 4 ≤ 2049) (v1 : Int32) (v2 : Int32) : wpX_same (fun r => wpY_same (fun r' => r' = r ∧ i_Rel (k + 4) u v) v v1 v2) u v1 v2 := by
  obtain ⟨xlim, xpc, xnd, xwc, xit, xfc, xwt, xan, xlp, xpo, xpb, xwd, xwk, xnk, xco, xcb, xml, xme, xro, xow, xol, xla, xsh, xoe, xoh, xsr, xss, xse, xms, xfm, xfa, xfd, xcv, xcr⟩ := u
  obtain ⟨ylim, ywa, ysk, ylo, yrn, ysp, yaw, yan, ywh, you, ymd, ygd, yop, yops, ybs, ysz, yex, yst, yow, yle, yel, yla, ysh, yro, yos, yoe, yoh, yor, yrw, ynx, ydp, ypl, ykd, ymt, ytd, yht⟩ := v
  obtain ⟨hfc, hit, hL, hP, hM, hO, hT, hW, han, hlp⟩ := I
  have J : i_Rel (k + 4) (xlim, xpc, xnd, xwc, xit, xfc, xwt, xan, xlp, xpo, xpb, xwd, xwk, xnk, xco, xcb, xml, xme, xro, xow, xol, xla, xsh, xoe, xoh, xsr, xss, xse, xms, xfm, xfa, xfd, xcv, xcr) (ylim, ywa, ysk, ylo, yrn, ysp, yaw, yan, ywh, you, ymd, ygd, yop, yops, ybs, ysz, yex, yst, yow, yle, yel, yla, ysh, yro, yos, yoe, yoh, yor, yrw, ynx, ydp, ypl, ykd, ymt, ytd, yht) := ⟨hfc, hit, hL, hP, hM, hO, re_T_up hT (by omega), hW, han, hlp⟩
  rcases pk_ix v1 (n := 6) (by omega) with h | h | ⟨i, hi, rfl⟩
  · exact br_t h (br_t h ⟨rfl, J⟩)
  · have h' : ¬ v1 < 0 := fun z => absurd (Int32.le_trans (a := 0) (by decide) h) (Int32.not_le.mpr z)
    exact br_f h' (br_t h (br_f h' (br_t h ⟨rfl, J⟩)))
  · have p1 : ¬ nI i < 0 := nI_pos (by omega)
    have p2 : ¬ (6 : Int32) ≤ nI i := nI_ge (b := 6) hi (by decide)
    rcases pk_ix v2 (n := 6) (by omega) with h | h | ⟨j, hj, rfl⟩
    · exact br_f p1 (br_f p2 (br_t h (br_f p1 (br_f p2 (br_t h ⟨rfl, J⟩)))))
    · have h' : ¬ v2 < 0 := fun z => absurd (Int32.le_trans (a := 0) (by decide) h) (Int32.not_le.mpr z)
      exact br_f p1 (br_f p2 (br_f h' (br_f (Int32.not_lt.mpr h) (br_f p1 (br_f p2 (br_f h' (br_t h ⟨rfl, J⟩)))))))
    · have q1 : ¬ nI j < 0 := nI_pos (by omega)
      have q2 : ¬ (6 : Int32) ≤ nI j := nI_ge (b := 6) hj (by decide)
      have c1 : (nI i).toNatClampNeg = i := nI_clamp (by omega)
      have c2 : (nI j).toNatClampNeg = j := nI_clamp (by omega)
      have w1 : vp_in (nI i) 6 := vp_in_nI (by omega) (by omega)
      have w2 : vp_in (nI j) 6 := vp_in_nI (by omega) (by omega)
      have yy : ∀ r : Int32, (yro i < 0 → (0 : Int32) = r) → (¬ yro i < 0 → yro i = yro j → (1 : Int32) = r) → (¬ yro i < 0 → ¬ yro i = yro j → (0 : Int32) = r) → wpY_same (fun r' => r' = r ∧ i_Rel (k + 4) (xlim, xpc, xnd, xwc, xit, xfc, xwt, xan, xlp, xpo, xpb, xwd, xwk, xnk, xco, xcb, xml, xme, xro, xow, xol, xla, xsh, xoe, xoh, xsr, xss, xse, xms, xfm, xfa, xfd, xcv, xcr) (ylim, ywa, ysk, ylo, yrn, ysp, yaw, yan, ywh, you, ymd, ygd, yop, yops, ybs, ysz, yex, yst, yow, yle, yel, yla, ysh, yro, yos, yoe, yoh, yor, yrw, ynx, ydp, ypl, ykd, ymt, ytd, yht)) (ylim, ywa, ysk, ylo, yrn, ysp, yaw, yan, ywh, you, ymd, ygd, yop, yops, ybs, ysz, yex, yst, yow, yle, yel, yla, ysh, yro, yos, yoe, yoh, yor, yrw, ynx, ydp, ypl, ykd, ymt, ytd, yht) (nI i) (nI j) := fun r g1 g2 g3 => by
        refine br_f p1 (br_f p2 (br_f q1 (br_f q2 ⟨w1, ?_⟩)))
        rw [c1]
        refine br_c (fun z => ⟨g1 z, J⟩) (fun z => ⟨w1, w2, ?_⟩)
        rw [c2]
        exact br_c (fun y => ⟨g2 z y, J⟩) (fun y => ⟨g3 z y, J⟩)
      refine br_f p1 (br_f p2 (br_f q1 (br_t (nI_lt (b := 6) hj (by decide)) ⟨w1, ?_⟩)))
      rw [c1]
      rcases rl_rf_c (hO.1 i hi) with ⟨e1, e2⟩ | ⟨o, ho, e1, e2⟩
      · have n1 : yro i < 0 := by rw [e2]; decide
        exact br_t e1 (yy 0 (fun _ => rfl) (fun z => absurd n1 z) (fun z => absurd n1 z))
      · have n1 : ¬ yro i < 0 := by rw [e2]; exact nI_pos (by omega)
        have e3 : xro i = xro j ↔ yro i = yro j := by
          rw [e1, e2]
          exact ⟨fun z => ((sn_rf (hO.1 j hj) ho).mp z.symm).symm, fun z => ((sn_rf (hO.1 j hj) ho).mpr z.symm).symm⟩
        refine br_f (by rw [e1]; exact nI_ne0 (by omega) (by omega)) ⟨w1, w2, ?_⟩
        rw [c2]
        exact br_c (fun z => yy 1 (fun q => absurd q n1) (fun _ _ => rfl) (fun _ q => absurd (e3.mp z) q)) (fun z => yy 0 (fun q => absurd q n1) (fun _ q => absurd (e3.mpr q) z) (fun _ _ => rfl))
theorem i_vc_held {k : Nat} {u : SX} {v : SY} (I : i_Rel k u v) (hk : k + 4 ≤ 2049) : wpX_held (fun r u' => wpY_held (fun r' => r' = r ∧ i_Rel (k + 4) u' v) v) u := by
  obtain ⟨xlim, xpc, xnd, xwc, xit, xfc, xwt, xan, xlp, xpo, xpb, xwd, xwk, xnk, xco, xcb, xml, xme, xro, xow, xol, xla, xsh, xoe, xoh, xsr, xss, xse, xms, xfm, xfa, xfd, xcv, xcr⟩ := u
  obtain ⟨ylim, ywa, ysk, ylo, yrn, ysp, yaw, yan, ywh, you, ymd, ygd, yop, yops, ybs, ysz, yex, yst, yow, yle, yel, yla, ysh, yro, yos, yoe, yoh, yor, yrw, ynx, ydp, ypl, ykd, ymt, ytd, yht⟩ := v
  obtain ⟨hfc, hit, hL, hP, hM, hO, hT, hW, han, hlp⟩ := I
  obtain ⟨oh, hoh, hcount⟩ := he_count (xlim := xlim) (xpc := xpc) (xnd := xnd) (xwc := xwc) (xit := xit) (xfc := xfc) (xwt := xwt) (xan := xan) (xlp := xlp) (xpo := xpo) (xpb := xpb) (xwd := xwd) (xwk := xwk) (xnk := xnk) (xco := xco) (xcb := xcb) (xml := xml) (xme := xme) (xro := xro) (xow := xow) (xol := xol) (xla := xla) (xsh := xsh) (xoe := xoe) (xoh := xoh) (xsr := xsr) (xss := xss) (xse := xse) (xms := xms) (xfm := xfm) (xfa := xfa) (xfd := xfd) (xcv := xcv) (xcr := xcr) (T := 0) (by omega) hfc (fun r hr => by
    obtain ⟨o, ho, e, _⟩ := hO.1 r hr
    exact ⟨o, ho, e⟩) (fun w => absurd hit w) (fun g hg => absurd hg (by omega))
  have hiff : ∀ o, o < 8 → ((oh (o + 1)).toNatClampNeg = 0 ∨ (oh (o + 1)).toNatClampNeg = 1) ∧ ((oh (o + 1)).toNatClampNeg = 1 ↔ ∃ r, r < 6 ∧ yro r = nI o) := fun o ho => by
    obtain ⟨h01, h1⟩ := hoh (o + 1) (by omega)
    have key : oh (o + 1) = 1 ↔ ∃ r, r < 6 ∧ yro r = nI o := by
      refine h1.trans ⟨fun z => ?_, fun z => ?_⟩
      · rcases z with ⟨r, hr, q | q⟩ | ⟨g, hg, _⟩
        · exact ⟨r, hr, (sn_rf (hO.1 r hr) ho).mp q⟩
        · exact absurd hit q.1
        · exact absurd hg (by omega)
      · obtain ⟨r, hr, q⟩ := z
        exact Or.inl ⟨r, hr, Or.inl ((sn_rf (hO.1 r hr) ho).mpr q)⟩
    rw [← key]
    rcases h01 with q | q
    · rw [q]
      exact ⟨Or.inl (by decide), by decide⟩
    · rw [q]
      exact ⟨Or.inr (by decide), by decide⟩
  unfold wpX_held
  exact hcount _ (he_held _ hiff ⟨rfl, ⟨hfc, hit, hL, hP, hM, hO, re_T_up hT (by omega), hW, han, hlp⟩⟩)
end OW
end
section
/-! PUT, INSTALL, RUN -/
section OP
variable {xlim xpc xnd xwc xit xfc xwt xan xlp : Int32}
variable {xpo xpb xwd xwk xnk xco xcb xml xme xro xow xol xla xsh xoe xoh xsr xss xse xms xfm xfa xfd xcv xcr : Nat → Int32}
variable {ylim ywa ysk ylo yrn ysp yaw yan ywh you ygd yop : Int32}
variable {ymd : Int64}
variable {yops ybs ysz yex yow yle yel yla ysh yro yoe yoh yor yrw ynx ydp ypl ykd ymt ytd yht : Nat → Int32}
variable {yst yos : Nat → Int64}
theorem op_cg {op b op' b' : Nat → Nat} {n : Nat} (h : ck_good op b n) (e : ∀ k, k < n → op' k = op k ∧ b' k = b k) : ck_good op' b' n := by
  obtain ⟨M, h0, hc, hu⟩ := h
  refine ⟨M, h0, fun k d f hM => ?_, hu⟩
  obtain ⟨h1, h2, h3, h4⟩ := hc k d f hM
  obtain ⟨e1, e2⟩ := e k h1
  rw [e1, e2]
  exact ⟨h1, h2, h3, h4⟩
theorem op_M {ops' bs' sz' : Nat → Int32} (h : rl_M xco xcb xml xme yops ybs ysz yex) (h1 : ∀ i, i < 96 → ops' i = yops i ∧ bs' i = ybs i) (h2 : ∀ m, m < 6 → sz' m = ysz m) : rl_M xco xcb xml xme ops' bs' sz' yex := by
  intro m hm
  obtain ⟨n, a1, a2, a3, a4, a5, a6, a7⟩ := h m hm
  refine ⟨n, a1, a2, by rw [h2 m hm]; exact a3, a4, a5, fun k hk => ?_, fun z => ?_⟩
  · rw [(h1 _ (by omega)).1, (h1 _ (by omega)).2]
    exact a6 k hk
  · obtain ⟨b1, b2, b3⟩ := a7 z
    refine ⟨b1, fun k hk => ?_, op_cg b3 (fun k hk => ?_)⟩
    · rw [(h1 _ (by omega)).1, (h1 _ (by omega)).2]
      exact b2 k hk
    · unfold rl_nn
      rw [(h1 (16 * m + k) (by omega)).1, (h1 (16 * m + k) (by omega)).2]
      exact ⟨rfl, rfl⟩
theorem op_byte : ∀ o, o < 25 → vp_nar .byte (nI o).toInt8.toInt32 = nI o ∧ vp_nar .byte (nI o) = nI o := by
  intro o ho
  have h : (nI o).toInt8.toInt32 = nI o := by
    have : ∀ q, q < 25 → (nI q).toInt8.toInt32 = nI q := by decide +kernel
    exact this o ho
  rw [vp_nar_byte, vp_nar_byte, h]
  exact ⟨h, rfl⟩
theorem op_24 {x : Int32} (h0 : ¬ x < 0) (h1 : ¬ 24 < x) : ∃ o, o < 25 ∧ x = nI o := by
  obtain ⟨o, ho, rfl⟩ := nI_of h0
  refine ⟨o, ?_, rfl⟩
  rcases Nat.lt_or_ge o 25 with q | q
  · exact q
  · exact absurd (nI_lt (a := 24) (by omega) ho) h1
theorem i_vc_put {k : Nat} {u : SX} {v : SY} (I : i_Rel k u v) (hk : k + 4 ≤ 2049) (v1 : Int32) (v2 : Int32) : wpX_put (fun r u' => wpY_put (fun r' v' => r' = r ∧ i_Rel (k + 4) u' v') v v1 v2) u v1 v2 := by
  obtain ⟨xlim, xpc, xnd, xwc, xit, xfc, xwt, xan, xlp, xpo, xpb, xwd, xwk, xnk, xco, xcb, xml, xme, xro, xow, xol, xla, xsh, xoe, xoh, xsr, xss, xse, xms, xfm, xfa, xfd, xcv, xcr⟩ := u
  obtain ⟨ylim, ywa, ysk, ylo, yrn, ysp, yaw, yan, ywh, you, ymd, ygd, yop, yops, ybs, ysz, yex, yst, yow, yle, yel, yla, ysh, yro, yos, yoe, yoh, yor, yrw, ynx, ydp, ypl, ykd, ymt, ytd, yht⟩ := v
  obtain ⟨hfc, hit, hL, hP, hM, hO, hT, hW, han, hlp⟩ := I
  have J : i_Rel (k + 4) (xlim, xpc, xnd, xwc, xit, xfc, xwt, xan, xlp, xpo, xpb, xwd, xwk, xnk, xco, xcb, xml, xme, xro, xow, xol, xla, xsh, xoe, xoh, xsr, xss, xse, xms, xfm, xfa, xfd, xcv, xcr) (ylim, ywa, ysk, ylo, yrn, ysp, yaw, yan, ywh, you, ymd, ygd, yop, yops, ybs, ysz, yex, yst, yow, yle, yel, yla, ysh, yro, yos, yoe, yoh, yor, yrw, ynx, ydp, ypl, ykd, ymt, ytd, yht) := ⟨hfc, hit, hL, hP, hM, hO, re_T_up hT (by omega), hW, han, hlp⟩
  by_cases h0 : v1 < 0
  · exact br_t h0 (br_t h0 ⟨rfl, J⟩)
  · by_cases h1 : 24 < v1
    · exact br_f h0 (br_t h1 (br_f h0 (br_t h1 ⟨rfl, J⟩)))
    · obtain ⟨o, ho, rfl⟩ := op_24 h0 h1
      obtain ⟨p, hp, e1, e2, h⟩ := hP
      subst e1
      by_cases z : p < 16
      · have e3 : ((96 : Int32) + nI p).toNatClampNeg = 96 + p := pk_cl (96 + p) (nI_add 96 p)
        have w : vp_in ((96 : Int32) + nI p) 112 := pk_in (96 + p) 112 (by omega) (nI_add 96 p)
        have c0 : (nI p).toNatClampNeg = p := nI_clamp (by omega)
        have n16 : ¬ ysz 6 = 16 := by
          rw [e2]
          exact fun q => absurd ((nI_eq (b := 16) (by omega) (by decide)).mp q) (by omega)
        have hP' : rl_P (upd xpo p (nI o)) (upd xpb p v2) (nI (p + 1)) (upd yops (96 + p) (nI o)) (upd ybs (96 + p) v2) (upd ysz 6 (nI (p + 1))) := by
          refine ⟨p + 1, by omega, rfl, pk_us, fun i hi => ?_⟩
          by_cases q : i = p
          · subst q
            rw [pk_us, pk_us, pk_us, pk_us]
            exact ⟨rfl, rfl, o, ho, rfl⟩
          · rw [pk_un q, pk_un q, pk_un (by omega), pk_un (by omega)]
            exact h i (by omega)
        have hM' : rl_M xco xcb xml xme (upd yops (96 + p) (nI o)) (upd ybs (96 + p) v2) (upd ysz 6 (nI (p + 1))) yex := op_M hM (fun i hi => ⟨pk_un (by omega), pk_un (by omega)⟩) (fun m hm => pk_un (by omega))
        refine br_f h0 (br_f h1 (br_t (nI_lt (b := 16) z (by decide)) ⟨vp_in_nI z (by omega), nm_r (by rw [c0]) ⟨vp_in_nI z (by omega), nm_r (by rw [c0]) (nm_r (nI_1 p) (br_f h0 (br_f h1 (br_f n16 ?_))))⟩⟩))
        rw [e2]
        refine ⟨w, nm_r (by rw [e3, (op_byte o ho).1]) (nm_r (by rw [nI_1]) ⟨w, nm_r (by rw [e3]) ⟨pk_us, ⟨hfc, hit, hL, hP', hM', hO, re_T_up hT (by omega), hW, han, hlp⟩⟩⟩)⟩
      · obtain rfl : p = 16 := by omega
        exact br_f h0 (br_f h1 (br_f (by decide) (br_f h0 (br_f h1 (br_t e2 ⟨rfl, J⟩)))))
/-! install -/
theorem op_x57 (P : Int32 → SX → Prop) {r p : Nat} {e3 : Int32} (hr : r < 6) (hp : p ≤ 16) (he : rl_b e3) (h : P (nI p) (xlim, xpc, xnd, xwc, xit, xfc, xwt, xan, xlp, xpo, xpb, xwd, xwk, xnk, lo_f (fun i => xpo (i - 16 * r)) (16 * r) (16 * r + p) xco, lo_f (fun i => xpb (i - 16 * r)) (16 * r) (16 * r + p) xcb, upd xml r (nI p), upd xme r e3, xro, xow, xol, xla, xsh, xoe, xoh, xsr, xss, xse, xms, xfm, xfa, xfd, xcv, xcr)) : ∃ n, wX_install_57 P e3 (nI p) (nI r) xlim xpc xnd xwc xit xfc xwt xan xlp n 0 xpo xpb xwd xwk xnk xco xcb xml xme xro xow xol xla xsh xoe xoh xsr xss xse xms xfm xfa xfd xcv xcr := by
  have c0 : (nI r).toNatClampNeg = r := nI_clamp (by omega)
  have w0 : vp_in (nI r) 6 := vp_in_nI hr (by omega)
  have key : ∀ e c m co cb, c + e = p → e < m → P (nI p) (xlim, xpc, xnd, xwc, xit, xfc, xwt, xan, xlp, xpo, xpb, xwd, xwk, xnk, lo_f (fun i => xpo (i - 16 * r)) (16 * r + c) (16 * r + p) co, lo_f (fun i => xpb (i - 16 * r)) (16 * r + c) (16 * r + p) cb, upd xml r (nI p), upd xme r e3, xro, xow, xol, xla, xsh, xoe, xoh, xsr, xss, xse, xms, xfm, xfa, xfd, xcv, xcr) → wX_install_57 P e3 (nI p) (nI r) xlim xpc xnd xwc xit xfc xwt xan xlp m (nI c) xpo xpb xwd xwk xnk co cb xml xme xro xow xol xla xsh xoe xoh xsr xss xse xms xfm xfa xfd xcv xcr := by
    intro e
    induction e with
    | zero =>
      intro c m co cb hc hm hq
      obtain ⟨m, rfl⟩ : ∃ q, m = q + 1 := ⟨m - 1, by omega⟩
      obtain rfl : c = p := by omega
      rw [lo_e, lo_e] at hq
      exact br_t (nI_le (Nat.le_refl _) (by omega)) ⟨w0, nm_r (by rw [c0]) ⟨w0, nm_r (by rw [c0, rl_b_n he]) hq⟩⟩
    | succ e ih =>
      intro c m co cb hc hm hq
      obtain ⟨m, rfl⟩ : ∃ q, m = q + 1 := ⟨m - 1, by omega⟩
      have c1 : (nI c).toNatClampNeg = c := nI_clamp (by omega)
      have w1 : vp_in (nI c) 16 := vp_in_nI (by omega) (by omega)
      have c2 : ((16 : Int32) * nI r + nI c).toNatClampNeg = 16 * r + c := pk_cl _ (pr_16 r c)
      have w2 : vp_in ((16 : Int32) * nI r + nI c) 96 := pk_in (16 * r + c) 96 (by omega) (pr_16 r c)
      have s1 : 16 * r + c - 16 * r = c := by omega
      rw [← lo_s (val := fun i => xpo (i - 16 * r)) (by omega), ← lo_s (val := fun i => xpb (i - 16 * r)) (by omega)] at hq
      refine br_f (nI_ge (by omega) (by omega)) ⟨w1, w2, nm_r (e' := upd co (16 * r + c) (xpo (16 * r + c - 16 * r))) (by rw [c1, c2, s1]) ⟨w1, w2, nm_r (e' := upd cb (16 * r + c) (xpb (16 * r + c - 16 * r))) (by rw [c1, c2, s1]) (nm_r (nI_1 c) (ih (c + 1) m _ _ (by omega) (by omega) hq))⟩⟩
  exact ⟨p + 1, key p 0 (p + 1) xco xcb (by omega) (by omega) h⟩
theorem op_y64 (P : Int32 → SY → Prop) {r p : Nat} {e3 : Int32} (hr : r < 6) (hp : p ≤ 16) (he : rl_b e3) (hop : ∀ k, k < p → ∃ o, o < 25 ∧ yops (96 + k) = nI o) (h : P (nI p) (ylim, ywa, ysk, ylo, yrn, ysp, yaw, yan, ywh, you, ymd, ygd, yop, lo_f (fun i => yops (96 + (i - 16 * r))) (16 * r) (16 * r + p) yops, lo_f (fun i => ybs (96 + (i - 16 * r))) (16 * r) (16 * r + p) ybs, upd ysz r (nI p), upd yex r e3, yst, yow, yle, yel, yla, ysh, yro, yos, yoe, yoh, yor, yrw, ynx, ydp, ypl, ykd, ymt, ytd, yht)) : ∃ n, wY_install_64 P e3 (nI p) (nI r) ylim ywa ysk ylo yrn ysp yaw yan ywh you ymd ygd yop n 0 yops ybs ysz yex yst yow yle yel yla ysh yro yos yoe yoh yor yrw ynx ydp ypl ykd ymt ytd yht := by
  have c0 : (nI r).toNatClampNeg = r := nI_clamp (by omega)
  have w0 : vp_in (nI r) 6 := vp_in_nI hr (by omega)
  have w7 : vp_in (nI r) 7 := vp_in_nI (by omega) (by omega)
  have key : ∀ e c m ops bs, c + e = p → e < m → (∀ j, ops (96 + j) = yops (96 + j)) → (∀ j, bs (96 + j) = ybs (96 + j)) → P (nI p) (ylim, ywa, ysk, ylo, yrn, ysp, yaw, yan, ywh, you, ymd, ygd, yop, lo_f (fun i => yops (96 + (i - 16 * r))) (16 * r + c) (16 * r + p) ops, lo_f (fun i => ybs (96 + (i - 16 * r))) (16 * r + c) (16 * r + p) bs, upd ysz r (nI p), upd yex r e3, yst, yow, yle, yel, yla, ysh, yro, yos, yoe, yoh, yor, yrw, ynx, ydp, ypl, ykd, ymt, ytd, yht) → wY_install_64 P e3 (nI p) (nI r) ylim ywa ysk ylo yrn ysp yaw yan ywh you ymd ygd yop m (nI c) ops bs ysz yex yst yow yle yel yla ysh yro yos yoe yoh yor yrw ynx ydp ypl ykd ymt ytd yht := by
    intro e
    induction e with
    | zero =>
      intro c m ops bs hc hm i1 i2 hq
      obtain ⟨m, rfl⟩ : ∃ q, m = q + 1 := ⟨m - 1, by omega⟩
      obtain rfl : c = p := by omega
      rw [lo_e, lo_e] at hq
      exact br_t (nI_le (Nat.le_refl _) (by omega)) ⟨w7, nm_r (by rw [c0]) ⟨w0, nm_r (by rw [c0, rl_b_n he]) hq⟩⟩
    | succ e ih =>
      intro c m ops bs hc hm i1 i2 hq
      obtain ⟨m, rfl⟩ : ∃ q, m = q + 1 := ⟨m - 1, by omega⟩
      have c1 : ((96 : Int32) + nI c).toNatClampNeg = 96 + c := pk_cl (96 + c) (nI_add 96 c)
      have w1 : vp_in ((96 : Int32) + nI c) 112 := pk_in (96 + c) 112 (by omega) (nI_add 96 c)
      have c2 : ((16 : Int32) * nI r + nI c).toNatClampNeg = 16 * r + c := pk_cl _ (pr_16 r c)
      have w2 : vp_in ((16 : Int32) * nI r + nI c) 112 := pk_in (16 * r + c) 112 (by omega) (pr_16 r c)
      have s1 : 16 * r + c - 16 * r = c := by omega
      obtain ⟨o, ho, eo⟩ := hop c (by omega)
      rw [← lo_s (val := fun i => yops (96 + (i - 16 * r))) (by omega), ← lo_s (val := fun i => ybs (96 + (i - 16 * r))) (by omega)] at hq
      refine br_f (nI_ge (by omega) (by omega)) ⟨w1, w2, nm_r (e' := upd ops (16 * r + c) (yops (96 + (16 * r + c - 16 * r)))) (by rw [c1, c2, s1, i1, eo, (op_byte o ho).2]) ⟨w1, w2, nm_r (e' := upd bs (16 * r + c) (ybs (96 + (16 * r + c - 16 * r)))) (by rw [c1, c2, s1, i2]) (nm_r (nI_1 c) (ih (c + 1) m _ _ (by omega) (by omega) (fun j => ?_) (fun j => ?_) hq))⟩⟩
      · rw [pk_un (by omega)]
        exact i1 j
      · rw [pk_un (by omega)]
        exact i2 j
  exact ⟨p + 1, key p 0 (p + 1) yops ybs (by omega) (by omega) (fun _ => rfl) (fun _ => rfl) h⟩
/-- the relation after a code was taken in -/
theorem op_newM {r p : Nat} {e3 : Int32} (hr : r < 6) (hp : p ≤ 16) (he : rl_b e3) (hM : rl_M xco xcb xml xme yops ybs ysz yex) (hpo : ∀ i, i < p → xpo i = yops (96 + i) ∧ xpb i = ybs (96 + i) ∧ ∃ o, o < 25 ∧ yops (96 + i) = nI o) (hfb : ch_fb (fun k => (yops (96 + k)).toNatClampNeg) (fun k => ybs (96 + k)) p) (hg : ck_good (fun k => (yops (96 + k)).toNatClampNeg) (fun k => (ybs (96 + k)).toNatClampNeg) p) :
    rl_M (lo_f (fun i => xpo (i - 16 * r)) (16 * r) (16 * r + p) xco) (lo_f (fun i => xpb (i - 16 * r)) (16 * r) (16 * r + p) xcb) (upd xml r (nI p)) (upd xme r e3) (lo_f (fun i => yops (96 + (i - 16 * r))) (16 * r) (16 * r + p) yops) (lo_f (fun i => ybs (96 + (i - 16 * r))) (16 * r) (16 * r + p) ybs) (upd (upd ysz 6 0) r (nI p)) (upd yex r e3) := by
  intro m hm
  by_cases e : m = r
  · subst e
    have L : ∀ k, k < p → lo_f (fun i => xpo (i - 16 * m)) (16 * m) (16 * m + p) xco (16 * m + k) = yops (96 + k) ∧ lo_f (fun i => xpb (i - 16 * m)) (16 * m) (16 * m + p) xcb (16 * m + k) = ybs (96 + k) ∧ lo_f (fun i => yops (96 + (i - 16 * m))) (16 * m) (16 * m + p) yops (16 * m + k) = yops (96 + k) ∧ lo_f (fun i => ybs (96 + (i - 16 * m))) (16 * m) (16 * m + p) ybs (16 * m + k) = ybs (96 + k) := fun k hk => by
      have s1 : 16 * m + k - 16 * m = k := by omega
      rw [lo_i (by omega) (by omega), lo_i (by omega) (by omega), lo_i (by omega) (by omega), lo_i (by omega) (by omega), s1]
      exact ⟨(hpo k hk).1, (hpo k hk).2.1, rfl, rfl⟩
    refine ⟨p, hp, pk_us, pk_us, by rw [pk_us, pk_us], by rw [pk_us]; exact he, fun k hk => ?_, fun _ => ⟨hp, fun k hk => ?_, op_cg hg (fun k hk => ?_)⟩⟩
    · obtain ⟨l1, l2, l3, l4⟩ := L k hk
      rw [l1, l2, l3, l4]
      exact ⟨rfl, rfl⟩
    · obtain ⟨l1, l2, l3, l4⟩ := L k hk
      obtain ⟨o, ho, eo⟩ := (hpo k hk).2.2
      have := hfb k hk
      dsimp only at this
      rw [eo, nI_clamp (by omega)] at this
      rw [l3, l4]
      exact ⟨o, ho, eo, this⟩
    · obtain ⟨l1, l2, l3, l4⟩ := L k hk
      unfold rl_nn
      rw [l3, l4]
      exact ⟨rfl, rfl⟩
  · obtain ⟨n, a1, a2, a3, a4, a5, a6, a7⟩ := hM m hm
    have L : ∀ k, k < 16 → ∀ (va a : Nat → Int32), lo_f va (16 * r) (16 * r + p) a (16 * m + k) = a (16 * m + k) := fun k hk va a => lo_o (by omega)
    refine ⟨n, a1, by rw [pk_un e]; exact a2, by rw [pk_un e, pk_un (by omega)]; exact a3, by rw [pk_un e, pk_un e]; exact a4, by rw [pk_un e]; exact a5, fun k hk => ?_, fun z => ?_⟩
    · rw [L k (by omega), L k (by omega), L k (by omega), L k (by omega)]
      exact a6 k hk
    · obtain ⟨b1, b2, b3⟩ := a7 z
      refine ⟨b1, fun k hk => ?_, op_cg b3 (fun k hk => ?_)⟩
      · rw [L k (by omega), L k (by omega)]
        exact b2 k hk
      · unfold rl_nn
        rw [L k (by omega), L k (by omega)]
        exact ⟨rfl, rfl⟩
theorem i_vc_install {k : Nat} {u : SX} {v : SY} (I : i_Rel k u v) (hk : k + 4 ≤ 2049) (v1 : Int32) (v2 : Int32) (v3 : Int32) : wpX_install (fun r u' => wpY_install (fun r' v' => r' = r ∧ i_Rel (k + 4) u' v') v v1 v2 (lw_bz v3)) u v1 v2 (lw_bz v3) := by
  obtain ⟨xlim, xpc, xnd, xwc, xit, xfc, xwt, xan, xlp, xpo, xpb, xwd, xwk, xnk, xco, xcb, xml, xme, xro, xow, xol, xla, xsh, xoe, xoh, xsr, xss, xse, xms, xfm, xfa, xfd, xcv, xcr⟩ := u
  obtain ⟨ylim, ywa, ysk, ylo, yrn, ysp, yaw, yan, ywh, you, ymd, ygd, yop, yops, ybs, ysz, yex, yst, yow, yle, yel, yla, ysh, yro, yos, yoe, yoh, yor, yrw, ynx, ydp, ypl, ykd, ymt, ytd, yht⟩ := v
  obtain ⟨hfc, hit, hL, hP, hM, hO, hT, hW, han, hlp⟩ := I
  obtain ⟨p, hp, e1, e2, hpo⟩ := hP
  subst e1
  have hP0 : ∀ xpo xpb yops ybs (sz : Nat → Int32), sz 6 = 0 → rl_P xpo xpb 0 yops ybs sz := fun _ _ _ _ sz hz => ⟨0, by omega, rfl, hz, fun i hi => absurd hi (by omega)⟩
  have hM0 : rl_M xco xcb xml xme yops ybs (upd ysz 6 0) yex := op_M hM (fun i _ => ⟨rfl, rfl⟩) (fun m hm => pk_un (by omega))
  have J : ∀ xwd xwk xwc xnk xnd ywa ytd ymt yht ysk ylo ygd, i_Rel (k + 4) (xlim, 0, xnd, xwc, xit, xfc, xwt, xan, xlp, xpo, xpb, xwd, xwk, xnk, xco, xcb, xml, xme, xro, xow, xol, xla, xsh, xoe, xoh, xsr, xss, xse, xms, xfm, xfa, xfd, xcv, xcr) (ylim, ywa, ysk, ylo, yrn, ysp, yaw, yan, ywh, you, ymd, ygd, yop, yops, ybs, upd ysz 6 0, yex, yst, yow, yle, yel, yla, ysh, yro, yos, yoe, yoh, yor, yrw, ynx, ydp, ypl, ykd, ymt, ytd, yht) := fun xwd xwk xwc xnk xnd ywa ytd ymt yht ysk ylo ygd => ⟨hfc, hit, hL, hP0 _ _ _ _ _ pk_us, hM0, hO, re_T_up hT (by omega), hW, han, hlp⟩
  unfold wpX_install
  rcases ow_c v1 v2 with ho | ⟨i, j, hi, hj, rfl, rfl⟩
  · refine ow_xo _ ho (br_t rfl (nm_e (nm_e (ow_yo ho ⟨rfl, J _ _ _ _ _ _ _ _ _ _ _ _⟩))))
  · refine ow_xi _ hi hj (br_f (by decide) ?_)
    by_cases z : p = 0
    · subst z
      exact br_t rfl (nm_r e2 (nm_e (ow_yi hi hj (br_t rfl ⟨rfl, J _ _ _ _ _ _ _ _ _ _ _ _⟩))))
    · have hp0 : 0 < p := by omega
      have nz : ¬ nI p = 0 := nI_ne0 hp0 (by omega)
      have hc : ∀ q, q < p → (yops (96 + q)).toNatClampNeg < 25 ∧ yops (96 + q) = nI (yops (96 + q)).toNatClampNeg := fun q hq => by
        obtain ⟨o, ho, eo⟩ := (hpo q hq).2.2
        rw [eo, nI_clamp (by omega)]
        exact ⟨ho, rfl⟩
      have hcx : ∀ q, q < p → (yops (96 + q)).toNatClampNeg < 25 ∧ xpo q = nI (yops (96 + q)).toNatClampNeg := fun q hq => ⟨(hc q hq).1, by rw [(hpo q hq).1]; exact (hc q hq).2⟩
      have fbx : ch_fb (fun q => (yops (96 + q)).toNatClampNeg) xpb p ↔ ch_fb (fun q => (yops (96 + q)).toNatClampNeg) (fun q => ybs (96 + q)) p := by
        refine ⟨fun w q hq => ?_, fun w q hq => ?_⟩
        · have := w q hq
          rw [(hpo q hq).2.1] at this
          exact this
        · rw [(hpo q hq).2.1]
          exact w q hq
      have bad : ∀ xwd xwk xwc xnk xnd, ¬ (ch_fb (fun q => (yops (96 + q)).toNatClampNeg) (fun q => ybs (96 + q)) p ∧ ck_good (fun q => (yops (96 + q)).toNatClampNeg) (fun q => (ybs (96 + q)).toNatClampNeg) p) → wpY_install (fun r' v' => r' = 10 ∧ i_Rel (k + 4) (xlim, 0, xnd, xwc, xit, xfc, xwt, xan, xlp, xpo, xpb, xwd, xwk, xnk, xco, xcb, xml, xme, xro, xow, xol, xla, xsh, xoe, xoh, xsr, xss, xse, xms, xfm, xfa, xfd, xcv, xcr) v') (ylim, ywa, ysk, ylo, yrn, ysp, yaw, yan, ywh, you, ymd, ygd, yop, yops, ybs, ysz, yex, yst, yow, yle, yel, yla, ysh, yro, yos, yoe, yoh, yor, yrw, ynx, ydp, ypl, ykd, ymt, ytd, yht) (nI i) (nI j) (lw_bz v3) := fun xwd xwk xwc xnk xnd hno => by
        refine nm_r e2 (nm_e (ow_yi hi hj (br_f nz ?_)))
        exact ch_Y _ hp0 hp hc (fun q _ => rfl) (fun g => absurd g hno) (fun _ wa td mt ht sk lo gd => br_t rfl ⟨rfl, J _ _ _ _ _ _ _ _ _ _ _ _⟩)
      refine br_f nz ?_
      refine ch_X _ hp hcx (fun hfb => br_f (by decide) ?_) (fun hno => br_t rfl (bad _ _ _ _ _ (fun w => hno (fbx.mpr w.1))))
      have hcode : xw_code xpo xpb (fun q => (yops (96 + q)).toNatClampNeg) (fun q => (ybs (96 + q)).toNatClampNeg) p := ⟨hp, fun q hq => ⟨(hcx q hq).1, (hcx q hq).2, hfb q hq, by rw [(hpo q hq).2.1]⟩⟩
      refine xe_every _ hp0 hcode (fun hg wd wk wc nk nd => br_f (by decide) (nm_r (pr_2b i j) ?_)) (fun hg wd wk wc nk nd => br_t rfl (bad _ _ _ _ _ (fun w => hg w.2)))
      have hbz := lw_bz_01 v3
      refine op_x57 _ (by omega) hp hbz ?_
      refine nm_r e2 (nm_e (ow_yi hi hj (br_f nz ?_)))
      refine ch_Y _ hp0 hp hc (fun q _ => rfl) (fun _ wa td mt ht sk lo gd => br_f (by decide) (nm_r (pr_2b i j) ?_)) (fun hno => absurd ⟨fbx.mp hfb, hg⟩ hno)
      refine op_y64 _ (by omega) hp hbz (fun q hq => (hpo q hq).2.2) ⟨rfl, ?_⟩
      exact ⟨hfc, hit, hL, hP0 _ _ _ _ _ (by rw [pk_un (by omega), pk_us]), op_newM (by omega) hp hbz hM hpo (fbx.mp hfb) hg, hO, re_T_up hT (by omega), hW, han, hlp⟩
/-! run -/
theorem op_start (P : SY → Prop) {m : Nat} {v : Int32} (h : P (ylim, ywa, ysk, ylo, nI 1, ysp, yaw, yan, ywh, you, ymd, ygd, yop, yops, ybs, ysz, yex, yst, yow, yle, yel, yla, ysh, yro, yos, yoe, yoh, yor, upd yrw 0 (nI m), upd ynx 0 0, upd ydp 0 0, upd ypl 0 v.toInt16.toInt32, upd (upd ykd 0 1) 1 0, ymt, ytd, yht)) : wpY_start P (ylim, ywa, ysk, ylo, 0, ysp, yaw, yan, ywh, you, ymd, ygd, yop, yops, ybs, ysz, yex, yst, yow, yle, yel, yla, ysh, yro, yos, yoe, yoh, yor, yrw, ynx, ydp, ypl, ykd, ymt, ytd, yht) (nI m) v := by
  have b0 : vp_nar .byte 0 = 0 := pr_b012' 0 (by decide)
  have b1 : vp_nar .byte 1 = 1 := pr_b012' 1 (by decide)
  exact ⟨pk_in 0 4 (by decide), nm_e ⟨pk_in 0 4 (by decide), nm_e ⟨pk_in 0 4 (by decide), nm_e (nm_r (e' := nI 0) (by decide) ⟨pk_in 0 32 (by decide), nm_r (e' := upd ykd 0 1) (by rw [b1]; rfl) ⟨pk_in 0 32 (by decide), nm_e ⟨pk_in 1 32 (by decide), nm_r (e' := upd (upd ykd 0 1) 1 0) (by rw [b0]; rfl) (nm_r (e' := nI 1) (by decide) h)⟩⟩⟩)⟩⟩⟩
theorem i_vc_run {k : Nat} {u : SX} {v : SY} (I : i_Rel k u v) (hk : k + 4 ≤ 2049) (v1 : Int32) (v2 : Int32) (v3 : Int32) : wpX_run (fun r u' => wpY_run (fun r' v' => r' = r ∧ i_Rel (k + 4) u' v') v v1 v2 v3) u v1 v2 v3 := by
  obtain ⟨xlim, xpc, xnd, xwc, xit, xfc, xwt, xan, xlp, xpo, xpb, xwd, xwk, xnk, xco, xcb, xml, xme, xro, xow, xol, xla, xsh, xoe, xoh, xsr, xss, xse, xms, xfm, xfa, xfd, xcv, xcr⟩ := u
  obtain ⟨ylim, ywa, ysk, ylo, yrn, ysp, yaw, yan, ywh, you, ymd, ygd, yop, yops, ybs, ysz, yex, yst, yow, yle, yel, yla, ysh, yro, yos, yoe, yoh, yor, yrw, ynx, ydp, ypl, ykd, ymt, ytd, yht⟩ := v
  obtain ⟨hfc, hit, hL, hP, hM, hO, hT, hW, han, hlp⟩ := I
  have J : i_Rel (k + 4) (xlim, xpc, xnd, xwc, xit, xfc, xwt, xan, xlp, xpo, xpb, xwd, xwk, xnk, xco, xcb, xml, xme, xro, xow, xol, xla, xsh, xoe, xoh, xsr, xss, xse, xms, xfm, xfa, xfd, xcv, xcr) (ylim, ywa, ysk, ylo, yrn, ysp, yaw, yan, ywh, you, ymd, ygd, yop, yops, ybs, ysz, yex, yst, yow, yle, yel, yla, ysh, yro, yos, yoe, yoh, yor, yrw, ynx, ydp, ypl, ykd, ymt, ytd, yht) := ⟨hfc, hit, hL, hP, hM, hO, re_T_up hT (by omega), hW, han, hlp⟩
  unfold wpX_run
  rcases ow_c v1 v2 with ho | ⟨i, j, hi, hj, rfl, rfl⟩
  · exact ow_xo _ ho (br_t rfl (ow_yo ho ⟨rfl, J⟩))
  · refine ow_xi _ hi hj (br_f (by decide) (nm_r (pr_2b i j) ⟨vp_in_nI (by omega) (by omega), ?_⟩))
    have c0 : (nI (2 * i + j)).toNatClampNeg = 2 * i + j := nI_clamp (by omega)
    rw [c0]
    obtain ⟨n, hn, hml, hyz, hme, hex, hco, hcd⟩ := hM (2 * i + j) (by omega)
    have w7 : vp_in (nI (2 * i + j)) 7 := vp_in_nI (by omega) (by omega)
    by_cases z : n = 0
    · subst z
      refine br_t hml (ow_yi hi hj ?_)
      rw [pr_2b, c0]
      exact ⟨w7, br_t hyz ⟨rfl, J⟩⟩
    · have n1 : ¬ xml (2 * i + j) = 0 := by rw [hml]; exact nI_ne0 (by omega) (by omega)
      have n2 : ¬ ysz (2 * i + j) = 0 := by rw [hyz]; exact nI_ne0 (by omega) (by omega)
      obtain ⟨l, hl, el1, el2⟩ := hL
      have hop0 : yop = 0 := hT.1.symm.trans hit
      have hszb : (ysz (2 * i + j)).toNatClampNeg = n := by rw [hyz]; exact nI_clamp (by omega)
      have hty0 : rl_ty yops ybs ysz (2 * i + j) 0 0 ck_f0 := by
        unfold rl_ty
        rw [hszb]
        exact ck_ty0 (hcd (by omega)).2.2
      have hT0 : rl_T (300 * k) xit xsr xss xse xms 0 yor yoh yoe yst yos ymd := by
        rw [hop0] at hT
        exact hT
      have h : rr (300 * k) 0 (2 * i + j) 0 0 ck_f0 (xlim, xpc, xnd, xwc, xit, nI 1, xwt, xan, xlp, xpo, xpb, xwd, xwk, xnk, xco, xcb, xml, xme, xro, xow, xol, xla, xsh, xoe, xoh, xsr, xss, xse, xms, upd xfm 0 (nI (2 * i + j)), upd xfa 0 0, upd xfd 0 0, upd xcv 0 v3.toInt16.toInt32, upd (upd xcr 0 0) 1 0) (ylim, ywa, ysk, ylo, nI 1, 0, yaw, 0, ywh, you, ymd, ygd, 0, yops, ybs, ysz, yex, yst, yow, yle, yel, yla, ysh, yro, yos, yoe, yoh, yor, upd yrw 0 (nI (2 * i + j)), upd ynx 0 0, upd ydp 0 0, upd ypl 0 v3.toInt16.toInt32, upd (upd ykd 0 1) 1 0, ymt, ytd, yht) := by
        refine ⟨by omega, rfl, rfl, rfl, ⟨l, hl, el1, el2⟩, hP, hM, hO, hT0, hW, fun g hg => absurd hg (by omega), by omega, by omega, by omega, by rw [hszb]; omega, pk_us, pk_us, pk_us, pk_us, pk_us, pk_us, hty0, fun q hq => ?_⟩
        obtain rfl | rfl : q = 0 ∨ q = 1 := by omega
        · exact rl_n1 (rl_sv_c v3)
        · exact Or.inl ⟨rfl, rfl, rfl⟩
      obtain ⟨r, u'', v'', g1, g2, g3⟩ := ru_loop hl l 0 (300 * k) 0 (2 * i + j) 0 0 ck_f0 _ _ (by omega) (by omega) h el1 el2 rfl
      subst hfc
      refine br_f n1 (pr_enter _ (t := 0) (by omega) ⟨l + 2, g1 _ (l + 2) (by omega) (ow_yi hi hj ?_)⟩)
      rw [pr_2b, c0]
      have hfin : i_Rel (k + 4) u'' v'' := by
        obtain ⟨xlim1, xpc1, xnd1, xwc1, xit1, xfc1, xwt1, xan1, xlp1, xpo1, xpb1, xwd1, xwk1, xnk1, xco1, xcb1, xml1, xme1, xro1, xow1, xol1, xla1, xsh1, xoe1, xoh1, xsr1, xss1, xse1, xms1, xfm1, xfa1, xfd1, xcv1, xcr1⟩ := u''
        obtain ⟨ylim1, ywa1, ysk1, ylo1, yrn1, ysp1, yaw1, yan1, ywh1, you1, ymd1, ygd1, yop1, yops1, ybs1, ysz1, yex1, yst1, yow1, yle1, yel1, yla1, ysh1, yro1, yos1, yoe1, yoh1, yor1, yrw1, ynx1, ydp1, ypl1, ykd1, ymt1, ytd1, yht1⟩ := v''
        obtain ⟨f1, f2, f3, f4, f5, f6, f7, f8, f9, f10, f11, f12⟩ := g3
        exact ⟨f3, f4, f5, f6, f7, f8, re_T_up f9 (by omega), f10, f11, f12⟩
      have hq := g2 (fun r' v' => r' = r ∧ i_Rel (k + 4) u'' v') (l + 2) (by omega) ⟨rfl, hfin⟩
      exact ⟨w7, br_f n2 (op_start _ ⟨l + 2, hq⟩)⟩
end OP
end
