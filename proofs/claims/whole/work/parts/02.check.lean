/-! THE CHECK, PURE. Kinds: 0 unset, 1 number, 2 reference; a cell's bits: 1 number, 2 reference, 4 unset.
 Small steps: 1, 2 take a number, a reference; 3 take either; 4, 5 add a number, a reference; 6, 7 load a local; 8, 9 store into a local; 10 dup -/
def ck_un (f : Nat → Nat) (i v : Nat) : Nat → Nat := fun j => if j = i then v else f j
theorem ck_us {f : Nat → Nat} {i v : Nat} : ck_un f i v i = v := if_pos rfl
theorem ck_uo {f : Nat → Nat} {i v j : Nat} (h : j ≠ i) : ck_un f i v j = f j := if_neg h
abbrev ck_bit (c : Nat) : Nat := if c = 0 then 4 else c
abbrev ck_has (m c : Nat) : Prop := c < 3 ∧ m &&& ck_bit c ≠ 0
def ck_ok (p d : Nat) : Prop := if p ≤ 3 then 0 < d else if p ≤ 7 then d < 4 else if p ≤ 9 then 0 < d else (0 < d ∧ d < 4)
def ck_nd (p d : Nat) : Nat := if p ≤ 3 then d - 1 else if p ≤ 7 then d + 1 else if p ≤ 9 then d - 1 else d + 1
def ck_ce (p d : Nat) : Nat := if p ≤ 3 then d + 1 else if p ≤ 5 then 0 else if p ≤ 7 then p - 6 else d + 1
def ck_al (p c : Nat) : Prop := if p = 1 then c = 1 else if p = 2 then c = 2 else if p = 6 then c ≠ 0 else if p = 7 then c ≠ 0 else True
def ck_k (p d : Nat) (f : Nat → Nat) : Nat → Nat :=
  if p ≤ 3 then f else if p ≤ 5 then ck_un f (d + 2) (p - 3) else if p ≤ 7 then ck_un f (d + 2) (f (p - 6)) else if p ≤ 9 then ck_un f (p - 8) (f (d + 1)) else ck_un f (d + 2) (f (d + 1))
def ck_o1 (p d : Nat) (f : Nat → Nat) : Prop := ck_ok p d ∧ ck_al p (f (ck_ce p d))
def ck_b1 (p d : Nat) (K : Nat → Nat) : Prop := ck_ok p d ∧ ∀ c, ck_has (K (ck_ce p d)) c → ck_al p c
def ck_rd : List Nat → Nat → Nat
  | [], d => d
  | p :: L, d => ck_rd L (ck_nd p d)
def ck_rk : List Nat → Nat → (Nat → Nat) → (Nat → Nat)
  | [], _, f => f
  | p :: L, d, f => ck_rk L (ck_nd p d) (ck_k p d f)
def ck_os : List Nat → Nat → (Nat → Nat) → Prop
  | [], _, _ => True
  | p :: L, d, f => ck_o1 p d f ∧ ck_os L (ck_nd p d) (ck_k p d f)
def ck_bs : List Nat → Nat → (Nat → Nat) → Prop
  | [], _, _ => True
  | p :: L, d, f => ck_b1 p d f ∧ ck_bs L (ck_nd p d) (ck_k p d f)
def ck_in (d : Nat) (K f : Nat → Nat) : Prop := ∀ j, j < d + 2 → ck_has (K j) (f j)
def ck_wi (d : Nat) (K : Nat → Nat) (S : (Nat → Nat) → Prop) : Prop := ∀ j, j < d + 2 → ∀ c, ck_has (K j) c → ∃ f, S f ∧ f j = c
def ck_pr (L : List Nat) : Prop := ∀ p, p ∈ L → 1 ≤ p ∧ p ≤ 10
theorem ck_ce_lt {p d : Nat} (hp : 1 ≤ p ∧ p ≤ 10) (h : ck_ok p d) : ck_ce p d < d + 2 := by
  obtain ⟨h1, h10⟩ := hp
  unfold ck_ce
  repeat' split
  all_goals omega
theorem ck_s1 {p d : Nat} {K f : Nat → Nat} (hp : 1 ≤ p ∧ p ≤ 10) (hb : ck_b1 p d K) (hi : ck_in d K f) : ck_o1 p d f ∧ ck_in (ck_nd p d) (ck_k p d K) (ck_k p d f) := by
  refine ⟨⟨hb.1, hb.2 _ (hi _ (ck_ce_lt hp hb.1))⟩, ?_⟩
  have ho := hb.1
  intro j hj
  obtain ⟨p1, p10⟩ := hp
  unfold ck_ok at ho
  unfold ck_nd at hj
  unfold ck_k
  by_cases c3 : p ≤ 3
  · simp only [c3, ↓reduceIte] at ho hj ⊢
    exact hi j (by omega)
  · simp only [c3, ↓reduceIte] at ho hj ⊢
    by_cases c5 : p ≤ 5
    · have c7 : p ≤ 7 := by omega
      simp only [c5, c7, ↓reduceIte] at ho hj ⊢
      by_cases e : j = d + 2
      · subst e
        rw [ck_us, ck_us]
        obtain rfl | rfl : p = 4 ∨ p = 5 := by omega
        · decide
        · decide
      · rw [ck_uo e, ck_uo e]
        exact hi j (by omega)
    · simp only [c5, ↓reduceIte] at ho hj ⊢
      by_cases c7 : p ≤ 7
      · simp only [c7, ↓reduceIte] at ho hj ⊢
        by_cases e : j = d + 2
        · subst e
          rw [ck_us, ck_us]
          exact hi (p - 6) (by omega)
        · rw [ck_uo e, ck_uo e]
          exact hi j (by omega)
      · simp only [c7, ↓reduceIte] at ho hj ⊢
        by_cases c9 : p ≤ 9
        · simp only [c9, ↓reduceIte] at ho hj ⊢
          by_cases e : j = p - 8
          · subst e
            rw [ck_us, ck_us]
            exact hi (d + 1) (by omega)
          · rw [ck_uo e, ck_uo e]
            exact hi j (by omega)
        · simp only [c9, ↓reduceIte] at ho hj ⊢
          by_cases e : j = d + 2
          · subst e
            rw [ck_us, ck_us]
            exact hi (d + 1) (by omega)
          · rw [ck_uo e, ck_uo e]
            exact hi j (by omega)
theorem ck_hc {p c : Nat} (hp : p = 4 ∨ p = 5) (h : ck_has (p - 3) c) : c = p - 3 := by
  obtain ⟨h3, hx⟩ := h
  obtain rfl | rfl | rfl : c = 0 ∨ c = 1 ∨ c = 2 := by omega
  all_goals (rcases hp with rfl | rfl <;> first | rfl | exact absurd (by decide) hx)
theorem ck_w1 {p d : Nat} {K : Nat → Nat} {S : (Nat → Nat) → Prop} (hp : 1 ≤ p ∧ p ≤ 10) (hn : ∃ f, S f) (hw : ck_wi d K S) (ho : ∀ f, S f → ck_o1 p d f) : ck_b1 p d K ∧ ck_wi (ck_nd p d) (ck_k p d K) (fun g => ∃ f, S f ∧ g = ck_k p d f) := by
  obtain ⟨f0, h0⟩ := hn
  have hd : ck_ok p d := (ho f0 h0).1
  have hc := ck_ce_lt hp hd
  refine ⟨⟨hd, fun c hcc => ?_⟩, ?_⟩
  · obtain ⟨f, hf, e⟩ := hw _ hc c hcc
    rw [← e]
    exact (ho f hf).2
  · intro j hj c hcc
    suffices H : ∃ f, S f ∧ (ck_k p d f) j = c by
      obtain ⟨f, hf, e⟩ := H
      exact ⟨_, ⟨f, hf, rfl⟩, e⟩
    obtain ⟨p1, p10⟩ := hp
    unfold ck_ok at hd
    unfold ck_nd at hj
    unfold ck_k at hcc ⊢
    by_cases c3 : p ≤ 3
    · simp only [c3, ↓reduceIte] at hd hj hcc ⊢
      exact hw j (by omega) c hcc
    · simp only [c3, ↓reduceIte] at hd hj hcc ⊢
      by_cases c5 : p ≤ 5
      · have c7 : p ≤ 7 := by omega
        simp only [c5, c7, ↓reduceIte] at hd hj hcc ⊢
        by_cases e : j = d + 2
        · subst e
          rw [ck_us] at hcc
          exact ⟨f0, h0, by rw [ck_us, ck_hc (by omega) hcc]⟩
        · rw [ck_uo e] at hcc
          obtain ⟨f, hf, e'⟩ := hw j (by omega) c hcc
          exact ⟨f, hf, by rw [ck_uo e, e']⟩
      · simp only [c5, ↓reduceIte] at hd hj hcc ⊢
        by_cases c7 : p ≤ 7
        · simp only [c7, ↓reduceIte] at hd hj hcc ⊢
          by_cases e : j = d + 2
          · subst e
            rw [ck_us] at hcc
            obtain ⟨f, hf, e'⟩ := hw (p - 6) (by omega) c hcc
            exact ⟨f, hf, by rw [ck_us, e']⟩
          · rw [ck_uo e] at hcc
            obtain ⟨f, hf, e'⟩ := hw j (by omega) c hcc
            exact ⟨f, hf, by rw [ck_uo e, e']⟩
        · simp only [c7, ↓reduceIte] at hd hj hcc ⊢
          by_cases c9 : p ≤ 9
          · simp only [c9, ↓reduceIte] at hd hj hcc ⊢
            by_cases e : j = p - 8
            · subst e
              rw [ck_us] at hcc
              obtain ⟨f, hf, e'⟩ := hw (d + 1) (by omega) c hcc
              exact ⟨f, hf, by rw [ck_us, e']⟩
            · rw [ck_uo e] at hcc
              obtain ⟨f, hf, e'⟩ := hw j (by omega) c hcc
              exact ⟨f, hf, by rw [ck_uo e, e']⟩
          · simp only [c9, ↓reduceIte] at hd hj hcc ⊢
            by_cases e : j = d + 2
            · subst e
              rw [ck_us] at hcc
              obtain ⟨f, hf, e'⟩ := hw (d + 1) (by omega) c hcc
              exact ⟨f, hf, by rw [ck_us, e']⟩
            · rw [ck_uo e] at hcc
              obtain ⟨f, hf, e'⟩ := hw j (by omega) c hcc
              exact ⟨f, hf, by rw [ck_uo e, e']⟩
theorem ck_sL : ∀ (L : List Nat) (d : Nat) (K f : Nat → Nat), ck_pr L → ck_bs L d K → ck_in d K f → ck_os L d f ∧ ck_in (ck_rd L d) (ck_rk L d K) (ck_rk L d f)
  | [], _, _, _, _, _, hi => ⟨trivial, hi⟩
  | p :: L, d, K, f, hp, hb, hi => by
    obtain ⟨h1, h2⟩ := ck_s1 (hp p (List.mem_cons_self ..)) hb.1 hi
    obtain ⟨h3, h4⟩ := ck_sL L _ _ _ (fun q hq => hp q (List.mem_cons_of_mem _ hq)) hb.2 h2
    exact ⟨⟨h1, h3⟩, h4⟩
theorem ck_wL : ∀ (L : List Nat) (d : Nat) (K : Nat → Nat) (S : (Nat → Nat) → Prop), ck_pr L → (∃ f, S f) → ck_wi d K S → (∀ f, S f → ck_os L d f) → ck_bs L d K ∧ ck_wi (ck_rd L d) (ck_rk L d K) (fun g => ∃ f, S f ∧ g = ck_rk L d f)
  | [], _, _, _, _, _, hw, _ => ⟨trivial, fun j hj c hc => by
      obtain ⟨f, hf, e⟩ := hw j hj c hc
      exact ⟨f, ⟨f, hf, rfl⟩, e⟩⟩
  | p :: L, d, K, S, hp, hn, hw, ho => by
    obtain ⟨h1, h2⟩ := ck_w1 (hp p (List.mem_cons_self ..)) hn hw (fun f hf => (ho f hf).1)
    obtain ⟨f0, h0⟩ := hn
    obtain ⟨h3, h4⟩ := ck_wL L _ _ _ (fun q hq => hp q (List.mem_cons_of_mem _ hq)) ⟨_, f0, h0, rfl⟩ h2 (fun g hg => by
      obtain ⟨f, hf, e⟩ := hg
      rw [e]
      exact (ho f hf).2)
    refine ⟨⟨h1, h3⟩, fun j hj c hc => ?_⟩
    obtain ⟨g, ⟨f', ⟨f, hf, e1⟩, e2⟩, e⟩ := h4 j hj c hc
    subst e1
    exact ⟨g, ⟨f, hf, e2⟩, e⟩
/-! the instructions' small steps -/
def ck_pg (o b : Nat) : List Nat := match o with
  | 0 => [4]
  | 1 => [6 + b]
  | 2 => [8 + b]
  | 3 => [1, 1, 4]
  | 4 => [1, 1, 4]
  | 5 => [1, 1, 4]
  | 6 => [1, 1, 4]
  | 7 => []
  | 8 => [1]
  | 9 => [5]
  | 10 => [2]
  | 11 => [1, 5]
  | 12 => [1, 2, 4]
  | 13 => [1, 1, 2]
  | 14 => [2]
  | 15 => [2, 4]
  | 16 => [5]
  | 17 => [5]
  | 18 => [1, 4]
  | 19 => [1]
  | 20 => [10]
  | 21 => [3]
  | _ => []
theorem ck_25 {o : Nat} (h : o < 25) : o = 0 ∨ o = 1 ∨ o = 2 ∨ o = 3 ∨ o = 4 ∨ o = 5 ∨ o = 6 ∨ o = 7 ∨ o = 8 ∨ o = 9 ∨ o = 10 ∨ o = 11 ∨ o = 12 ∨ o = 13 ∨ o = 14 ∨ o = 15 ∨ o = 16 ∨ o = 17 ∨ o = 18 ∨ o = 19 ∨ o = 20 ∨ o = 21 ∨ o = 22 ∨ o = 23 ∨ o = 24 := by omega
theorem ck_pr_pg {o b : Nat} (h : o < 25) (hb : o = 1 ∨ o = 2 → b ≤ 1) : ck_pr (ck_pg o b) := by
  intro p hp
  rcases ck_25 h with rfl | rfl | rfl | rfl | rfl | rfl | rfl | rfl | rfl | rfl | rfl | rfl | rfl | rfl | rfl | rfl | rfl | rfl | rfl | rfl | rfl | rfl | rfl | rfl | rfl
  all_goals (simp only [ck_pg, List.mem_cons, List.not_mem_nil, or_false] at hp)
  all_goals first | omega | exact absurd hp (by simp)
/-! a closed set of states; a good code; a typed state -/
def ck_cl (op b : Nat → Nat) (n : Nat) (M : Nat → Nat → (Nat → Nat) → Prop) : Prop :=
  ∀ k d f, M k d f → k < n ∧ ck_os (ck_pg (op k) (b k)) d f ∧ ((op k = 7 ∨ op k = 8) → M (b k) (ck_rd (ck_pg (op k) (b k)) d) (ck_rk (ck_pg (op k) (b k)) d f)) ∧ ((op k ≠ 7 ∧ op k ≠ 19) → M (k + 1) (ck_rd (ck_pg (op k) (b k)) d) (ck_rk (ck_pg (op k) (b k)) d f))
def ck_f0 : Nat → Nat := fun j => if j = 0 then 1 else 0
def ck_good (op b : Nat → Nat) (n : Nat) : Prop :=
  ∃ M, M 0 0 ck_f0 ∧ ck_cl op b n M ∧ ∀ k d f d' f', M k d f → M k d' f' → d = d'
def ck_ty (op b : Nat → Nat) (n k d : Nat) (f : Nat → Nat) : Prop := ∃ M, ck_cl op b n M ∧ M k d f
theorem ck_ty0 {op b : Nat → Nat} {n : Nat} (h : ck_good op b n) : ck_ty op b n 0 0 ck_f0 := by
  obtain ⟨M, h0, hc, _⟩ := h
  exact ⟨M, hc, h0⟩
theorem ck_ty_s {op b : Nat → Nat} {n k d : Nat} {f : Nat → Nat} (h : ck_ty op b n k d f) : k < n ∧ ck_os (ck_pg (op k) (b k)) d f ∧ ((op k = 7 ∨ op k = 8) → ck_ty op b n (b k) (ck_rd (ck_pg (op k) (b k)) d) (ck_rk (ck_pg (op k) (b k)) d f)) ∧ ((op k ≠ 7 ∧ op k ≠ 19) → ck_ty op b n (k + 1) (ck_rd (ck_pg (op k) (b k)) d) (ck_rk (ck_pg (op k) (b k)) d f)) := by
  obtain ⟨M, hc, hM⟩ := h
  obtain ⟨h1, h2, h3, h4⟩ := hc k d f hM
  exact ⟨h1, h2, fun z => ⟨M, hc, h3 z⟩, fun z => ⟨M, hc, h4 z⟩⟩
/-! a table that is closed gives a good code -/
def ck_sub (n : Nat) (D W : Nat → Nat) (s d : Nat) (K : Nat → Nat) : Prop := s < n ∧ D s = d + 1 ∧ ∀ j, j < d + 2 → ∀ c, ck_has (K j) c → ck_has (W (6 * s + j)) c
theorem ck_xg {op b : Nat → Nat} {n : Nat} {D W : Nat → Nat} (hn : 0 < n) (hp : ∀ k, k < n → ck_pr (ck_pg (op k) (b k))) (h0 : D 0 = 1) (hw0 : ck_has (W 0) 1) (hw1 : ck_has (W 1) 0)
    (hc : ∀ k, k < n → ∀ d, D k = d + 1 → ck_bs (ck_pg (op k) (b k)) d (fun j => W (6 * k + j)) ∧ ((op k = 7 ∨ op k = 8) → ck_sub n D W (b k) (ck_rd (ck_pg (op k) (b k)) d) (ck_rk (ck_pg (op k) (b k)) d (fun j => W (6 * k + j)))) ∧ ((op k ≠ 7 ∧ op k ≠ 19) → ck_sub n D W (k + 1) (ck_rd (ck_pg (op k) (b k)) d) (ck_rk (ck_pg (op k) (b k)) d (fun j => W (6 * k + j))))) : ck_good op b n := by
  refine ⟨fun k d f => k < n ∧ D k = d + 1 ∧ ck_in d (fun j => W (6 * k + j)) f, ⟨hn, h0, ?_⟩, ?_, ?_⟩
  · intro j hj
    obtain rfl | rfl : j = 0 ∨ j = 1 := by omega
    · exact hw0
    · exact hw1
  · intro k d f hM
    obtain ⟨hk, hd, hi⟩ := hM
    obtain ⟨h1, h2, h3⟩ := hc k hk d hd
    obtain ⟨h4, h5⟩ := ck_sL _ _ _ _ (hp k hk) h1 hi
    refine ⟨hk, h4, fun z => ?_, fun z => ?_⟩
    · obtain ⟨a1, a2, a3⟩ := h2 z
      exact ⟨a1, a2, fun j hj => a3 j hj _ (h5 j hj)⟩
    · obtain ⟨a1, a2, a3⟩ := h3 z
      exact ⟨a1, a2, fun j hj => a3 j hj _ (h5 j hj)⟩
  · intro k d f d' f' h1 h2
    have e1 := h1.2.1
    have e2 := h2.2.1
    omega
