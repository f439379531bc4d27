/-! THE REFERENCE'S CHECK: the list of states -/
def yc_h (st : Nat) : Nat := if st < 2 then 0 else if st < 4 then 1 else if st < 8 then 2 else if st < 16 then 3 else 4
theorem yc_hs : ∀ st, st < 32 → ∀ h, h < 5 → ((nI st >>> (nI h &&& 31)) ≤ 1 ↔ yc_h st ≤ h) := by decide +kernel
theorem yc_h4 (st : Nat) : yc_h st ≤ 4 := by
  unfold yc_h
  repeat' split
  all_goals omega
theorem yc_hd {d : Nat} {f : Nat → Nat} (h : ck_va d f) : yc_h (ck_st f d) = d := by
  obtain ⟨h4, _, _, hj⟩ := h
  obtain ⟨h1, h2⟩ := ck_st_lt d hj
  unfold yc_h
  obtain rfl | rfl | rfl | rfl | rfl : d = 0 ∨ d = 1 ∨ d = 2 ∨ d = 3 ∨ d = 4 := by omega
  all_goals (simp only [Nat.reducePow, Nat.reduceAdd] at h1 h2; repeat' split)
  all_goals omega
theorem yc_lo {d : Nat} {f : Nat → Nat} (h : ck_va d f) : ck_lo f < 9 := by
  have := h.2.1
  have := h.2.2.1
  unfold ck_lo
  omega
/-- how many states are not met yet -/
def yc_un (mt : Nat → Int32) : Nat := ck_sm (fun s => if mt s = 0 then 1 else 0) 4608
theorem yc_sm1 {f g : Nat → Nat} {s : Nat} (h : ∀ i, i ≠ s → g i = f i) (h1 : g s + 1 = f s) : ∀ n, s < n → ck_sm g n + 1 = ck_sm f n
  | 0, hs => absurd hs (Nat.not_lt_zero s)
  | n + 1, hs => by
    show ck_sm g n + g n + 1 = ck_sm f n + f n
    by_cases e : s = n
    · subst e
      rw [ck_sm_eq (f := g) (g := f) s (fun i hi => h i (by omega))]
      omega
    · have := yc_sm1 h h1 n (by omega)
      rw [h n (by omega)]
      omega
theorem yc_un_new {mt : Nat → Int32} {s : Nat} (hs : s < 4608) (h0 : mt s = 0) : yc_un (upd mt s 1) + 1 = yc_un mt :=
  yc_sm1 (s := s) (fun i hi => by show (if upd mt s 1 i = 0 then 1 else 0) = _; rw [pk_un hi]) (by show (if upd mt s 1 s = 0 then 1 else 0) + 1 = if mt s = 0 then 1 else 0; rw [pk_us, h0]; rfl) 4608 hs
theorem yc_un_old {mt : Nat → Int32} {s : Nat} (h0 : ¬ mt s = 0) : yc_un (upd mt s 1) = yc_un mt :=
  ck_sm_eq 4608 (fun i _ => by
    show (if upd mt s 1 i = 0 then 1 else 0) = if mt i = 0 then 1 else 0
    by_cases e : i = s
    · rw [e, pk_us, if_neg h0]
      rfl
    · rw [pk_un e])
def yc_n (k st lo : Nat) : Nat := k * 288 + st * 9 + lo
theorem yc_inj {k st lo k' st' lo' : Nat} (h : yc_n k st lo = yc_n k' st' lo') (h1 : st < 32) (h2 : lo < 9) (h3 : st' < 32) (h4 : lo' < 9) : k = k' ∧ st = st' ∧ lo = lo' := by
  unfold yc_n at h
  omega
theorem yc_n_lt {k st lo : Nat} (hk : k < 16) (h1 : st < 32) (h2 : lo < 9) : yc_n k st lo < 4608 := by
  unfold yc_n
  omega
/-- the list, the met, the heights -/
def yc_I (op b : Nat → Nat) (n : Nat) (M : Nat → Nat → (Nat → Nat) → Prop) (E : Nat → Prop) (w : Nat) (td mt ht : Nat → Int32) : Prop :=
  (∀ i, i < w → ∃ k st lo, k < n ∧ st < 32 ∧ lo < 9 ∧ td i = nI (yc_n k st lo) ∧ mt (yc_n k st lo) ≠ 0) ∧
  (∀ k st lo, k < 16 → st < 32 → lo < 9 → mt (yc_n k st lo) ≠ 0 → k < n ∧ (∃ d f, ck_va d f ∧ st = ck_st f d ∧ lo = ck_lo f ∧ (xw_Ce op b n M → M k d f)) ∧ ht k = nI (yc_h st)) ∧
  (∀ k st lo, k < 16 → st < 32 → lo < 9 → mt (yc_n k st lo) ≠ 0 → E (yc_n k st lo) ∨ (∃ i, i < w ∧ td i = nI (yc_n k st lo)) ∨ ck_yp op b n (fun s => mt s ≠ 0) k st lo) ∧
  (∀ k, k < n → ht k = -1 ∨ ∃ st lo, st < 32 ∧ lo < 9 ∧ ht k = nI (yc_h st) ∧ mt (yc_n k st lo) ≠ 0)
theorem yc_yp_up {op b : Nat → Nat} {n k st lo : Nat} {P Q : Nat → Prop} (h : ck_yp op b n P k st lo) (hPQ : ∀ s, P s → Q s) : ck_yp op b n Q k st lo :=
  ⟨h.1, fun z => ⟨(h.2.1 z).1, hPQ _ (h.2.1 z).2⟩, fun z => ⟨(h.2.2 z).1, hPQ _ (h.2.2 z).2⟩⟩
/-- a state is met: it was met before, or it is new -/
theorem yc_I_up {op b : Nat → Nat} {n : Nat} {M : Nat → Nat → (Nat → Nat) → Prop} {E : Nat → Prop} {w w' : Nat} {td mt ht td' : Nat → Int32} {k d : Nat} {f : Nat → Nat} (hn : n ≤ 16) (hk : k < n) (hv : ck_va d f) (hM : xw_Ce op b n M → M k d f) (hI : yc_I op b n M E w td mt ht) (hh : ht k = -1 ∨ ht k = nI d)
    (hw : (w' = w + 1 ∧ td' = upd td w (nI (yc_n k (ck_st f d) (ck_lo f)))) ∨ (w' = w ∧ td' = td ∧ mt (yc_n k (ck_st f d) (ck_lo f)) ≠ 0)) : yc_I op b n M E w' td' (upd mt (yc_n k (ck_st f d) (ck_lo f)) 1) (upd ht k (nI d)) := by
  obtain ⟨i1, i2, i3, i4⟩ := hI
  have hst := (ck_stb hv).2.2.2
  have hlo := yc_lo hv
  have hm : ∀ s, mt s ≠ 0 → upd mt (yc_n k (ck_st f d) (ck_lo f)) 1 s ≠ 0 := fun s h => by
    by_cases e : s = yc_n k (ck_st f d) (ck_lo f)
    · rw [e, pk_us]; decide
    · rw [pk_un e]; exact h
  have hme : upd mt (yc_n k (ck_st f d) (ck_lo f)) 1 (yc_n k (ck_st f d) (ck_lo f)) ≠ 0 := by rw [pk_us]; decide
  have hh' : ∀ st lo, st < 32 → lo < 9 → mt (yc_n k st lo) ≠ 0 → nI d = nI (yc_h st) := fun st lo h1 h2 h => by
    have a := (i2 k st lo (by omega) h1 h2 h).2.2
    rcases hh with q | q
    · rw [q] at a
      have := nI_pos (n := yc_h st) (by have := yc_h4 st; omega)
      rw [← a] at this
      exact absurd (by decide) this
    · rw [← q]; exact a
  refine ⟨fun i hi => ?_, fun k' st lo hk' h1 h2 h => ?_, fun k' st lo hk' h1 h2 h => ?_, fun k' hk' => ?_⟩
  · rcases hw with ⟨rfl, rfl⟩ | ⟨rfl, rfl, _⟩
    · by_cases e : i = w
      · subst e
        exact ⟨k, _, _, hk, hst, hlo, pk_us, hme⟩
      · obtain ⟨k', st, lo, a1, a2, a3, a4, a5⟩ := i1 i (by omega)
        exact ⟨k', st, lo, a1, a2, a3, by rw [pk_un e]; exact a4, hm _ a5⟩
    · obtain ⟨k', st, lo, a1, a2, a3, a4, a5⟩ := i1 i hi
      exact ⟨k', st, lo, a1, a2, a3, a4, hm _ a5⟩
  · by_cases e : yc_n k' st lo = yc_n k (ck_st f d) (ck_lo f)
    · obtain ⟨rfl, rfl, rfl⟩ := yc_inj e h1 h2 hst hlo
      exact ⟨hk, ⟨d, f, hv, rfl, rfl, hM⟩, by rw [pk_us, yc_hd hv]⟩
    · rw [pk_un e] at h
      obtain ⟨a1, a2, a3⟩ := i2 k' st lo hk' h1 h2 h
      refine ⟨a1, a2, ?_⟩
      by_cases e2 : k' = k
      · subst e2
        rw [pk_us]
        exact hh' st lo h1 h2 h
      · rw [pk_un e2]
        exact a3
  · by_cases e : yc_n k' st lo = yc_n k (ck_st f d) (ck_lo f)
    · rcases hw with ⟨rfl, rfl⟩ | ⟨rfl, rfl, hold⟩
      · exact Or.inr (Or.inl ⟨w, by omega, by rw [pk_us, e]⟩)
      · rw [← e] at hold
        rcases i3 k' st lo hk' h1 h2 hold with q | q | q
        · exact Or.inl q
        · exact Or.inr (Or.inl q)
        · exact Or.inr (Or.inr (yc_yp_up q hm))
    · rw [pk_un e] at h
      rcases i3 k' st lo hk' h1 h2 h with q | ⟨i, hi, q⟩ | q
      · exact Or.inl q
      · rcases hw with ⟨rfl, rfl⟩ | ⟨rfl, rfl, hold⟩
        · exact Or.inr (Or.inl ⟨i, by omega, by rw [pk_un (by omega)]; exact q⟩)
        · exact Or.inr (Or.inl ⟨i, hi, q⟩)
      · exact Or.inr (Or.inr (yc_yp_up q hm))
  · by_cases e2 : k' = k
    · subst e2
      exact Or.inr ⟨_, _, hst, hlo, by rw [pk_us, yc_hd hv], hme⟩
    · rw [pk_un e2]
      rcases i4 k' hk' with q | ⟨st, lo, a1, a2, a3, a4⟩
      · exact Or.inl q
      · exact Or.inr ⟨st, lo, a1, a2, a3, hm _ a4⟩
section YC
variable {ylim ywa ysk ylo yrn ysp yaw yan ywh you ygd yop : Int32}
variable {ymd : Int64}
variable {yops ybs ysz yex yow yle yel yla ysh yro yoe yoh yor yrw ynx ydp ypl ykd ymt ytd yht : Nat → Int32}
variable {yst yos : Nat → Int64}
variable {op b : Nat → Nat} {n : Nat} {M : Nat → Nat → (Nat → Nat) → Prop}
theorem yc_num (k st lo : Nat) : nI k * 288 + nI st * 9 + nI lo = nI (yc_n k st lo) := by
  rw [show nI k * 288 = nI (k * 288) from pk_mul k 288, show nI st * 9 = nI (st * 9) from pk_mul st 9, nI_add, nI_add]
  rfl
theorem yc_short : ∀ s, s < 4608 → vp_nar .short (nI s).toInt16.toInt32 = nI s := fun s hs => by
  rw [pk_vs]
  exact rl_sv_N (by omega)
/-- the store of a state, whatever the flag says -/
theorem yc_54 (post : SY → Prop) {k st lo h w e : Nat} (hk : k < 16) (h1 : st < 32) (h2 : lo < 9) (hw : w + yc_un ymt ≤ e) (he : e ≤ 4608)
    (hp : ∀ w' td, w' + yc_un (upd ymt (yc_n k st lo) 1) ≤ e → ((w' = w + 1 ∧ td = upd ytd w (nI (yc_n k st lo))) ∨ (w' = w ∧ td = ytd ∧ ymt (yc_n k st lo) ≠ 0)) → post (ylim, nI w', ysk, ylo, yrn, ysp, yaw, yan, ywh, you, ymd, ygd, yop, yops, ybs, ysz, yex, yst, yow, yle, yel, yla, ysh, yro, yos, yoe, yoh, yor, yrw, ynx, ydp, ypl, ykd, upd ymt (yc_n k st lo) 1, td, upd yht k (nI h))) : wY_meet_54 post (nI k) (nI st) (nI lo) (nI h) ylim (nI w) ysk ylo yrn ysp yaw yan ywh you ymd ygd yop yops ybs ysz yex yst yow yle yel yla ysh yro yos yoe yoh yor yrw ynx ydp ypl ykd ymt ytd yht := by
  have e0 : (nI k).toNatClampNeg = k := nI_clamp (by omega)
  have hs := yc_n_lt hk h1 h2
  have e1 : (nI (yc_n k st lo)).toNatClampNeg = yc_n k st lo := nI_clamp (by omega)
  have b1 : vp_nar .boolean 1 = 1 := by decide
  refine ⟨pk_in k 16 hk, nm_r (by rw [e0]) (nm_r (yc_num k st lo) ⟨pk_in _ 4608 hs, ?_⟩)⟩
  rw [e1, b1, yc_short _ hs]
  refine br_c (fun z => ?_) (fun z => ⟨pk_in _ 4608 hs, nm_e (hp w ytd (by rw [yc_un_old z]; exact hw) (Or.inr ⟨rfl, rfl, z⟩))⟩)
  have hu := yc_un_new hs z
  refine nm_r (nI_1 w) ⟨pk_in w 4608 (by omega), nm_r (by rw [nI_clamp (by omega)]) ⟨pk_in _ 4608 hs, nm_e (hp (w + 1) _ (by omega) (Or.inl ⟨rfl, rfl⟩))⟩⟩
theorem yc_15 (post : SY → Prop) {k st lo : Nat} (h1 : st < 32) (hk : k < 16)
    (hlt : yht k < 0 → wY_meet_54 post (nI k) (nI st) (nI lo) (nI (yc_h st)) ylim ywa ysk ylo yrn ysp yaw yan ywh you ymd ygd yop yops ybs ysz yex yst yow yle yel yla ysh yro yos yoe yoh yor yrw ynx ydp ypl ykd ymt ytd yht) (heq : ¬ yht k < 0 → yht k = nI (yc_h st) → wY_meet_54 post (nI k) (nI st) (nI lo) (nI (yc_h st)) ylim ywa ysk ylo yrn ysp yaw yan ywh you ymd ygd yop yops ybs ysz yex yst yow yle yel yla ysh yro yos yoe yoh yor yrw ynx ydp ypl ykd ymt ytd yht) (hne : ¬ yht k < 0 → ¬ yht k = nI (yc_h st) → wY_meet_54 post (nI k) (nI st) (nI lo) (nI (yc_h st)) ylim ywa ysk ylo yrn ysp yaw yan ywh you ymd 0 yop yops ybs ysz yex yst yow yle yel yla ysh yro yos yoe yoh yor yrw ynx ydp ypl ykd ymt ytd yht) :
    ∀ e h m, h + e = yc_h st → e < m → wY_meet_15 post (nI k) (nI st) (nI lo) ylim ywa ysk ylo yrn ysp yaw yan ywh you ymd ygd yop yops ybs ysz yex yst yow yle yel yla ysh yro yos yoe yoh yor yrw ynx ydp ypl ykd ymt ytd yht m (nI h) := by
  have h4 := yc_h4 st
  intro e
  induction e with
  | zero =>
    intro h m hh hm
    obtain ⟨m, rfl⟩ : ∃ q, m = q + 1 := ⟨m - 1, by omega⟩
    obtain rfl : h = yc_h st := by omega
    have e0 : (nI k).toNatClampNeg = k := nI_clamp (by omega)
    refine br_t ((yc_hs st h1 _ (by omega)).mpr (Nat.le_refl _)) ⟨pk_in k 16 hk, ?_⟩
    rw [e0]
    exact br_c hlt (fun z => ⟨pk_in k 16 hk, br_c (heq z) (hne z)⟩)
  | succ e ih =>
    intro h m hh hm
    obtain ⟨m, rfl⟩ : ∃ q, m = q + 1 := ⟨m - 1, by omega⟩
    refine br_f (fun z => ?_) (nm_r (nI_1 h) (ih (h + 1) m (by omega) (by omega)))
    have := (yc_hs st h1 h (by omega)).mp z
    omega
/-- a meeting while all is good -/
theorem yc_meet (post : SY → Prop) {k d w e : Nat} {f : Nat → Nat} {E : Nat → Prop} (hn : n ≤ 16) (hk : k ≤ 16) (hv : ck_va d f) (hM : xw_Ce op b n M → M k d f) (hI : yc_I op b n M E w ytd ymt yht) (hw : w + yc_un ymt ≤ e) (he : e ≤ 4608)
    (h1 : k < n → ∀ w' td mt ht, w' + yc_un mt ≤ e → yc_I op b n M E w' td mt ht → (∀ s, ymt s ≠ 0 → mt s ≠ 0) → mt (yc_n k (ck_st f d) (ck_lo f)) ≠ 0 → post (ylim, nI w', ysk, ylo, yrn, ysp, yaw, yan, ywh, you, ymd, ygd, yop, yops, ybs, ysz, yex, yst, yow, yle, yel, yla, ysh, yro, yos, yoe, yoh, yor, yrw, ynx, ydp, ypl, ykd, mt, td, ht))
    (h0 : ¬ xw_Ce op b n M → ∀ w' td mt ht, w' + yc_un mt ≤ e → post (ylim, nI w', ysk, ylo, yrn, ysp, yaw, yan, ywh, you, ymd, 0, yop, yops, ybs, ysz, yex, yst, yow, yle, yel, yla, ysh, yro, yos, yoe, yoh, yor, yrw, ynx, ydp, ypl, ykd, mt, td, ht)) : wpY_meet post (ylim, nI w, ysk, ylo, yrn, ysp, yaw, yan, ywh, you, ymd, ygd, yop, yops, ybs, ysz, yex, yst, yow, yle, yel, yla, ysh, yro, yos, yoe, yoh, yor, yrw, ynx, ydp, ypl, ykd, ymt, ytd, yht) (nI k) (nI (ck_st f d)) (nI (ck_lo f)) (nI n) := by
  have hst := (ck_stb hv).2.2.2
  have hlo := yc_lo hv
  have hup : ∀ s, ymt s ≠ 0 → upd ymt (yc_n k (ck_st f d) (ck_lo f)) 1 s ≠ 0 := fun s h => by
    by_cases e : s = yc_n k (ck_st f d) (ck_lo f)
    · rw [e, pk_us]; decide
    · rw [pk_un e]; exact h
  refine pk_lt k n (fun z => ⟨yc_h (ck_st f d) + 1, ?_⟩) (fun z => h0 (fun hC => absurd (hC.1 _ _ _ (hM hC)).1 (by omega)) w _ _ _ hw)
  have i4 := hI.2.2.2 k z
  refine yc_15 post hst (by omega) (fun y => ?_) (fun y x => ?_) (fun y x => ?_) (yc_h (ck_st f d)) 0 _ (by omega) (by omega)
  · have hh : yht k = -1 := by
      rcases i4 with q | ⟨st, lo, _, _, a3, _⟩
      · exact q
      · rw [a3] at y
        exact absurd y (nI_pos (by have := yc_h4 st; omega))
    refine yc_54 post (by omega) hst hlo hw he (fun w' td hw' hq => ?_)
    rw [yc_hd hv]
    exact h1 z w' td _ _ hw' (yc_I_up hn z hv hM hI (Or.inl hh) hq) hup (by rw [pk_us]; decide)
  · refine yc_54 post (by omega) hst hlo hw he (fun w' td hw' hq => ?_)
    rw [yc_hd hv] at x ⊢
    exact h1 z w' td _ _ hw' (yc_I_up hn z hv hM hI (Or.inr x) hq) hup (by rw [pk_us]; decide)
  · refine yc_54 post (by omega) hst hlo hw he (fun w' td hw' hq => h0 (fun hC => ?_) w' td _ _ hw')
    rcases i4 with q | ⟨st, lo, a1, a2, a3, a4⟩
    · rw [q] at y
      exact y (by decide)
    · obtain ⟨_, ⟨d', f', b1, b2, b3, b4⟩, _⟩ := hI.2.1 k st lo (by omega) a1 a2 a4
      have := hC.2 _ _ _ _ _ (b4 hC) (hM hC)
      subst this
      rw [a3, b2, yc_hd b1, yc_hd hv] at x
      exact x rfl
/-- a meeting when it is lost already -/
theorem yc_meet_b (post : SY → Prop) {k st lo w e : Nat} (hn : n ≤ 16) (hk : k ≤ 16) (h1 : st < 32) (h2 : lo < 9) (hw : w + yc_un ymt ≤ e) (he : e ≤ 4608)
    (h0 : ∀ w' td mt ht, w' + yc_un mt ≤ e → post (ylim, nI w', ysk, ylo, yrn, ysp, yaw, yan, ywh, you, ymd, 0, yop, yops, ybs, ysz, yex, yst, yow, yle, yel, yla, ysh, yro, yos, yoe, yoh, yor, yrw, ynx, ydp, ypl, ykd, mt, td, ht)) : wpY_meet post (ylim, nI w, ysk, ylo, yrn, ysp, yaw, yan, ywh, you, ymd, 0, yop, yops, ybs, ysz, yex, yst, yow, yle, yel, yla, ysh, yro, yos, yoe, yoh, yor, yrw, ynx, ydp, ypl, ykd, ymt, ytd, yht) (nI k) (nI st) (nI lo) (nI n) := by
  refine pk_lt k n (fun z => ⟨yc_h st + 1, ?_⟩) (fun z => h0 w _ _ _ hw)
  exact yc_15 post h1 (by omega) (fun _ => yc_54 post (by omega) h1 h2 hw he (fun w' td hw' _ => h0 w' td _ _ hw')) (fun _ _ => yc_54 post (by omega) h1 h2 hw he (fun w' td hw' _ => h0 w' td _ _ hw')) (fun _ _ => yc_54 post (by omega) h1 h2 hw he (fun w' td hw' _ => h0 w' td _ _ hw')) (yc_h st) 0 _ (by omega) (by omega)
end YC
