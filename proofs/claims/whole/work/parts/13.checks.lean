/-! THE CHECKS AS A WHOLE -/
section CH
variable {xlim xpc xnd xwc xit xfc xwt xan xlp : Int32}
variable {xpo xpb xwd xwk xnk xco xcb xml xme xro xow xol xla xsh xoe xoh xsr xss xse xms xfm xfa xfd xcv xcr : Nat → Int32}
variable {ylim ywa ysk ylo yrn ysp yaw yan ywh you ygd yop : Int32}
variable {ymd : Int64}
variable {yops ybs ysz yex yow yle yel yla ysh yro yoe yoh yor yrw ynx ydp ypl ykd ymt ytd yht : Nat → Int32}
variable {yst yos : Nat → Int64}
/-- every b fits -/
def ch_fb (op : Nat → Nat) (B : Nat → Int32) (n : Nat) : Prop := ∀ k, k < n → rl_fb (op k) (B k) n
theorem ch_X4 (post : Int32 → Prop) {op : Nat → Nat} {n : Nat} (hn : n ≤ 16) (hc : ∀ k, k < n → op k < 25 ∧ xpo k = nI (op k)) (h1 : ch_fb op xpb n → post 1) (h0 : ¬ ch_fb op xpb n → post 0) :
    ∀ e k m, k + e = n → e < m → (∀ j, j < k → rl_fb (op j) (xpb j) n) → wX_fitsEveryB_4 post (nI n) xlim xpc xnd xwc xit xfc xwt xan xlp xpo xpb xwd xwk xnk xco xcb xml xme xro xow xol xla xsh xoe xoh xsr xss xse xms xfm xfa xfd xcv xcr m 1 (nI k) := by
  intro e
  induction e with
  | zero =>
    intro k m hk hm hj
    obtain ⟨m, rfl⟩ : ∃ q, m = q + 1 := ⟨m - 1, by omega⟩
    obtain rfl : k = n := by omega
    exact br_t (nI_le (Nat.le_refl _) (by omega)) ⟨rfl, h1 hj⟩
  | succ e ih =>
    intro k m hk hm hj
    obtain ⟨m, rfl⟩ : ∃ q, m = q + 2 := ⟨m - 2, by omega⟩
    have e0 : (nI k).toNatClampNeg = k := nI_clamp (by omega)
    refine br_f (nI_ge (by omega) (by omega)) (br_f (by decide) ⟨pk_in k 16 (by omega), pk_in k 16 (by omega), ?_⟩)
    rw [e0, (hc k (by omega)).2]
    refine xf_X _ (hc k (by omega)).1 (fun z => nm_r (nI_1 k) (ih (k + 1) (m + 1) (by omega) (by omega) (fun j hj' => ?_))) (fun z => nm_r (nI_1 k) ?_)
    · by_cases q : j = k
      · rw [q]; exact z
      · exact hj j (by omega)
    · have hno : ¬ ch_fb op xpb n := fun y => z (y k (by omega))
      exact br_c (fun _ => ⟨rfl, h0 hno⟩) (fun _ => br_t rfl ⟨rfl, h0 hno⟩)
theorem ch_X (post : Int32 → Prop) {op : Nat → Nat} {n : Nat} (hn : n ≤ 16) (hc : ∀ k, k < n → op k < 25 ∧ xpo k = nI (op k)) (h1 : ch_fb op xpb n → post 1) (h0 : ¬ ch_fb op xpb n → post 0) : wpX_fitsEveryB post (xlim, xpc, xnd, xwc, xit, xfc, xwt, xan, xlp, xpo, xpb, xwd, xwk, xnk, xco, xcb, xml, xme, xro, xow, xol, xla, xsh, xoe, xoh, xsr, xss, xse, xms, xfm, xfa, xfd, xcv, xcr) (nI n) :=
  ⟨n + 1, ch_X4 post hn hc h1 h0 n 0 (n + 1) (by omega) (by omega) (fun j hj => absurd hj (by omega))⟩
theorem ch_Y54 (post : Int32 → SY → Prop) {op b : Nat → Nat} {n : Nat} (hn0 : 0 < n) (hc : yl_code yops ybs op b n) (hht : ∀ k, k < n → yht k = -1)
    (h1 : ck_good op b n → ∀ wa td mt ht sk lo gd, post 1 (ylim, wa, sk, lo, yrn, ysp, yaw, yan, ywh, you, ymd, gd, yop, yops, ybs, ysz, yex, yst, yow, yle, yel, yla, ysh, yro, yos, yoe, yoh, yor, yrw, ynx, ydp, ypl, ykd, mt, td, ht)) (h0 : ¬ ck_good op b n → ∀ wa td mt ht sk lo gd, post 0 (ylim, wa, sk, lo, yrn, ysp, yaw, yan, ywh, you, ymd, gd, yop, yops, ybs, ysz, yex, yst, yow, yle, yel, yla, ysh, yro, yos, yoe, yoh, yor, yrw, ynx, ydp, ypl, ykd, mt, td, ht)) :
    ∀ e i m mt, i + e = 4608 → e < m → (∀ j, j < i → mt j = 0) → wY_check_54 post (nI n) ylim ywa ysk ylo yrn ysp yaw yan ywh you ymd 1 yop m (nI i) yops ybs ysz yex yst yow yle yel yla ysh yro yos yoe yoh yor yrw ynx ydp ypl ykd mt ytd yht := by
  have hn := hc.1
  intro e
  induction e with
  | zero =>
    intro i m mt hi hm hj
    obtain ⟨m, rfl⟩ : ∃ q, m = q + 1 := ⟨m - 1, by omega⟩
    obtain rfl : i = 4608 := by omega
    have hM : ∃ M : Nat → Nat → (Nat → Nat) → Prop, (ck_good op b n → xw_Ce op b n M) ∧ M 0 0 ck_f0 := by
      by_cases g : ck_good op b n
      · obtain ⟨M, g1, g2, g3⟩ := g
        exact ⟨M, fun _ => ⟨g2, g3⟩, g1⟩
      · exact ⟨fun _ _ _ => True, fun z => absurd z g, trivial⟩
    obtain ⟨M, hM, hM0⟩ := hM
    have hv : ck_va 0 ck_f0 := ⟨by decide, by decide, by decide, fun j h2 hj => absurd hj (by omega)⟩
    have hun : 0 + yc_un mt ≤ 4608 := by
      have : yc_un mt ≤ ck_sm (fun _ => 1) 4608 := ck_sm_le 4608 (fun i _ => by
        show (if mt i = 0 then 1 else 0) ≤ 1
        split <;> omega)
      have h2 : ∀ q, ck_sm (fun _ => 1) q = q := fun q => by
        induction q with
        | zero => rfl
        | succ q ih => show ck_sm (fun _ => 1) q + 1 = q + 1; rw [ih]
      rw [h2] at this
      omega
    have hI : yc_I op b n M (fun _ => False) 0 ytd mt yht := ⟨fun i hi => absurd hi (by omega), fun k st lo a1 a2 a3 a4 => absurd (hj _ (yc_n_lt a1 a2 a3)) a4, fun k st lo a1 a2 a3 a4 => absurd (hj _ (yc_n_lt a1 a2 a3)) a4, fun k hk => Or.inl (hht k hk)⟩
    refine br_t (by decide) ?_
    refine yc_meet (M := M) (op := op) (b := b) (k := 0) (d := 0) (f := ck_f0) (w := 0) (e := 4608) _ hn (by omega) hv (fun _ => hM0) hI hun (by omega) (fun hk w' td' mt' ht' q1 q2 q3 q4 => ?_) (fun hC w' td' mt' ht' q1 => ?_)
    · exact ⟨4609, yl_87 (M := M) post hn0 hc hM h1 h0 4608 4609 w' td' mt' ht' _ _ (by omega) (by omega) q1 q2 q4⟩
    · have hg : ¬ ck_good op b n := fun g => hC (hM g)
      exact ⟨1, br_c (fun _ => ⟨rfl, h0 hg _ _ _ _ _ _ _⟩) (fun _ => br_t rfl ⟨rfl, h0 hg _ _ _ _ _ _ _⟩)⟩
  | succ e ih =>
    intro i m mt hi hm hj
    obtain ⟨m, rfl⟩ : ∃ q, m = q + 1 := ⟨m - 1, by omega⟩
    have b0 : vp_nar .boolean 0 = 0 := by decide
    refine br_f (nI_ge (b := 4608) (by omega) (by decide)) ⟨pk_in i 4608 (by omega), nm_e (nm_r (nI_1 i) (ih (i + 1) m _ (by omega) (by omega) (fun j hj' => ?_)))⟩
    rw [nI_clamp (by omega), b0]
    by_cases q : j = i
    · rw [q, pk_us]
    · rw [pk_un q]
      exact hj j (by omega)
theorem ch_Y7 (post : Int32 → SY → Prop) {op b : Nat → Nat} {n : Nat} (hn0 : 0 < n) (hn : n ≤ 16) (hc : ∀ k, k < n → op k < 25 ∧ yops (96 + k) = nI (op k)) (hb : ∀ k, k < n → b k = (ybs (96 + k)).toNatClampNeg)
    (h1 : ch_fb op (fun k => ybs (96 + k)) n ∧ ck_good op b n → ∀ wa td mt ht sk lo gd, post 1 (ylim, wa, sk, lo, yrn, ysp, yaw, yan, ywh, you, ymd, gd, yop, yops, ybs, ysz, yex, yst, yow, yle, yel, yla, ysh, yro, yos, yoe, yoh, yor, yrw, ynx, ydp, ypl, ykd, mt, td, ht)) (h0 : ¬ (ch_fb op (fun k => ybs (96 + k)) n ∧ ck_good op b n) → ∀ wa td mt ht sk lo gd, post 0 (ylim, wa, sk, lo, yrn, ysp, yaw, yan, ywh, you, ymd, gd, yop, yops, ybs, ysz, yex, yst, yow, yle, yel, yla, ysh, yro, yos, yoe, yoh, yor, yrw, ynx, ydp, ypl, ykd, mt, td, ht)) :
    ∀ e k m ht, k + e = n → e < m → (∀ j, j < k → rl_fb (op j) (ybs (96 + j)) n) → (∀ j, j < k → ht j = -1) → wY_check_7 post (nI n) ylim ywa ysk ylo yrn ysp yaw yan ywh you ymd 1 yop m (nI k) yops ybs ysz yex yst yow yle yel yla ysh yro yos yoe yoh yor yrw ynx ydp ypl ykd ymt ytd ht := by
  intro e
  induction e with
  | zero =>
    intro k m ht hk hm hj hh
    obtain ⟨m, rfl⟩ : ∃ q, m = q + 1 := ⟨m - 1, by omega⟩
    obtain rfl : k = n := by omega
    have hcc : yl_code yops ybs op b k := ⟨hn, fun j hj' => ⟨(hc j hj').1, (hc j hj').2, hj j hj', hb j hj'⟩⟩
    exact br_t (nI_le (Nat.le_refl _) (by omega)) ⟨4609, ch_Y54 post hn0 hcc hh (fun g => h1 ⟨hj, g⟩) (fun g => h0 (fun z => g z.2)) 4608 0 4609 ymt (by omega) (by omega) (fun j hj => absurd hj (by omega))⟩
  | succ e ih =>
    intro k m ht hk hm hj hh
    obtain ⟨m, rfl⟩ : ∃ q, m = q + 1 := ⟨m - 1, by omega⟩
    have e0 : ((96 : Int32) + nI k).toNatClampNeg = 96 + k := pk_cl (96 + k) (nI_add 96 k)
    refine br_f (nI_ge (by omega) (by omega)) ⟨pk_in (96 + k) 112 (by omega) (nI_add 96 k), pk_in (96 + k) 112 (by omega) (nI_add 96 k), ?_⟩
    rw [e0, (hc k (by omega)).2]
    refine xf_Y _ (hc k (by omega)).1 (fun z => br_f (by decide) ⟨pk_in k 16 (by omega), nm_e (nm_r (nI_1 k) (ih (k + 1) m _ (by omega) (by omega) (fun j hj' => ?_) (fun j hj' => ?_)))⟩) (fun z => br_t rfl (h0 (fun y => z (y.1 k (by omega))) _ _ _ _ _ _ _))
    · by_cases q : j = k
      · rw [q]; exact z
      · exact hj j (by omega)
    · rw [nI_clamp (by omega)]
      by_cases q : j = k
      · rw [q, pk_us]
      · rw [pk_un q]
        exact hh j (by omega)
theorem ch_Y (post : Int32 → SY → Prop) {op b : Nat → Nat} {n : Nat} (hn0 : 0 < n) (hn : n ≤ 16) (hc : ∀ k, k < n → op k < 25 ∧ yops (96 + k) = nI (op k)) (hb : ∀ k, k < n → b k = (ybs (96 + k)).toNatClampNeg)
    (h1 : ch_fb op (fun k => ybs (96 + k)) n ∧ ck_good op b n → ∀ wa td mt ht sk lo gd, post 1 (ylim, wa, sk, lo, yrn, ysp, yaw, yan, ywh, you, ymd, gd, yop, yops, ybs, ysz, yex, yst, yow, yle, yel, yla, ysh, yro, yos, yoe, yoh, yor, yrw, ynx, ydp, ypl, ykd, mt, td, ht)) (h0 : ¬ (ch_fb op (fun k => ybs (96 + k)) n ∧ ck_good op b n) → ∀ wa td mt ht sk lo gd, post 0 (ylim, wa, sk, lo, yrn, ysp, yaw, yan, ywh, you, ymd, gd, yop, yops, ybs, ysz, yex, yst, yow, yle, yel, yla, ysh, yro, yos, yoe, yoh, yor, yrw, ynx, ydp, ypl, ykd, mt, td, ht)) : wpY_check post (ylim, ywa, ysk, ylo, yrn, ysp, yaw, yan, ywh, you, ymd, ygd, yop, yops, ybs, ysz, yex, yst, yow, yle, yel, yla, ysh, yro, yos, yoe, yoh, yor, yrw, ynx, ydp, ypl, ykd, ymt, ytd, yht) (nI n) :=
  ⟨n + 1, ch_Y7 post hn0 hn hc hb h1 h0 n 0 (n + 1) yht (by omega) (by omega) (fun j hj => absurd hj (by omega)) (fun j hj => absurd hj (by omega))⟩
end CH
