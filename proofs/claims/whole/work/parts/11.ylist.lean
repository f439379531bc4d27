/-! THE REFERENCE'S CHECK: all of it; and every b -/
section YL
variable {ylim ywa ysk ylo yrn ysp yaw yan ywh you ygd yop : Int32}
variable {ymd : Int64}
variable {yops ybs ysz yex yow yle yel yla ysh yro yoe yoh yor yrw ynx ydp ypl ykd ymt ytd yht : Nat → Int32}
variable {yst yos : Nat → Int64}
variable {op b : Nat → Nat} {n : Nat} {M : Nat → Nat → (Nat → Nat) → Prop}
def yl_code (yops ybs : Nat → Int32) (op b : Nat → Nat) (n : Nat) : Prop := xw_code (fun k => yops (96 + k)) (fun k => ybs (96 + k)) op b n
/-- one state is looked at -/
theorem yl_look (post : SY → Prop) {k d w e : Nat} {f : Nat → Nat} (hc : yl_code yops ybs op b n) (hk : k < n) (hv : ck_va d f) (hM : xw_Ce op b n M → M k d f) (hI : yc_I op b n M (fun s => s = yc_n k (ck_st f d) (ck_lo f)) w ytd ymt yht) (hw : w + yc_un ymt ≤ e) (he : e ≤ 4608)
    (h1 : ∀ w' td mt ht sk lo, w' + yc_un mt ≤ e → yc_I op b n M (fun _ => False) w' td mt ht → (∀ s, ymt s ≠ 0 → mt s ≠ 0) → post (ylim, nI w', sk, lo, yrn, ysp, yaw, yan, ywh, you, ymd, 1, yop, yops, ybs, ysz, yex, yst, yow, yle, yel, yla, ysh, yro, yos, yoe, yoh, yor, yrw, ynx, ydp, ypl, ykd, mt, td, ht))
    (h0 : ¬ xw_Ce op b n M → ∀ wa td mt ht sk lo, post (ylim, wa, sk, lo, yrn, ysp, yaw, yan, ywh, you, ymd, 0, yop, yops, ybs, ysz, yex, yst, yow, yle, yel, yla, ysh, yro, yos, yoe, yoh, yor, yrw, ynx, ydp, ypl, ykd, mt, td, ht)) : wpY_look post (ylim, nI w, nI (ck_st f d), nI (ck_lo f), yrn, ysp, yaw, yan, ywh, you, ymd, 1, yop, yops, ybs, ysz, yex, yst, yow, yle, yel, yla, ysh, yro, yos, yoe, yoh, yor, yrw, ynx, ydp, ypl, ykd, ymt, ytd, yht) (nI k) (nI n) := by
  have hn := hc.1
  obtain ⟨ho, hpo, hfb, hb⟩ := hc.2 k hk
  obtain ⟨hb12, hb78⟩ := xw_code_b hc hk
  have hp := xw_code_p hc k hk
  obtain ⟨y1, y2⟩ := ck_yL _ d f hp hv
  refine yk_op (b := b k) (o := op k) post (by omega) (ck_stb hv).2.2.2 (yc_lo hv) ho hpo rfl hb12 (fun hy => ?_) (fun hy sk lo => h0 (fun hC => hy (y1.mp (hC.1 _ _ _ (hM hC)).2.1)) _ _ _ _ _ _)
  obtain ⟨v1, v2, v3⟩ := y2 (y1.mpr hy)
  have hok := y1.mpr hy
  rw [← v2, ← v3]
  have done : ∀ w' td mt ht, yc_I op b n M (fun s => s = yc_n k (ck_st f d) (ck_lo f)) w' td mt ht → ck_yp op b n (fun s => mt s ≠ 0) k (ck_st f d) (ck_lo f) → yc_I op b n M (fun _ => False) w' td mt ht := fun w' td mt ht i hq => by
    refine ⟨i.1, i.2.1, fun k' st lo hk' a1 a2 a3 => ?_, i.2.2.2⟩
    rcases i.2.2.1 k' st lo hk' a1 a2 a3 with q | q | q
    · obtain ⟨rfl, rfl, rfl⟩ := yc_inj q a1 a2 (ck_stb hv).2.2.2 (yc_lo hv)
      exact Or.inr (Or.inr hq)
    · exact Or.inr (Or.inl q)
    · exact Or.inr (Or.inr q)
  have last : ∀ w' td mt ht, op k ≠ 19 → w' + yc_un mt ≤ e → yc_I op b n M (fun s => s = yc_n k (ck_st f d) (ck_lo f)) w' td mt ht → (∀ s, ymt s ≠ 0 → mt s ≠ 0) → ((op k = 7 ∨ op k = 8) → b k < n ∧ mt (yc_n (b k) (ck_st (ck_rk (ck_pg (op k) (b k)) d f) (ck_rd (ck_pg (op k) (b k)) d)) (ck_lo (ck_rk (ck_pg (op k) (b k)) d f))) ≠ 0) → wY_look_320 post (nI k) (nI n) (nI (op k)) ylim (nI w') (nI (ck_st (ck_rk (ck_pg (op k) (b k)) d f) (ck_rd (ck_pg (op k) (b k)) d))) (nI (ck_lo (ck_rk (ck_pg (op k) (b k)) d f))) yrn ysp yaw yan ywh you ymd 1 yop yops ybs ysz yex yst yow yle yel yla ysh yro yos yoe yoh yor yrw ynx ydp ypl ykd mt td ht := fun w' td mt ht h19 hw' i hup hj => by
    refine pk_eq (op k) 7 (fun z => h1 _ _ _ _ _ _ hw' (done _ _ _ _ i ⟨hy, fun q => ?_, fun q => absurd z q.1⟩) hup) (fun z => ?_)
    · have := hj q
      rw [v2, v3] at this
      exact this
    · rw [nI_1]
      refine yc_meet (M := M) (op := op) (b := b) _ hn (by omega) v1 (fun hC => (hC.1 _ _ _ (hM hC)).2.2.2 ⟨z, h19⟩) i hw' he (fun hk' w2 td2 mt2 ht2 hw2 i2 hup2 hm2 => h1 _ _ _ _ _ _ hw2 (done _ _ _ _ i2 ⟨hy, fun q => ?_, fun q => ?_⟩) (fun s hs => hup2 s (hup s hs))) (fun hC w2 td2 mt2 ht2 hw2 => h0 hC _ _ _ _ _ _)
      · have := hj q
        rw [v2, v3] at this
        exact ⟨this.1, hup2 _ this.2⟩
      · rw [v2, v3] at hm2
        exact ⟨hk', hm2⟩
  refine br_f (by decide) (pk_eq (op k) 19 (fun z => ?_) (fun z => ?_))
  · exact h1 _ _ _ _ _ _ hw (done _ _ _ _ hI ⟨hy, fun q => absurd q (by omega), fun q => absurd z q.2⟩) (fun _ h => h)
  · have jump : (op k = 7 ∨ op k = 8) → wY_look_305 post (nI k) (nI n) (nI (op k)) (ybs (96 + k)) ylim (nI w) (nI (ck_st (ck_rk (ck_pg (op k) (b k)) d f) (ck_rd (ck_pg (op k) (b k)) d))) (nI (ck_lo (ck_rk (ck_pg (op k) (b k)) d f))) yrn ysp yaw yan ywh you ymd 1 yop yops ybs ysz yex yst yow yle yel yla ysh yro yos yoe yoh yor yrw ynx ydp ypl ykd ymt ytd yht := fun y => by
      obtain ⟨q1, q2⟩ := hb78 y
      have q2' : ybs (96 + k) = nI (b k) := q2
      rw [q2']
      refine yc_meet (M := M) (op := op) (b := b) _ hn (by omega) v1 (fun hC => (hC.1 _ _ _ (hM hC)).2.2.1 y) hI hw he (fun hk' w2 td2 mt2 ht2 hw2 i2 hup2 hm2 => last _ _ _ _ z hw2 i2 hup2 (fun _ => ⟨q1, hm2⟩)) (fun hC w2 td2 mt2 ht2 hw2 => ?_)
      refine br_c (fun _ => h0 hC _ _ _ _ _ _) (fun _ => ?_)
      rw [nI_1]
      exact yc_meet_b (e := e) _ hn (by omega) (ck_stb v1).2.2.2 (yc_lo v1) hw2 he (fun _ _ _ _ _ => h0 hC _ _ _ _ _ _)
    exact pk_eq (op k) 7 (fun y => jump (Or.inl y)) (fun y => pk_eq (op k) 8 (fun x => jump (Or.inr x)) (fun x => last _ _ _ _ z hw hI (fun _ h => h) (fun q => absurd q (by omega))))
theorem yl_87 (post : Int32 → SY → Prop) (hn0 : 0 < n) (hc : yl_code yops ybs op b n) (hM : ck_good op b n → xw_Ce op b n M)
    (h1 : ck_good op b n → ∀ wa td mt ht sk lo gd, post 1 (ylim, wa, sk, lo, yrn, ysp, yaw, yan, ywh, you, ymd, gd, yop, yops, ybs, ysz, yex, yst, yow, yle, yel, yla, ysh, yro, yos, yoe, yoh, yor, yrw, ynx, ydp, ypl, ykd, mt, td, ht)) (h0 : ¬ ck_good op b n → ∀ wa td mt ht sk lo gd, post 0 (ylim, wa, sk, lo, yrn, ysp, yaw, yan, ywh, you, ymd, gd, yop, yops, ybs, ysz, yex, yst, yow, yle, yel, yla, ysh, yro, yos, yoe, yoh, yor, yrw, ynx, ydp, ypl, ykd, mt, td, ht)) :
    ∀ e m w td mt ht sk lo, e ≤ 4608 → e < m → w + yc_un mt ≤ e → yc_I op b n M (fun _ => False) w td mt ht → mt 10 ≠ 0 → wY_check_87 post (nI n) m ylim (nI w) sk lo yrn ysp yaw yan ywh you ymd 1 yop yops ybs ysz yex yst yow yle yel yla ysh yro yos yoe yoh yor yrw ynx ydp ypl ykd mt td ht := by
  have hn := hc.1
  have fin : ∀ td mt ht sk lo, yc_I op b n M (fun _ => False) 0 td mt ht → mt 10 ≠ 0 → post 1 (ylim, nI 0, sk, lo, yrn, ysp, yaw, yan, ywh, you, ymd, 1, yop, yops, ybs, ysz, yex, yst, yow, yle, yel, yla, ysh, yro, yos, yoe, yoh, yor, yrw, ynx, ydp, ypl, ykd, mt, td, ht) := fun td mt ht sk lo hI h10 => by
    refine h1 (ck_yg (met := fun s => mt s ≠ 0) (H := fun k => (ht k).toNatClampNeg) hn0 (xw_code_p hc) h10 (fun k st lo hk a1 a2 a3 => ?_) (fun k d f hk hv hm => ?_)) _ _ _ _ _ _ _
    · rcases hI.2.2.1 k st lo (by omega) a1 a2 a3 with q | ⟨i, hi, _⟩ | q
      · exact q.elim
      · exact absurd hi (by omega)
      · exact q
    · have := (hI.2.1 k (ck_st f d) (ck_lo f) (by omega) (ck_stb hv).2.2.2 (yc_lo hv) hm).2.2
      show (ht k).toNatClampNeg = d
      rw [this, yc_hd hv, nI_clamp (by have := hv.1; omega)]
  intro e
  induction e with
  | zero =>
    intro m w td mt ht sk lo he hm hw hI h10
    obtain ⟨m, rfl⟩ : ∃ q, m = q + 1 := ⟨m - 1, by omega⟩
    obtain rfl : w = 0 := by omega
    exact br_t (by decide) ⟨rfl, fin td mt ht sk lo hI h10⟩
  | succ e ih =>
    intro m w td mt ht sk lo he hm hw hI h10
    obtain ⟨m, rfl⟩ : ∃ q, m = q + 2 := ⟨m - 2, by omega⟩
    cases w with
    | zero => exact br_t (by decide) ⟨rfl, fin td mt ht sk lo hI h10⟩
    | succ w =>
      obtain ⟨k, st, lo', a1, a2, a3, a4, a5⟩ := hI.1 w (by omega)
      obtain ⟨_, ⟨d, f, c1, c2, c3, c4⟩, _⟩ := hI.2.1 k st lo' (by omega) a2 a3 a5
      have hs := yc_n_lt (k := k) (by omega) a2 a3
      have e9 : nI (yc_n k st lo') / 9 = nI (k * 32 + st) := by
        rw [show nI (yc_n k st lo') / 9 = nI (yc_n k st lo' / 9) from pk_div (d := 9) (by omega) (by decide) (by decide)]
        exact congrArg nI (by unfold yc_n; omega)
      have est : nI (yc_n k st lo') / 9 - nI (yc_n k st lo') / 9 / 32 * 32 = nI st := by
        rw [e9, show nI (k * 32 + st) - nI (k * 32 + st) / 32 * 32 = nI ((k * 32 + st) % 32) from pk_rem (d := 32) (by omega) (by decide) (by decide)]
        exact congrArg nI (by omega)
      have elo : nI (yc_n k st lo') - nI (yc_n k st lo') / 9 * 9 = nI lo' := by
        rw [show nI (yc_n k st lo') - nI (yc_n k st lo') / 9 * 9 = nI (yc_n k st lo' % 9) from pk_rem (d := 9) (by omega) (by decide) (by decide)]
        exact congrArg nI (by unfold yc_n; omega)
      have ek : nI (yc_n k st lo') / 288 = nI k := by
        rw [show nI (yc_n k st lo') / 288 = nI (yc_n k st lo' / 288) from pk_div (d := 288) (by omega) (by decide) (by decide)]
        exact congrArg nI (by unfold yc_n; omega)
      have ew : nI (w + 1) - 1 = nI w := nI_pred w
      have et : td (nI (w + 1) - 1).toNatClampNeg = nI (yc_n k st lo') := by rw [ew, nI_clamp (by omega)]; exact a4
      refine br_f (nI_nle (by omega) (by omega)) (br_f (by decide) (nm_r ew ⟨by rw [ew]; exact pk_in w 4608 (by omega), nm_r et ⟨by decide, by decide, nm_r est ⟨by decide, nm_r elo ⟨by decide, ?_⟩⟩⟩⟩))
      rw [ek, c2, c3]
      refine yl_look (M := M) (op := op) (b := b) (e := e) _ hc a1 c1 c4 ⟨fun i hi => hI.1 i (by omega), hI.2.1, fun k' st' lo2 b1 b2 b3 b4 => ?_, hI.2.2.2⟩ (by omega) (by omega) (fun w' td' mt' ht' sk' lo2 q1 q2 q3 => ih (m + 1) w' td' mt' ht' sk' lo2 (by omega) (by omega) q1 q2 (q3 _ h10)) (fun hC wa' td' mt' ht' sk' lo2 => ?_)
      · rcases hI.2.2.1 k' st' lo2 b1 b2 b3 b4 with q | ⟨i, hi, q⟩ | q
        · exact q.elim
        · by_cases ei : i = w
          · subst ei
            refine Or.inl ?_
            rw [a4] at q
            have := (nI_eq (by omega) (by have := yc_n_lt b1 b2 b3; omega)).mp q
            rw [← this, c2, c3]
          · exact Or.inr (Or.inl ⟨i, by omega, q⟩)
        · exact Or.inr (Or.inr q)
      · have hg : ¬ ck_good op b n := fun g => hC (hM g)
        exact br_c (fun _ => ⟨rfl, h0 hg _ _ _ _ _ _ _⟩) (fun _ => br_t rfl ⟨rfl, h0 hg _ _ _ _ _ _ _⟩)
end YL
