theorem i_vc0 : wpX_init (fun u => wpY_init (fun v => i_Rel 0 u v)) := by
  unfold wpX_init wpX_clear
  refine wx_reset ?_
  unfold wpY_init
  refine wy_clear ?_
  refine hr_R_mk (N := 0) (mc := 0) (pn := 0) (by omega) (fun t ht => by omega) (by omega) (Or.inl ⟨rfl, rfl⟩) hv_K0 (by omega) (fun i hi => by omega) (fun i hi => ?_)
  rw [zk_lt hi, zk_lt hi]; exact hv_K0
theorem i_vc_clear {k : Nat} {u : SX} {v : SY} (I : i_Rel k u v) (hk : k + 3 ≤ 1536) : wpX_clear (fun u' => wpY_clear (fun v' => i_Rel (k + 3) u' v') v) u := by
  obtain ⟨xn, xm, xo, xr, xpn, xf, xd, xa, xh, xp, xt, xv, xy, tk, tv, af, dp, ib, ms, pr, gl, aH, aP, aB, lo, hP, pT, pL, pV⟩ := u
  obtain ⟨yn, yr, ym, yo, yrk, yrv, ypn, yf, yd, ya, yac, yw, yv, y1, y2, y3, tk2, tv2, pk, pv, gk, gv, gh, cn, cd, cD, cP, lk, lv, lh, yH, yPk, yPv, yPh, yM, yA, wt, wa, ws, wb, wx, vk, vv, vh⟩ := v
  have I' := I
  obtain ⟨N, mc, pn, rfl, rfl, hN, rfl, rfl, hT, rfl, hm8, hG, rfl, rfl, rfl, hr, rfl, rfl, hpn, hp, hg⟩ := I
  unfold wpX_clear
  refine wx_reset ?_
  refine wy_clear ?_
  refine hr_R_mk (N := 0) (mc := 0) (pn := 0) (by omega) (fun t ht => by omega) (by omega) (Or.inl ⟨rfl, rfl⟩) hv_K0 (by omega) (fun i hi => by omega) (fun i hi => ?_)
  rw [zk_lt hi, zk_lt hi, zk_lt hi]; exact hv_K0
theorem i_vc_tokenCount {k : Nat} {u : SX} {v : SY} (I : i_Rel k u v) (hk : k + 3 ≤ 1536) : wpX_tokenCount (fun r => wpY_tokenCount (fun r' => r' = r ∧ i_Rel (k + 3) u v) v) u := by
  obtain ⟨xn, xm, xo, xr, xpn, xf, xd, xa, xh, xp, xt, xv, xy, tk, tv, af, dp, ib, ms, pr, gl, aH, aP, aB, lo, hP, pT, pL, pV⟩ := u
  obtain ⟨yn, yr, ym, yo, yrk, yrv, ypn, yf, yd, ya, yac, yw, yv, y1, y2, y3, tk2, tv2, pk, pv, gk, gv, gh, cn, cd, cD, cP, lk, lv, lh, yH, yPk, yPv, yPh, yM, yA, wt, wa, ws, wb, wx, vk, vv, vh⟩ := v
  have I' := I
  obtain ⟨N, mc, pn, rfl, rfl, hN, rfl, rfl, hT, rfl, hm8, hG, rfl, rfl, rfl, hr, rfl, rfl, hpn, hp, hg⟩ := I
  exact And.intro rfl I'
theorem i_vc_outcome {k : Nat} {u : SX} {v : SY} (I : i_Rel k u v) (hk : k + 3 ≤ 1536) : wpX_outcome (fun r => wpY_outcome (fun r' => r' = r ∧ i_Rel (k + 3) u v) v) u := by
  obtain ⟨xn, xm, xo, xr, xpn, xf, xd, xa, xh, xp, xt, xv, xy, tk, tv, af, dp, ib, ms, pr, gl, aH, aP, aB, lo, hP, pT, pL, pV⟩ := u
  obtain ⟨yn, yr, ym, yo, yrk, yrv, ypn, yf, yd, ya, yac, yw, yv, y1, y2, y3, tk2, tv2, pk, pv, gk, gv, gh, cn, cd, cD, cP, lk, lv, lh, yH, yPk, yPv, yPh, yM, yA, wt, wa, ws, wb, wx, vk, vv, vh⟩ := v
  have I' := I
  obtain ⟨N, mc, pn, rfl, rfl, hN, rfl, rfl, hT, rfl, hm8, hG, rfl, rfl, rfl, hr, rfl, rfl, hpn, hp, hg⟩ := I
  exact And.intro rfl I'
theorem i_vc_printCount {k : Nat} {u : SX} {v : SY} (I : i_Rel k u v) (hk : k + 3 ≤ 1536) : wpX_printCount (fun r => wpY_printCount (fun r' => r' = r ∧ i_Rel (k + 3) u v) v) u := by
  obtain ⟨xn, xm, xo, xr, xpn, xf, xd, xa, xh, xp, xt, xv, xy, tk, tv, af, dp, ib, ms, pr, gl, aH, aP, aB, lo, hP, pT, pL, pV⟩ := u
  obtain ⟨yn, yr, ym, yo, yrk, yrv, ypn, yf, yd, ya, yac, yw, yv, y1, y2, y3, tk2, tv2, pk, pv, gk, gv, gh, cn, cd, cD, cP, lk, lv, lh, yH, yPk, yPv, yPh, yM, yA, wt, wa, ws, wb, wx, vk, vv, vh⟩ := v
  have I' := I
  obtain ⟨N, mc, pn, rfl, rfl, hN, rfl, rfl, hT, rfl, hm8, hG, rfl, rfl, rfl, hr, rfl, rfl, hpn, hp, hg⟩ := I
  exact And.intro rfl I'
theorem i_vc_fuelLeft {k : Nat} {u : SX} {v : SY} (I : i_Rel k u v) (hk : k + 3 ≤ 1536) : wpX_fuelLeft (fun r => wpY_fuelLeft (fun r' => r' = r ∧ i_Rel (k + 3) u v) v) u := by
  obtain ⟨xn, xm, xo, xr, xpn, xf, xd, xa, xh, xp, xt, xv, xy, tk, tv, af, dp, ib, ms, pr, gl, aH, aP, aB, lo, hP, pT, pL, pV⟩ := u
  obtain ⟨yn, yr, ym, yo, yrk, yrv, ypn, yf, yd, ya, yac, yw, yv, y1, y2, y3, tk2, tv2, pk, pv, gk, gv, gh, cn, cd, cD, cP, lk, lv, lh, yH, yPk, yPv, yPh, yM, yA, wt, wa, ws, wb, wx, vk, vv, vh⟩ := v
  have I' := I
  obtain ⟨N, mc, pn, rfl, rfl, hN, rfl, rfl, hT, rfl, hm8, hG, rfl, rfl, rfl, hr, rfl, rfl, hpn, hp, hg⟩ := I
  exact And.intro rfl I'
theorem i_vc_maxDepth {k : Nat} {u : SX} {v : SY} (I : i_Rel k u v) (hk : k + 3 ≤ 1536) : wpX_maxDepth (fun r => wpY_maxDepth (fun r' => r' = r ∧ i_Rel (k + 3) u v) v) u := by
  obtain ⟨xn, xm, xo, xr, xpn, xf, xd, xa, xh, xp, xt, xv, xy, tk, tv, af, dp, ib, ms, pr, gl, aH, aP, aB, lo, hP, pT, pL, pV⟩ := u
  obtain ⟨yn, yr, ym, yo, yrk, yrv, ypn, yf, yd, ya, yac, yw, yv, y1, y2, y3, tk2, tv2, pk, pv, gk, gv, gh, cn, cd, cD, cP, lk, lv, lh, yH, yPk, yPv, yPh, yM, yA, wt, wa, ws, wb, wx, vk, vv, vh⟩ := v
  have I' := I
  obtain ⟨N, mc, pn, rfl, rfl, hN, rfl, rfl, hT, rfl, hm8, hG, rfl, rfl, rfl, hr, rfl, rfl, hpn, hp, hg⟩ := I
  exact And.intro rfl I'
theorem i_vc_methodCount {k : Nat} {u : SX} {v : SY} (I : i_Rel k u v) (hk : k + 3 ≤ 1536) : wpX_methodCount (fun r => wpY_methodCount (fun r' => r' = r ∧ i_Rel (k + 3) u v) v) u := by
  obtain ⟨xn, xm, xo, xr, xpn, xf, xd, xa, xh, xp, xt, xv, xy, tk, tv, af, dp, ib, ms, pr, gl, aH, aP, aB, lo, hP, pT, pL, pV⟩ := u
  obtain ⟨yn, yr, ym, yo, yrk, yrv, ypn, yf, yd, ya, yac, yw, yv, y1, y2, y3, tk2, tv2, pk, pv, gk, gv, gh, cn, cd, cD, cP, lk, lv, lh, yH, yPk, yPv, yPh, yM, yA, wt, wa, ws, wb, wx, vk, vv, vh⟩ := v
  have I' := I
  obtain ⟨N, mc, pn, rfl, rfl, hN, rfl, rfl, hT, rfl, hm8, hG, rfl, rfl, rfl, hr, rfl, rfl, hpn, hp, hg⟩ := I
  rcases hG with ⟨rfl, rfl⟩ | ⟨rfl, rfl, -⟩
  · exact br_t rfl (And.intro rfl I')
  · exact br_f (by decide) (And.intro rfl I')
theorem i_vc_resultKind {k : Nat} {u : SX} {v : SY} (I : i_Rel k u v) (hk : k + 3 ≤ 1536) : wpX_resultKind (fun r => wpY_resultKind (fun r' => r' = r ∧ i_Rel (k + 3) u v) v) u := by
  obtain ⟨xn, xm, xo, xr, xpn, xf, xd, xa, xh, xp, xt, xv, xy, tk, tv, af, dp, ib, ms, pr, gl, aH, aP, aB, lo, hP, pT, pL, pV⟩ := u
  obtain ⟨yn, yr, ym, yo, yrk, yrv, ypn, yf, yd, ya, yac, yw, yv, y1, y2, y3, tk2, tv2, pk, pv, gk, gv, gh, cn, cd, cD, cP, lk, lv, lh, yH, yPk, yPv, yPh, yM, yA, wt, wa, ws, wb, wx, vk, vv, vh⟩ := v
  have I' := I
  obtain ⟨N, mc, pn, rfl, rfl, hN, rfl, rfl, hT, rfl, hm8, hG, rfl, rfl, rfl, hr, rfl, rfl, hpn, hp, hg⟩ := I
  unfold wpX_resultKind
  exact wx_kind hr (And.intro rfl I')
theorem i_vc_resultValue {k : Nat} {u : SX} {v : SY} (I : i_Rel k u v) (hk : k + 3 ≤ 1536) : wpX_resultValue (fun r => wpY_resultValue (fun r' => r' = r ∧ i_Rel (k + 3) u v) v) u := by
  obtain ⟨xn, xm, xo, xr, xpn, xf, xd, xa, xh, xp, xt, xv, xy, tk, tv, af, dp, ib, ms, pr, gl, aH, aP, aB, lo, hP, pT, pL, pV⟩ := u
  obtain ⟨yn, yr, ym, yo, yrk, yrv, ypn, yf, yd, ya, yac, yw, yv, y1, y2, y3, tk2, tv2, pk, pv, gk, gv, gh, cn, cd, cD, cP, lk, lv, lh, yH, yPk, yPv, yPh, yM, yA, wt, wa, ws, wb, wx, vk, vv, vh⟩ := v
  have I' := I
  obtain ⟨N, mc, pn, rfl, rfl, hN, rfl, rfl, hT, rfl, hm8, hG, rfl, rfl, rfl, hr, rfl, rfl, hpn, hp, hg⟩ := I
  exact And.intro hr.1.symm I'
theorem i_vc_printKind {k : Nat} {u : SX} {v : SY} (I : i_Rel k u v) (hk : k + 3 ≤ 1536) (v1 : Int32) : wpX_printKind (fun r => wpY_printKind (fun r' => r' = r ∧ i_Rel (k + 3) u v) v v1) u v1 := by
  obtain ⟨xn, xm, xo, xr, xpn, xf, xd, xa, xh, xp, xt, xv, xy, tk, tv, af, dp, ib, ms, pr, gl, aH, aP, aB, lo, hP, pT, pL, pV⟩ := u
  obtain ⟨yn, yr, ym, yo, yrk, yrv, ypn, yf, yd, ya, yac, yw, yv, y1, y2, y3, tk2, tv2, pk, pv, gk, gv, gh, cn, cd, cD, cP, lk, lv, lh, yH, yPk, yPv, yPh, yM, yA, wt, wa, ws, wb, wx, vk, vv, vh⟩ := v
  have I' := I
  obtain ⟨N, mc, pn, rfl, rfl, hN, rfl, rfl, hT, rfl, hm8, hG, rfl, rfl, rfl, hr, rfl, rfl, hpn, hp, hg⟩ := I
  rcases pk_ix v1 (n := pn) (by omega) with z | z | ⟨j, hj, rfl⟩
  · exact br_t z (br_t z (And.intro rfl I'))
  · have z0 : ¬ v1 < 0 := fun x => absurd (Int32.lt_of_le_of_lt z x) (nI_pos (by omega))
    exact br_f z0 (br_t z (br_f z0 (br_f (Int32.not_lt.mpr z) (And.intro rfl I'))))
  · have z0 : ¬ nI j < 0 := nI_pos (by omega)
    have e : (nI j).toNatClampNeg = j := nI_clamp (by omega)
    have i1 : vp_in (nI j) 32 := vp_in_nI (by omega) (by omega)
    have q := hp j hj
    refine br_f z0 (br_f (nI_ge hj (by omega)) ⟨i1, ?_⟩)
    rw [e]
    exact wx_kind q (br_f z0 (br_t (nI_lt hj (by omega)) ⟨i1, And.intro (congrArg pk e) I'⟩))
theorem i_vc_printValue {k : Nat} {u : SX} {v : SY} (I : i_Rel k u v) (hk : k + 3 ≤ 1536) (v1 : Int32) : wpX_printValue (fun r => wpY_printValue (fun r' => r' = r ∧ i_Rel (k + 3) u v) v v1) u v1 := by
  obtain ⟨xn, xm, xo, xr, xpn, xf, xd, xa, xh, xp, xt, xv, xy, tk, tv, af, dp, ib, ms, pr, gl, aH, aP, aB, lo, hP, pT, pL, pV⟩ := u
  obtain ⟨yn, yr, ym, yo, yrk, yrv, ypn, yf, yd, ya, yac, yw, yv, y1, y2, y3, tk2, tv2, pk, pv, gk, gv, gh, cn, cd, cD, cP, lk, lv, lh, yH, yPk, yPv, yPh, yM, yA, wt, wa, ws, wb, wx, vk, vv, vh⟩ := v
  have I' := I
  obtain ⟨N, mc, pn, rfl, rfl, hN, rfl, rfl, hT, rfl, hm8, hG, rfl, rfl, rfl, hr, rfl, rfl, hpn, hp, hg⟩ := I
  rcases pk_ix v1 (n := pn) (by omega) with z | z | ⟨j, hj, rfl⟩
  · exact br_t z (br_t z (And.intro rfl I'))
  · have z0 : ¬ v1 < 0 := fun x => absurd (Int32.lt_of_le_of_lt z x) (nI_pos (by omega))
    exact br_f z0 (br_t z (br_f z0 (br_f (Int32.not_lt.mpr z) (And.intro rfl I'))))
  · have z0 : ¬ nI j < 0 := nI_pos (by omega)
    have e : (nI j).toNatClampNeg = j := nI_clamp (by omega)
    have i1 : vp_in (nI j) 32 := vp_in_nI (by omega) (by omega)
    have q := hp j hj
    refine br_f z0 (br_f (nI_ge hj (by omega)) ⟨i1, ?_⟩)
    rw [e]
    exact br_f z0 (br_t (nI_lt hj (by omega)) ⟨i1, And.intro ((congrArg pv e).trans q.1.symm) I'⟩)
theorem i_vc_globalKind {k : Nat} {u : SX} {v : SY} (I : i_Rel k u v) (hk : k + 3 ≤ 1536) (v1 : Int32) : wpX_globalKind (fun r => wpY_globalKind (fun r' => r' = r ∧ i_Rel (k + 3) u v) v v1) u v1 := by
  obtain ⟨xn, xm, xo, xr, xpn, xf, xd, xa, xh, xp, xt, xv, xy, tk, tv, af, dp, ib, ms, pr, gl, aH, aP, aB, lo, hP, pT, pL, pV⟩ := u
  obtain ⟨yn, yr, ym, yo, yrk, yrv, ypn, yf, yd, ya, yac, yw, yv, y1, y2, y3, tk2, tv2, pk, pv, gk, gv, gh, cn, cd, cD, cP, lk, lv, lh, yH, yPk, yPv, yPh, yM, yA, wt, wa, ws, wb, wx, vk, vv, vh⟩ := v
  have I' := I
  obtain ⟨N, mc, pn, rfl, rfl, hN, rfl, rfl, hT, rfl, hm8, hG, rfl, rfl, rfl, hr, rfl, rfl, hpn, hp, hg⟩ := I
  rcases pk_ix v1 (n := 8) (by omega) with z | z | ⟨j, hj, rfl⟩
  · exact br_t z (br_t z (And.intro rfl I'))
  · have z0 : ¬ v1 < 0 := fun x => absurd (Int32.lt_of_le_of_lt z x) (by decide)
    have z7 : ¬ v1 ≤ 7 := fun x => absurd (Int32.le_trans z x) (by decide)
    exact br_f z0 (br_t z (br_f z0 (br_f z7 (And.intro rfl I'))))
  · have z0 : ¬ nI j < 0 := nI_pos (by omega)
    have e : (nI j).toNatClampNeg = j := nI_clamp (by omega)
    have i1 : vp_in (nI j) 8 := vp_in_nI (by omega) (by omega)
    have q := hg j hj
    refine br_f z0 (br_f (nI_ge (b := 8) hj (by decide)) ⟨i1, ?_⟩)
    rw [e]
    exact wx_kind q (br_f z0 (br_t (nI_le (b := 7) (by omega) (by decide)) ⟨i1, And.intro (congrArg gk e) I'⟩))
theorem i_vc_globalValue {k : Nat} {u : SX} {v : SY} (I : i_Rel k u v) (hk : k + 3 ≤ 1536) (v1 : Int32) : wpX_globalValue (fun r => wpY_globalValue (fun r' => r' = r ∧ i_Rel (k + 3) u v) v v1) u v1 := by
  obtain ⟨xn, xm, xo, xr, xpn, xf, xd, xa, xh, xp, xt, xv, xy, tk, tv, af, dp, ib, ms, pr, gl, aH, aP, aB, lo, hP, pT, pL, pV⟩ := u
  obtain ⟨yn, yr, ym, yo, yrk, yrv, ypn, yf, yd, ya, yac, yw, yv, y1, y2, y3, tk2, tv2, pk, pv, gk, gv, gh, cn, cd, cD, cP, lk, lv, lh, yH, yPk, yPv, yPh, yM, yA, wt, wa, ws, wb, wx, vk, vv, vh⟩ := v
  have I' := I
  obtain ⟨N, mc, pn, rfl, rfl, hN, rfl, rfl, hT, rfl, hm8, hG, rfl, rfl, rfl, hr, rfl, rfl, hpn, hp, hg⟩ := I
  rcases pk_ix v1 (n := 8) (by omega) with z | z | ⟨j, hj, rfl⟩
  · exact br_t z (br_t z (And.intro rfl I'))
  · have z0 : ¬ v1 < 0 := fun x => absurd (Int32.lt_of_le_of_lt z x) (by decide)
    have z7 : ¬ v1 ≤ 7 := fun x => absurd (Int32.le_trans z x) (by decide)
    exact br_f z0 (br_t z (br_f z0 (br_f z7 (And.intro rfl I'))))
  · have z0 : ¬ nI j < 0 := nI_pos (by omega)
    have e : (nI j).toNatClampNeg = j := nI_clamp (by omega)
    have i1 : vp_in (nI j) 8 := vp_in_nI (by omega) (by omega)
    have q := hg j hj
    refine br_f z0 (br_f (nI_ge (b := 8) hj (by decide)) ⟨i1, ?_⟩)
    rw [e]
    exact br_f z0 (br_t (nI_le (b := 7) (by omega) (by decide)) ⟨i1, And.intro ((congrArg gv e).trans q.1.symm) I'⟩)
def hk_ok (k : Nat) (b : Int32) : Prop := (k = 1 ∨ k = 2 → ∃ j, j < 4 ∧ b = nI j) ∧ (k = 3 ∨ k = 4 → ∃ j, j < 8 ∧ b = nI j) ∧ (k = 15 → ∃ j, j < 8 ∧ b = nI j)
theorem hk_r (b : Int32) {n : Nat} (hn : n < 100) : (b < 0 ∧ ¬ ∃ j, j < n ∧ b = nI j) ∨ (nI n ≤ b ∧ ¬ b < 0 ∧ ¬ ∃ j, j < n ∧ b = nI j) ∨ (¬ b < 0 ∧ ¬ nI n ≤ b ∧ ∃ j, j < n ∧ b = nI j) := by
  rcases pk_ix b (n := n) (by omega) with z | z | ⟨j, hj, rfl⟩
  · exact Or.inl ⟨z, fun ⟨j, hj, e⟩ => by rw [e] at z; exact absurd z (nI_pos (by omega))⟩
  · exact Or.inr (Or.inl ⟨z, fun x => absurd (Int32.lt_of_le_of_lt z x) (nI_pos (by omega)), fun ⟨j, hj, e⟩ => by rw [e] at z; exact absurd z (nI_ge hj (by omega))⟩)
  · exact Or.inr (Or.inr ⟨nI_pos (by omega), nI_ge hj (by omega), j, hj, rfl⟩)
theorem hk_n7 {b : Int32} (h : ¬ nI 8 ≤ b) : b ≤ 7 := by
  rw [Int32.le_iff_toInt_le] at h ⊢
  have : (nI 8).toInt = 8 := by decide
  have : (7 : Int32).toInt = 7 := by decide
  omega
theorem hk_n3 {b : Int32} (h : ¬ nI 4 ≤ b) : b ≤ 3 := by
  rw [Int32.le_iff_toInt_le] at h ⊢
  have : (nI 4).toInt = 4 := by decide
  have : (3 : Int32).toInt = 3 := by decide
  omega
theorem hk_8 {b : Int32} (h : nI 8 ≤ b) : ¬ b ≤ 7 := fun x => absurd (Int32.le_trans h x) (by decide)
theorem hk_4 {b : Int32} (h : nI 4 ≤ b) : ¬ b ≤ 3 := fun x => absurd (Int32.le_trans h x) (by decide)
theorem wx_acc {post : Int32 → Prop} {b : Int32} : ∀ {k : Nat}, k ≤ 16 → (hk_ok k b → post 1) → (¬ hk_ok k b → post 0) → wpX_acceptable post (nI k) b
  | 0, _, h1, _ => br_t (by decide) (br_f (by decide) (br_f (by decide) (h1 ⟨fun x => absurd x (by decide), fun x => absurd x (by decide), fun x => absurd x (by decide)⟩)))
  | 1, _, h1, h0 => by
    rcases hk_r b (n := 4) (by omega) with ⟨z, y⟩ | ⟨z, z2, y⟩ | ⟨z, z2, y⟩
    · exact br_f (by decide) (br_f (by decide) (br_t (by decide) (br_t z (h0 (fun c => y (c.1 (Or.inl rfl)))))))
    · exact br_f (by decide) (br_f (by decide) (br_t (by decide) (br_f z2 (br_t z (h0 (fun c => y (c.1 (Or.inl rfl))))))))
    · exact br_f (by decide) (br_f (by decide) (br_t (by decide) (br_f z (br_f z2 (h1 ⟨fun _ => y, fun x => absurd x (by decide), fun x => absurd x (by decide)⟩)))))
  | 2, _, h1, h0 => by
    rcases hk_r b (n := 4) (by omega) with ⟨z, y⟩ | ⟨z, z2, y⟩ | ⟨z, z2, y⟩
    · exact br_f (by decide) (br_f (by decide) (br_f (by decide) (br_t (by decide) (br_t z (h0 (fun c => y (c.1 (Or.inr rfl))))))))
    · exact br_f (by decide) (br_f (by decide) (br_f (by decide) (br_t (by decide) (br_f z2 (br_t z (h0 (fun c => y (c.1 (Or.inr rfl)))))))))
    · exact br_f (by decide) (br_f (by decide) (br_f (by decide) (br_t (by decide) (br_f z (br_f z2 (h1 ⟨fun _ => y, fun x => absurd x (by decide), fun x => absurd x (by decide)⟩))))))
  | 3, _, h1, h0 => by
    rcases hk_r b (n := 8) (by omega) with ⟨z, y⟩ | ⟨z, z2, y⟩ | ⟨z, z2, y⟩
    · exact br_f (by decide) (br_f (by decide) (br_f (by decide) (br_f (by decide) (br_t (by decide) (br_t z (h0 (fun c => y (c.2.1 (Or.inl rfl)))))))))
    · exact br_f (by decide) (br_f (by decide) (br_f (by decide) (br_f (by decide) (br_t (by decide) (br_f z2 (br_t z (h0 (fun c => y (c.2.1 (Or.inl rfl))))))))))
    · exact br_f (by decide) (br_f (by decide) (br_f (by decide) (br_f (by decide) (br_t (by decide) (br_f z (br_f z2 (h1 ⟨fun x => absurd x (by decide), fun _ => y, fun x => absurd x (by decide)⟩)))))))
  | 4, _, h1, h0 => by
    rcases hk_r b (n := 8) (by omega) with ⟨z, y⟩ | ⟨z, z2, y⟩ | ⟨z, z2, y⟩
    · exact br_f (by decide) (br_f (by decide) (br_f (by decide) (br_f (by decide) (br_f (by decide) (br_t (by decide) (br_t z (h0 (fun c => y (c.2.1 (Or.inr rfl))))))))))
    · exact br_f (by decide) (br_f (by decide) (br_f (by decide) (br_f (by decide) (br_f (by decide) (br_t (by decide) (br_f z2 (br_t z (h0 (fun c => y (c.2.1 (Or.inr rfl)))))))))))
    · exact br_f (by decide) (br_f (by decide) (br_f (by decide) (br_f (by decide) (br_f (by decide) (br_t (by decide) (br_f z (br_f z2 (h1 ⟨fun x => absurd x (by decide), fun _ => y, fun x => absurd x (by decide)⟩))))))))
  | 5, _, h1, _ => br_f (by decide) (br_f (by decide) (br_f (by decide) (br_f (by decide) (br_f (by decide) (br_f (by decide) (br_t (by decide) (br_f (by decide) (br_f (by decide) (h1 ⟨fun x => absurd x (by decide), fun x => absurd x (by decide), fun x => absurd x (by decide)⟩)))))))))
  | 6, _, h1, _ => br_f (by decide) (br_f (by decide) (br_f (by decide) (br_f (by decide) (br_f (by decide) (br_f (by decide) (br_f (by decide) (br_t (by decide) (br_f (by decide) (br_f (by decide) (h1 ⟨fun x => absurd x (by decide), fun x => absurd x (by decide), fun x => absurd x (by decide)⟩))))))))))
  | 7, _, h1, _ => br_f (by decide) (br_f (by decide) (br_f (by decide) (br_f (by decide) (br_f (by decide) (br_f (by decide) (br_f (by decide) (br_f (by decide) (br_t (by decide) (br_f (by decide) (br_f (by decide) (h1 ⟨fun x => absurd x (by decide), fun x => absurd x (by decide), fun x => absurd x (by decide)⟩)))))))))))
  | 8, _, h1, _ => br_f (by decide) (br_f (by decide) (br_f (by decide) (br_f (by decide) (br_f (by decide) (br_f (by decide) (br_f (by decide) (br_f (by decide) (br_f (by decide) (br_t (by decide) (br_f (by decide) (br_f (by decide) (h1 ⟨fun x => absurd x (by decide), fun x => absurd x (by decide), fun x => absurd x (by decide)⟩))))))))))))
  | 9, _, h1, _ => br_f (by decide) (br_f (by decide) (br_f (by decide) (br_f (by decide) (br_f (by decide) (br_f (by decide) (br_f (by decide) (br_f (by decide) (br_f (by decide) (br_f (by decide) (br_t (by decide) (br_f (by decide) (br_f (by decide) (h1 ⟨fun x => absurd x (by decide), fun x => absurd x (by decide), fun x => absurd x (by decide)⟩)))))))))))))
  | 10, _, h1, _ => br_f (by decide) (br_f (by decide) (br_f (by decide) (br_f (by decide) (br_f (by decide) (br_f (by decide) (br_f (by decide) (br_f (by decide) (br_f (by decide) (br_f (by decide) (br_f (by decide) (br_t (by decide) (br_f (by decide) (br_f (by decide) (h1 ⟨fun x => absurd x (by decide), fun x => absurd x (by decide), fun x => absurd x (by decide)⟩))))))))))))))
  | 11, _, h1, _ => br_f (by decide) (br_f (by decide) (br_f (by decide) (br_f (by decide) (br_f (by decide) (br_f (by decide) (br_f (by decide) (br_f (by decide) (br_f (by decide) (br_f (by decide) (br_f (by decide) (br_f (by decide) (br_t (by decide) (br_f (by decide) (br_f (by decide) (h1 ⟨fun x => absurd x (by decide), fun x => absurd x (by decide), fun x => absurd x (by decide)⟩)))))))))))))))
  | 12, _, h1, _ => br_f (by decide) (br_f (by decide) (br_f (by decide) (br_f (by decide) (br_f (by decide) (br_f (by decide) (br_f (by decide) (br_f (by decide) (br_f (by decide) (br_f (by decide) (br_f (by decide) (br_f (by decide) (br_f (by decide) (br_t (by decide) (br_f (by decide) (br_f (by decide) (h1 ⟨fun x => absurd x (by decide), fun x => absurd x (by decide), fun x => absurd x (by decide)⟩))))))))))))))))
  | 13, _, h1, _ => br_f (by decide) (br_f (by decide) (br_f (by decide) (br_f (by decide) (br_f (by decide) (br_f (by decide) (br_f (by decide) (br_f (by decide) (br_f (by decide) (br_f (by decide) (br_f (by decide) (br_f (by decide) (br_f (by decide) (br_f (by decide) (br_t (by decide) (br_f (by decide) (br_f (by decide) (h1 ⟨fun x => absurd x (by decide), fun x => absurd x (by decide), fun x => absurd x (by decide)⟩)))))))))))))))))
  | 14, _, h1, _ => br_f (by decide) (br_f (by decide) (br_f (by decide) (br_f (by decide) (br_f (by decide) (br_f (by decide) (br_f (by decide) (br_f (by decide) (br_f (by decide) (br_f (by decide) (br_f (by decide) (br_f (by decide) (br_f (by decide) (br_f (by decide) (br_f (by decide) (br_t (by decide) (br_f (by decide) (br_f (by decide) (h1 ⟨fun x => absurd x (by decide), fun x => absurd x (by decide), fun x => absurd x (by decide)⟩))))))))))))))))))
  | 15, _, h1, h0 => by
    rcases hk_r b (n := 8) (by omega) with ⟨z, y⟩ | ⟨z, z2, y⟩ | ⟨z, z2, y⟩
    · exact br_f (by decide) (br_f (by decide) (br_f (by decide) (br_f (by decide) (br_f (by decide) (br_f (by decide) (br_f (by decide) (br_f (by decide) (br_f (by decide) (br_f (by decide) (br_f (by decide) (br_f (by decide) (br_f (by decide) (br_f (by decide) (br_f (by decide) (br_f (by decide) (br_t (by decide) (br_t z (h0 (fun c => y (c.2.2 rfl))))))))))))))))))))
    · exact br_f (by decide) (br_f (by decide) (br_f (by decide) (br_f (by decide) (br_f (by decide) (br_f (by decide) (br_f (by decide) (br_f (by decide) (br_f (by decide) (br_f (by decide) (br_f (by decide) (br_f (by decide) (br_f (by decide) (br_f (by decide) (br_f (by decide) (br_f (by decide) (br_t (by decide) (br_f z2 (br_t z (h0 (fun c => y (c.2.2 rfl)))))))))))))))))))))
    · exact br_f (by decide) (br_f (by decide) (br_f (by decide) (br_f (by decide) (br_f (by decide) (br_f (by decide) (br_f (by decide) (br_f (by decide) (br_f (by decide) (br_f (by decide) (br_f (by decide) (br_f (by decide) (br_f (by decide) (br_f (by decide) (br_f (by decide) (br_f (by decide) (br_t (by decide) (br_f z (br_f z2 (h1 ⟨fun x => absurd x (by decide), fun x => absurd x (by decide), fun _ => y⟩)))))))))))))))))))
  | 16, _, h1, _ => br_f (by decide) (br_t (by decide) (br_f (by decide) (br_f (by decide) (h1 ⟨fun x => absurd x (by decide), fun x => absurd x (by decide), fun x => absurd x (by decide)⟩))))
  | k + 17, hk, _, _ => absurd hk (by omega)
section
variable {yn yr ym yo yrk yrv ypn yf yd ya yac yw yv y1 y2 y3 : Int32} {tk tv pk pv gk gv gh cn cd cD cP lk lv lh yH yPk yPv yPh yM yA wt wa ws wb wx vk vv vh : Nat → Int32} {P : Int32 → SY → Prop} {N : Nat}
theorem wy_85 {x b : Int32} (hN : N < 128) (h : P 1 (nI (N + 1), 0, 0, yo, yrk, yrv, ypn, yf, yd, ya, yac, yw, yv, y1, y2, y3, upd tk N x, upd tv N b, pk, pv, gk, gv, gh, cn, cd, cD, cP, lk, lv, lh, yH, yPk, yPv, yPh, yM, yA, wt, wa, ws, wb, wx, vk, vv, vh)) : wY_addToken_85 P x b (nI N) yr ym yo yrk yrv ypn yf yd ya yac yw yv y1 y2 y3 tk tv pk pv gk gv gh cn cd cD cP lk lv lh yH yPk yPv yPh yM yA wt wa ws wb wx vk vv vh := by
  have e : (nI N).toNatClampNeg = N := nI_clamp (by omega)
  have i : vp_in (nI N) 128 := vp_in_nI hN (by omega)
  exact And.intro i (nm_r (congrArg (fun i => upd tk i x) e) ⟨i, nm_r (congrArg (fun i => upd tv i b) e) (nm_r (nI_1 N) h)⟩)
theorem wy_add {b : Int32} (hN : N < 128) : ∀ {k : Nat}, k ≤ 16 → (hk_ok k b → P 1 (nI (N + 1), 0, 0, yo, yrk, yrv, ypn, yf, yd, ya, yac, yw, yv, y1, y2, y3, upd tk N (nI k), upd tv N b, pk, pv, gk, gv, gh, cn, cd, cD, cP, lk, lv, lh, yH, yPk, yPv, yPh, yM, yA, wt, wa, ws, wb, wx, vk, vv, vh)) → (¬ hk_ok k b → P 0 (nI N, yr, ym, yo, yrk, yrv, ypn, yf, yd, ya, yac, yw, yv, y1, y2, y3, tk, tv, pk, pv, gk, gv, gh, cn, cd, cD, cP, lk, lv, lh, yH, yPk, yPv, yPh, yM, yA, wt, wa, ws, wb, wx, vk, vv, vh)) → wpY_addToken P (nI N, yr, ym, yo, yrk, yrv, ypn, yf, yd, ya, yac, yw, yv, y1, y2, y3, tk, tv, pk, pv, gk, gv, gh, cn, cd, cD, cP, lk, lv, lh, yH, yPk, yPv, yPh, yM, yA, wt, wa, ws, wb, wx, vk, vv, vh) (nI k) b
  | 0, _, h1, _ => br_t (nI_lt (b := 128) hN (by decide)) (br_f (by decide) (br_t (by decide) (br_f (by decide) (br_f (by decide) (br_f (by decide) (br_f (by decide) (br_f (by decide) (wy_85 hN (h1 ⟨fun x => absurd x (by decide), fun x => absurd x (by decide), fun x => absurd x (by decide)⟩)))))))))
  | 1, _, h1, h0 => by
    rcases hk_r b (n := 4) (by omega) with ⟨z, y⟩ | ⟨z, z2, y⟩ | ⟨z, z2, y⟩
    · exact br_t (nI_lt (b := 128) hN (by decide)) (br_f (by decide) (br_t (by decide) (br_t (by decide) (br_t z (h0 (fun c => y (c.1 (Or.inl rfl))))))))
    · exact br_t (nI_lt (b := 128) hN (by decide)) (br_f (by decide) (br_t (by decide) (br_t (by decide) (br_f z2 (br_f (hk_4 z) (h0 (fun c => y (c.1 (Or.inl rfl)))))))))
    · exact br_t (nI_lt (b := 128) hN (by decide)) (br_f (by decide) (br_t (by decide) (br_t (by decide) (br_f z (br_t (hk_n3 z2) (br_f (by decide) (br_f (by decide) (br_f (by decide) (wy_85 hN (h1 ⟨fun _ => y, fun x => absurd x (by decide), fun x => absurd x (by decide)⟩))))))))))
  | 2, _, h1, h0 => by
    rcases hk_r b (n := 4) (by omega) with ⟨z, y⟩ | ⟨z, z2, y⟩ | ⟨z, z2, y⟩
    · exact br_t (nI_lt (b := 128) hN (by decide)) (br_f (by decide) (br_t (by decide) (br_f (by decide) (br_t (by decide) (br_t z (h0 (fun c => y (c.1 (Or.inr rfl)))))))))
    · exact br_t (nI_lt (b := 128) hN (by decide)) (br_f (by decide) (br_t (by decide) (br_f (by decide) (br_t (by decide) (br_f z2 (br_f (hk_4 z) (h0 (fun c => y (c.1 (Or.inr rfl))))))))))
    · exact br_t (nI_lt (b := 128) hN (by decide)) (br_f (by decide) (br_t (by decide) (br_f (by decide) (br_t (by decide) (br_f z (br_t (hk_n3 z2) (br_f (by decide) (br_f (by decide) (br_f (by decide) (wy_85 hN (h1 ⟨fun _ => y, fun x => absurd x (by decide), fun x => absurd x (by decide)⟩)))))))))))
  | 3, _, h1, h0 => by
    rcases hk_r b (n := 8) (by omega) with ⟨z, y⟩ | ⟨z, z2, y⟩ | ⟨z, z2, y⟩
    · exact br_t (nI_lt (b := 128) hN (by decide)) (br_f (by decide) (br_t (by decide) (br_f (by decide) (br_f (by decide) (br_t (by decide) (br_t z (h0 (fun c => y (c.2.1 (Or.inl rfl))))))))))
    · exact br_t (nI_lt (b := 128) hN (by decide)) (br_f (by decide) (br_t (by decide) (br_f (by decide) (br_f (by decide) (br_t (by decide) (br_f z2 (br_f (hk_8 z) (h0 (fun c => y (c.2.1 (Or.inl rfl)))))))))))
    · exact br_t (nI_lt (b := 128) hN (by decide)) (br_f (by decide) (br_t (by decide) (br_f (by decide) (br_f (by decide) (br_t (by decide) (br_f z (br_t (hk_n7 z2) (br_f (by decide) (wy_85 hN (h1 ⟨fun x => absurd x (by decide), fun _ => y, fun x => absurd x (by decide)⟩))))))))))
  | 4, _, h1, h0 => by
    rcases hk_r b (n := 8) (by omega) with ⟨z, y⟩ | ⟨z, z2, y⟩ | ⟨z, z2, y⟩
    · exact br_t (nI_lt (b := 128) hN (by decide)) (br_f (by decide) (br_t (by decide) (br_f (by decide) (br_f (by decide) (br_f (by decide) (br_t (by decide) (br_t z (h0 (fun c => y (c.2.1 (Or.inr rfl)))))))))))
    · exact br_t (nI_lt (b := 128) hN (by decide)) (br_f (by decide) (br_t (by decide) (br_f (by decide) (br_f (by decide) (br_f (by decide) (br_t (by decide) (br_f z2 (br_f (hk_8 z) (h0 (fun c => y (c.2.1 (Or.inr rfl))))))))))))
    · exact br_t (nI_lt (b := 128) hN (by decide)) (br_f (by decide) (br_t (by decide) (br_f (by decide) (br_f (by decide) (br_f (by decide) (br_t (by decide) (br_f z (br_t (hk_n7 z2) (br_f (by decide) (wy_85 hN (h1 ⟨fun x => absurd x (by decide), fun _ => y, fun x => absurd x (by decide)⟩)))))))))))
  | 5, _, h1, _ => br_t (nI_lt (b := 128) hN (by decide)) (br_f (by decide) (br_t (by decide) (br_f (by decide) (br_f (by decide) (br_f (by decide) (br_f (by decide) (br_f (by decide) (wy_85 hN (h1 ⟨fun x => absurd x (by decide), fun x => absurd x (by decide), fun x => absurd x (by decide)⟩)))))))))
  | 6, _, h1, _ => br_t (nI_lt (b := 128) hN (by decide)) (br_f (by decide) (br_t (by decide) (br_f (by decide) (br_f (by decide) (br_f (by decide) (br_f (by decide) (br_f (by decide) (wy_85 hN (h1 ⟨fun x => absurd x (by decide), fun x => absurd x (by decide), fun x => absurd x (by decide)⟩)))))))))
  | 7, _, h1, _ => br_t (nI_lt (b := 128) hN (by decide)) (br_f (by decide) (br_t (by decide) (br_f (by decide) (br_f (by decide) (br_f (by decide) (br_f (by decide) (br_f (by decide) (wy_85 hN (h1 ⟨fun x => absurd x (by decide), fun x => absurd x (by decide), fun x => absurd x (by decide)⟩)))))))))
  | 8, _, h1, _ => br_t (nI_lt (b := 128) hN (by decide)) (br_f (by decide) (br_t (by decide) (br_f (by decide) (br_f (by decide) (br_f (by decide) (br_f (by decide) (br_f (by decide) (wy_85 hN (h1 ⟨fun x => absurd x (by decide), fun x => absurd x (by decide), fun x => absurd x (by decide)⟩)))))))))
  | 9, _, h1, _ => br_t (nI_lt (b := 128) hN (by decide)) (br_f (by decide) (br_t (by decide) (br_f (by decide) (br_f (by decide) (br_f (by decide) (br_f (by decide) (br_f (by decide) (wy_85 hN (h1 ⟨fun x => absurd x (by decide), fun x => absurd x (by decide), fun x => absurd x (by decide)⟩)))))))))
  | 10, _, h1, _ => br_t (nI_lt (b := 128) hN (by decide)) (br_f (by decide) (br_t (by decide) (br_f (by decide) (br_f (by decide) (br_f (by decide) (br_f (by decide) (br_f (by decide) (wy_85 hN (h1 ⟨fun x => absurd x (by decide), fun x => absurd x (by decide), fun x => absurd x (by decide)⟩)))))))))
  | 11, _, h1, _ => br_t (nI_lt (b := 128) hN (by decide)) (br_f (by decide) (br_t (by decide) (br_f (by decide) (br_f (by decide) (br_f (by decide) (br_f (by decide) (br_f (by decide) (wy_85 hN (h1 ⟨fun x => absurd x (by decide), fun x => absurd x (by decide), fun x => absurd x (by decide)⟩)))))))))
  | 12, _, h1, _ => br_t (nI_lt (b := 128) hN (by decide)) (br_f (by decide) (br_t (by decide) (br_f (by decide) (br_f (by decide) (br_f (by decide) (br_f (by decide) (br_f (by decide) (wy_85 hN (h1 ⟨fun x => absurd x (by decide), fun x => absurd x (by decide), fun x => absurd x (by decide)⟩)))))))))
  | 13, _, h1, _ => br_t (nI_lt (b := 128) hN (by decide)) (br_f (by decide) (br_t (by decide) (br_f (by decide) (br_f (by decide) (br_f (by decide) (br_f (by decide) (br_f (by decide) (wy_85 hN (h1 ⟨fun x => absurd x (by decide), fun x => absurd x (by decide), fun x => absurd x (by decide)⟩)))))))))
  | 14, _, h1, _ => br_t (nI_lt (b := 128) hN (by decide)) (br_f (by decide) (br_t (by decide) (br_f (by decide) (br_f (by decide) (br_f (by decide) (br_f (by decide) (br_f (by decide) (wy_85 hN (h1 ⟨fun x => absurd x (by decide), fun x => absurd x (by decide), fun x => absurd x (by decide)⟩)))))))))
  | 15, _, h1, h0 => by
    rcases hk_r b (n := 8) (by omega) with ⟨z, y⟩ | ⟨z, z2, y⟩ | ⟨z, z2, y⟩
    · exact br_t (nI_lt (b := 128) hN (by decide)) (br_f (by decide) (br_t (by decide) (br_f (by decide) (br_f (by decide) (br_f (by decide) (br_f (by decide) (br_t (by decide) (br_t z (h0 (fun c => y (c.2.2 rfl)))))))))))
    · exact br_t (nI_lt (b := 128) hN (by decide)) (br_f (by decide) (br_t (by decide) (br_f (by decide) (br_f (by decide) (br_f (by decide) (br_f (by decide) (br_t (by decide) (br_f z2 (br_f (hk_8 z) (h0 (fun c => y (c.2.2 rfl))))))))))))
    · exact br_t (nI_lt (b := 128) hN (by decide)) (br_f (by decide) (br_t (by decide) (br_f (by decide) (br_f (by decide) (br_f (by decide) (br_f (by decide) (br_t (by decide) (br_f z (br_t (hk_n7 z2) (wy_85 hN (h1 ⟨fun x => absurd x (by decide), fun x => absurd x (by decide), fun _ => y⟩)))))))))))
  | 16, _, h1, _ => br_t (nI_lt (b := 128) hN (by decide)) (br_f (by decide) (br_t (by decide) (br_f (by decide) (br_f (by decide) (br_f (by decide) (br_f (by decide) (br_f (by decide) (wy_85 hN (h1 ⟨fun x => absurd x (by decide), fun x => absurd x (by decide), fun x => absurd x (by decide)⟩)))))))))
  | k + 17, hk, _, _ => absurd hk (by omega)
end
theorem i_vc_addToken {k : Nat} {u : SX} {v : SY} (I : i_Rel k u v) (hk : k + 3 ≤ 1536) (v1 : Int32) (v2 : Int32) : wpX_addToken (fun r u' => wpY_addToken (fun r' v' => r' = r ∧ i_Rel (k + 3) u' v') v v1 v2) u v1 v2 := by
  obtain ⟨xn, xm, xo, xr, xpn, xf, xd, xa, xh, xp, xt, xv, xy, tk, tv, af, dp, ib, ms, pr, gl, aH, aP, aB, lo, hP, pT, pL, pV⟩ := u
  obtain ⟨yn, yr, ym, yo, yrk, yrv, ypn, yf, yd, ya, yac, yw, yv, y1, y2, y3, tk2, tv2, pk, pv, gk, gv, gh, cn, cd, cD, cP, lk, lv, lh, yH, yPk, yPv, yPh, yM, yA, wt, wa, ws, wb, wx, vk, vv, vh⟩ := v
  have I' := I
  obtain ⟨N, mc, pn, rfl, rfl, hN, rfl, rfl, hT, rfl, hm8, hG, rfl, rfl, rfl, hr, rfl, rfl, hpn, hp, hg⟩ := I
  by_cases zN : N = 128
  · subst zN
    exact br_t (by decide) (br_f (by decide) (And.intro rfl I'))
  · have nN : ¬ (128 : Int32) ≤ nI N := nI_ge (b := 128) (by omega) (by decide)
    have yN : nI N < 128 := nI_lt (b := 128) (by omega) (by decide)
    rcases pk_ix v1 (n := 17) (by omega) with z | z | ⟨j, hj, rfl⟩
    · refine br_f nN (br_t ?_ (br_t z (br_t rfl (br_t yN (br_t z (And.intro rfl I'))))))
      exact Int32.lt_trans z (by decide)
    · have z0 : ¬ v1 < 0 := fun x => absurd (Int32.lt_of_le_of_lt z x) (by decide)
      have z1 : ¬ v1 < 1 := fun x => absurd (Int32.lt_of_le_of_lt z x) (by decide)
      have z15 : (15 : Int32) < v1 := Int32.lt_of_lt_of_le (by decide) z
      have z16 : (16 : Int32) < v1 := Int32.lt_of_lt_of_le (by decide) z
      exact br_f nN (br_f z1 (br_t z15 (br_f z0 (br_t z16 (br_t rfl (br_t yN (br_f z0 (br_f (Int32.not_le.mpr z16) (And.intro rfl I')))))))))
    · refine br_f nN (wx_acc (by omega) (fun c => ?_) (fun c => ?_))
      · have e : (nI N).toNatClampNeg = N := nI_clamp (by omega)
        have i : vp_in (nI N) 128 := vp_in_nI (by omega) (by omega)
        refine br_f (by decide) ⟨i, nm_r (congrArg (fun i => upd tk2 i (nI j)) e) ⟨i, nm_r (congrArg (fun i => upd tv2 i v2) e) (nm_r (nI_1 N) ?_)⟩⟩
        refine wy_add (by omega) (by omega) (fun _ => ⟨rfl, ?_⟩) (fun x => absurd c x)
        refine hr_R_mk (N := N + 1) (mc := 0) (by omega) (fun t ht => ?_) (by omega) (Or.inl ⟨rfl, rfl⟩) hr hpn hp hg
        by_cases et : t = N
        · subst et
          rw [pk_us, pk_us]
          exact ⟨j, by omega, rfl, c⟩
        · rw [pk_un et, pk_un et]
          exact hT t (by omega)
      · exact br_t rfl (wy_add (by omega) (by omega) (fun x => absurd x c) (fun _ => ⟨rfl, I'⟩))
theorem i_vc_run {k : Nat} {u : SX} {v : SY} (I : i_Rel k u v) (hk : k + 3 ≤ 1536) (v1 : Int32) (v2 : Int32) : wpX_run (fun r u' => wpY_run (fun r' v' => r' = r ∧ i_Rel (k + 3) u' v') v v1 v2) u v1 v2 := by
  obtain ⟨xn, xm, xo, xr, xpn, xf, xd, xa, xh, xp, xt, xv, xy, tk, tv, af, dp, ib, ms, pr, gl, aH, aP, aB, lo, hP, pT, pL, pV⟩ := u
  obtain ⟨yn, yr, ym, yo, yrk, yrv, ypn, yf, yd, ya, yac, yw, yv, y1, y2, y3, tk2, tv2, pk, pv, gk, gv, gh, cn, cd, cD, cP, lk, lv, lh, yH, yPk, yPv, yPh, yM, yA, wt, wa, ws, wb, wx, vk, vv, vh⟩ := v
  have I' := I
  obtain ⟨N, mc, pn, rfl, rfl, hN, rfl, rfl, hT, rfl, hm8, hG, rfl, rfl, rfl, hr, rfl, rfl, hpn, hp, hg⟩ := I
  rcases hG with ⟨rfl, rfl⟩ | ⟨rfl, rfl, f, D, B, G, haf, hms⟩
  · exact br_t rfl (br_t rfl (And.intro rfl I'))
  · have mc1 := G.2.2.2.2.2.2.2.2.1
    have key : ∀ fl, fl ≤ 255 → (∀ P : Int32 → SY → Prop, (∃ n35, wY_run_35 P v1 (nI fl) (nI N) 1 (nI mc) yo yrk yrv (nI pn) yf yd ya yac yw yv y1 y2 y3 n35 0 tk2 tv2 pk pv gk gv gh cn cd cD cP lk lv lh yH yPk yPv yPh yM yA wt wa ws wb wx vk vv vh) → wpY_run P (nI N, 1, nI mc, yo, yrk, yrv, nI pn, yf, yd, ya, yac, yw, yv, y1, y2, y3, tk2, tv2, pk, pv, gk, gv, gh, cn, cd, cD, cP, lk, lv, lh, yH, yPk, yPv, yPh, yM, yA, wt, wa, ws, wb, wx, vk, vv, vh) v1 v2) → (∀ Q : Int32 → Prop, Q (nI fl) → wpX_clampFuel Q v2) → wpX_run (fun r u' => wpY_run (fun r' v' => r' = r ∧ i_Rel (k + 3) u' v') (nI N, 1, nI mc, yo, yrk, yrv, nI pn, yf, yd, ya, yac, yw, yv, y1, y2, y3, tk2, tv2, pk, pv, gk, gv, gh, cn, cd, cD, cP, lk, lv, lh, yH, yPk, yPv, yPh, yM, yA, wt, wa, ws, wb, wx, vk, vv, vh) v1 v2) (nI N, nI mc, yo, xr, nI pn, yf, yd, xa, xh, xp, xt, xv, xy, tk2, tv2, af, dp, ib, ms, pr, gl, aH, aP, aB, lo, hP, pT, pL, pV) v1 v2 := by
      intro fl hfl hY hX
      obtain ⟨uf, rf, vf, x, y, z⟩ := hm_run G haf hms v1 hfl
      unfold wpX_run
      refine br_f (nI_ne0 (by omega) (by omega)) ?_
      refine wx_reset ?_
      refine hX _ ?_
      refine x _ ?_
      obtain ⟨xn', xm', xo', xr', xpn', xf', xd', xa', xh', xp', xt', xv', xy', tk', tv', af', dp', ib', ms', pr', gl', aH', aP', aB', lo', hP', pT', pL', pV'⟩ := uf
      obtain ⟨yn', yr', ym', yo', yrk', yrv', ypn', yf', yd', ya', yac', yw', yv', y1', y2', y3', tk2', tv2', pk', pv', gk', gv', gh', cn', cd', cD', cP', lk', lv', lh', yH', yPk', yPv', yPh', yM', yA', wt', wa', ws', wb', wx', vk', vv', vh'⟩ := vf
      obtain ⟨rfl, rfl, rfl, rfl, rfl, rfl, rfl, rfl, rfl, rfl, rfl, rfl, rfl, rfl, rfl, q1, ⟨pn', rfl, rfl, q2, q3⟩, q4⟩ := z
      refine hY _ (y _ ?_)
      exact And.intro rfl (hr_R_mk hN hT hm8 (Or.inr ⟨rfl, rfl, f, D, B, G, haf, hms⟩) q1 q2 q3 q4)
    by_cases z0 : 0 ≤ v2
    · obtain ⟨j, hj, rfl⟩ := nI_of (x := v2) (Int32.not_lt.mpr z0)
      rcases Nat.lt_or_ge 255 j with zj | zj
      · have w : ¬ nI j ≤ 255 := nI_ge (a := 255) zj hj
        exact key 255 (by omega) (fun P h => br_f (by decide) (br_t z0 (br_f w h))) (fun Q h => br_t z0 (br_f w h))
      · have w : nI j ≤ 255 := nI_le (b := 255) zj (by decide)
        exact key j zj (fun P h => br_f (by decide) (br_t z0 (br_t w h))) (fun Q h => br_t z0 (br_t w h))
    · exact key 0 (by omega) (fun P h => br_f (by decide) (br_f z0 h)) (fun Q h => br_f z0 h)
