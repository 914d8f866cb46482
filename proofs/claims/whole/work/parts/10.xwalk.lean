theorem wk_b0 : vp_nar .boolean 0 = 0 := by rfl
theorem wk_b1 : vp_nar .boolean 1 = 1 := by rfl
theorem wk_ix (h j : Nat) : nI h * 4 + nI j = nI (h * 4 + j) := by
  show nI h * nI 4 + nI j = _
  rw [pk_mul, nI_add]
theorem wk_m4 (h : Nat) : nI h * 4 = nI (h * 4) := pk_mul h 4
def wk_mx (d a : Int32) : Int32 := if a ≤ d then d else a
/-! the arity on both sides -/
theorem wx_arity {post : Int32 → Prop} : ∀ {k : Nat}, k ≤ 16 → post (nI (hc_ar (nI k))) → wpX_arity post (nI k)
  | 0, _, h => by
    rw [show hc_ar (nI 0) = 0 by decide] at h
    exact br_f (by decide) (br_f (by decide) (br_t (by decide) (h)))
  | 1, _, h => by
    rw [show hc_ar (nI 1) = 0 by decide] at h
    exact br_f (by decide) (br_f (by decide) (br_f (by decide) (br_t (by decide) (h))))
  | 2, _, h => by
    rw [show hc_ar (nI 2) = 1 by decide] at h
    exact br_f (by decide) (br_f (by decide) (br_f (by decide) (br_f (by decide) (br_t (by decide) (h)))))
  | 3, _, h => by
    rw [show hc_ar (nI 3) = 0 by decide] at h
    exact br_f (by decide) (br_f (by decide) (br_f (by decide) (br_f (by decide) (br_f (by decide) (br_t (by decide) (h))))))
  | 4, _, h => by
    rw [show hc_ar (nI 4) = 1 by decide] at h
    exact br_f (by decide) (br_f (by decide) (br_f (by decide) (br_f (by decide) (br_f (by decide) (br_f (by decide) (br_t (by decide) (h)))))))
  | 5, _, h => by
    rw [show hc_ar (nI 5) = 0 by decide] at h
    exact br_f (by decide) (br_f (by decide) (br_f (by decide) (br_f (by decide) (br_f (by decide) (br_f (by decide) (br_f (by decide) (br_t (by decide) (h))))))))
  | 6, _, h => by
    rw [show hc_ar (nI 6) = 2 by decide] at h
    exact br_f (by decide) (br_f (by decide) (br_f (by decide) (br_f (by decide) (br_f (by decide) (br_f (by decide) (br_f (by decide) (br_f (by decide) (br_t (by decide) (h)))))))))
  | 7, _, h => by
    rw [show hc_ar (nI 7) = 2 by decide] at h
    exact br_f (by decide) (br_f (by decide) (br_f (by decide) (br_f (by decide) (br_f (by decide) (br_f (by decide) (br_f (by decide) (br_f (by decide) (br_f (by decide) (br_t (by decide) (h))))))))))
  | 8, _, h => by
    rw [show hc_ar (nI 8) = 2 by decide] at h
    exact br_f (by decide) (br_f (by decide) (br_f (by decide) (br_f (by decide) (br_f (by decide) (br_f (by decide) (br_f (by decide) (br_f (by decide) (br_f (by decide) (br_f (by decide) (br_t (by decide) (h)))))))))))
  | 9, _, h => by
    rw [show hc_ar (nI 9) = 2 by decide] at h
    exact br_f (by decide) (br_f (by decide) (br_f (by decide) (br_f (by decide) (br_f (by decide) (br_f (by decide) (br_f (by decide) (br_f (by decide) (br_f (by decide) (br_f (by decide) (br_f (by decide) (br_t (by decide) (h))))))))))))
  | 10, _, h => by
    rw [show hc_ar (nI 10) = 3 by decide] at h
    exact br_f (by decide) (br_f (by decide) (br_f (by decide) (br_f (by decide) (br_f (by decide) (br_f (by decide) (br_f (by decide) (br_f (by decide) (br_f (by decide) (br_f (by decide) (br_f (by decide) (br_f (by decide) (br_t (by decide) (h)))))))))))))
  | 11, _, h => by
    rw [show hc_ar (nI 11) = 2 by decide] at h
    exact br_f (by decide) (br_f (by decide) (br_f (by decide) (br_f (by decide) (br_f (by decide) (br_f (by decide) (br_f (by decide) (br_f (by decide) (br_f (by decide) (br_f (by decide) (br_f (by decide) (br_f (by decide) (br_f (by decide) (br_t (by decide) (h))))))))))))))
  | 12, _, h => by
    rw [show hc_ar (nI 12) = 1 by decide] at h
    exact br_f (by decide) (br_f (by decide) (br_f (by decide) (br_f (by decide) (br_f (by decide) (br_f (by decide) (br_f (by decide) (br_f (by decide) (br_f (by decide) (br_f (by decide) (br_f (by decide) (br_f (by decide) (br_f (by decide) (br_f (by decide) (br_t (by decide) (h)))))))))))))))
  | 13, _, h => by
    rw [show hc_ar (nI 13) = 1 by decide] at h
    exact br_f (by decide) (br_f (by decide) (br_f (by decide) (br_f (by decide) (br_f (by decide) (br_f (by decide) (br_f (by decide) (br_f (by decide) (br_f (by decide) (br_f (by decide) (br_f (by decide) (br_f (by decide) (br_f (by decide) (br_f (by decide) (br_f (by decide) (br_t (by decide) (h))))))))))))))))
  | 14, _, h => by
    rw [show hc_ar (nI 14) = 2 by decide] at h
    exact br_f (by decide) (br_f (by decide) (br_f (by decide) (br_f (by decide) (br_f (by decide) (br_f (by decide) (br_f (by decide) (br_f (by decide) (br_f (by decide) (br_f (by decide) (br_f (by decide) (br_f (by decide) (br_f (by decide) (br_f (by decide) (br_f (by decide) (br_f (by decide) (br_t (by decide) (h)))))))))))))))))
  | 15, _, h => by
    rw [show hc_ar (nI 15) = 1 by decide] at h
    exact br_f (by decide) (br_t (by decide) (h))
  | 16, _, h => by
    rw [show hc_ar (nI 16) = 1 by decide] at h
    exact br_f (by decide) (br_t (by decide) (h))
  | k + 17, hk, _ => absurd hk (by omega)
section
variable {yn yr ym yo yrk yrv ypn yf yd ya yac yw yv y1 y2 y3 : Int32} {tk tv pk pv gk gv gh cn cd cD cP lk lv lh yH yPk yPv yPh yM yA wt wa ws wb wx vk vv vh : Nat → Int32}
theorem wy_arity {post : Int32 → Prop} : ∀ {k : Nat}, k ≤ 16 → post (nI (hc_ar (nI k))) → wpY_arity post (yn, yr, ym, yo, yrk, yrv, ypn, yf, yd, ya, yac, yw, yv, y1, y2, y3, tk, tv, pk, pv, gk, gv, gh, cn, cd, cD, cP, lk, lv, lh, yH, yPk, yPv, yPh, yM, yA, wt, wa, ws, wb, wx, vk, vv, vh) (nI k)
  | 0, _, h => by
    rw [show hc_ar (nI 0) = 0 by decide] at h
    exact br_t (by decide) (h)
  | 1, _, h => by
    rw [show hc_ar (nI 1) = 0 by decide] at h
    exact br_f (by decide) (br_t (by decide) (h))
  | 2, _, h => by
    rw [show hc_ar (nI 2) = 1 by decide] at h
    exact br_f (by decide) (br_f (by decide) (br_f (by decide) (br_f (by decide) (br_f (by decide) (br_f (by decide) (br_f (by decide) (br_f (by decide) (br_f (by decide) (br_f (by decide) (br_f (by decide) (h)))))))))))
  | 3, _, h => by
    rw [show hc_ar (nI 3) = 0 by decide] at h
    exact br_f (by decide) (br_f (by decide) (br_t (by decide) (h)))
  | 4, _, h => by
    rw [show hc_ar (nI 4) = 1 by decide] at h
    exact br_f (by decide) (br_f (by decide) (br_f (by decide) (br_f (by decide) (br_f (by decide) (br_f (by decide) (br_f (by decide) (br_f (by decide) (br_f (by decide) (br_f (by decide) (br_f (by decide) (h)))))))))))
  | 5, _, h => by
    rw [show hc_ar (nI 5) = 0 by decide] at h
    exact br_f (by decide) (br_f (by decide) (br_f (by decide) (br_t (by decide) (h))))
  | 6, _, h => by
    rw [show hc_ar (nI 6) = 2 by decide] at h
    exact br_f (by decide) (br_f (by decide) (br_f (by decide) (br_f (by decide) (br_f (by decide) (br_t (by decide) (h))))))
  | 7, _, h => by
    rw [show hc_ar (nI 7) = 2 by decide] at h
    exact br_f (by decide) (br_f (by decide) (br_f (by decide) (br_f (by decide) (br_f (by decide) (br_f (by decide) (br_t (by decide) (h)))))))
  | 8, _, h => by
    rw [show hc_ar (nI 8) = 2 by decide] at h
    exact br_f (by decide) (br_f (by decide) (br_f (by decide) (br_f (by decide) (br_f (by decide) (br_f (by decide) (br_f (by decide) (br_t (by decide) (h))))))))
  | 9, _, h => by
    rw [show hc_ar (nI 9) = 2 by decide] at h
    exact br_f (by decide) (br_f (by decide) (br_f (by decide) (br_f (by decide) (br_f (by decide) (br_f (by decide) (br_f (by decide) (br_f (by decide) (br_t (by decide) (h)))))))))
  | 10, _, h => by
    rw [show hc_ar (nI 10) = 3 by decide] at h
    exact br_f (by decide) (br_f (by decide) (br_f (by decide) (br_f (by decide) (br_t (by decide) (h)))))
  | 11, _, h => by
    rw [show hc_ar (nI 11) = 2 by decide] at h
    exact br_f (by decide) (br_f (by decide) (br_f (by decide) (br_f (by decide) (br_f (by decide) (br_f (by decide) (br_f (by decide) (br_f (by decide) (br_f (by decide) (br_t (by decide) (h))))))))))
  | 12, _, h => by
    rw [show hc_ar (nI 12) = 1 by decide] at h
    exact br_f (by decide) (br_f (by decide) (br_f (by decide) (br_f (by decide) (br_f (by decide) (br_f (by decide) (br_f (by decide) (br_f (by decide) (br_f (by decide) (br_f (by decide) (br_f (by decide) (h)))))))))))
  | 13, _, h => by
    rw [show hc_ar (nI 13) = 1 by decide] at h
    exact br_f (by decide) (br_f (by decide) (br_f (by decide) (br_f (by decide) (br_f (by decide) (br_f (by decide) (br_f (by decide) (br_f (by decide) (br_f (by decide) (br_f (by decide) (br_f (by decide) (h)))))))))))
  | 14, _, h => by
    rw [show hc_ar (nI 14) = 2 by decide] at h
    exact br_f (by decide) (br_f (by decide) (br_f (by decide) (br_f (by decide) (br_f (by decide) (br_f (by decide) (br_f (by decide) (br_f (by decide) (br_f (by decide) (br_f (by decide) (br_t (by decide) (h)))))))))))
  | 15, _, h => by
    rw [show hc_ar (nI 15) = 1 by decide] at h
    exact br_f (by decide) (br_f (by decide) (br_f (by decide) (br_f (by decide) (br_f (by decide) (br_f (by decide) (br_f (by decide) (br_f (by decide) (br_f (by decide) (br_f (by decide) (br_f (by decide) (h)))))))))))
  | 16, _, h => by
    rw [show hc_ar (nI 16) = 1 by decide] at h
    exact br_f (by decide) (br_f (by decide) (br_f (by decide) (br_f (by decide) (br_f (by decide) (br_f (by decide) (br_f (by decide) (br_f (by decide) (br_f (by decide) (br_f (by decide) (br_f (by decide) (h)))))))))))
  | k + 17, hk, _ => absurd hk (by omega)
end
theorem wx_both1 {post : Int32 → Prop} {k : Nat} (hk : k ≤ 16) (hb : hs_bin (nI k)) (h : post 1) : wpX_needsBoth post (nI k) := by
  have e : ∀ k, k < 17 → hs_bin (nI k) → hc_ar (nI k) = 2 ∧ nI k ≠ 11 := by unfold hs_bin; decide +kernel
  obtain ⟨e1, e2⟩ := e k (by omega) hb
  exact wx_arity hk (by rw [e1]; exact br_t (by decide) (br_f e2 h))
theorem wx_both0 {post : Int32 → Prop} {k : Nat} (hk : k ≤ 16) (hb : ¬ hs_bin (nI k)) (h : post 0) : wpX_needsBoth post (nI k) := by
  have e : ∀ k, k < 17 → ¬ hs_bin (nI k) → hc_ar (nI k) ≠ 2 ∨ nI k = 11 := by unfold hs_bin; decide +kernel
  refine wx_arity hk ?_
  have b := hc_ar3 (nI k)
  by_cases z : hc_ar (nI k) = 2
  · rw [z]
    rcases e k (by omega) hb with y | y
    · exact absurd z y
    · exact br_t (by decide) (br_t y h)
  · refine br_f (fun y => z ?_) h
    exact (nI_eq (b := 2) (by omega) (by decide)).mp y
theorem wx_kind {post : Int32 → Prop} {x : Int64} {k v : Int32} (z : hv_K x k v) (h : post k) : wpX_kindOf post x := by
  obtain ⟨-, ⟨rfl, z⟩ | ⟨rfl, z⟩⟩ := z
  · exact br_t z h
  · exact br_f z h
section
variable {xn xm xo xpn xf xd xa xh xp xt xy : Int32} {xr xv : Int64} {tk tv af dp ib ms aH aB hP pT pL : Nat → Int32} {pr gl aP lo pV : Nat → Int64} {K : SX → Prop}
theorem wx_startAct {home : Int32} {na p : Nat} (hna : na < 16) (h : K (xn, xm, xo, xr, xpn, xf, wk_mx xd (nI (na + 1)), nI (na + 1), xh, nI p, xt, xv, xy, tk, tv, af, dp, ib, ms, pr, gl, upd aH na home, aP, upd aB na (nI p), lo, hP, pT, pL, pV)) : wpX_startActivation K (xn, xm, xo, xr, xpn, xf, xd, nI na, xh, nI p, xt, xv, xy, tk, tv, af, dp, ib, ms, pr, gl, aH, aP, aB, lo, hP, pT, pL, pV) home := by
  have e : (nI na).toNatClampNeg = na := nI_clamp (by omega)
  have hi : vp_in (nI na) 16 := vp_in_nI hna (by omega)
  unfold wpX_startActivation
  refine ⟨hi, nm_r (congrArg (fun i => upd aH i home) e) ⟨hi, nm_r (congrArg (fun i => upd aB i (nI p)) e) (nm_r (nI_1 na) ?_)⟩⟩
  unfold wk_mx at h
  by_cases z : nI (na + 1) ≤ xd
  · rw [if_pos z] at h; exact br_t z h
  · rw [if_neg z] at h; exact br_f z h
theorem wx_wait {t p : Nat} (hp : p < 128) (h : K (xn, xm, xo, xr, xpn, xf, xd, xa, xh, nI (p + 1), nI (t + 1), xv, 0, tk, tv, af, dp, ib, ms, pr, gl, aH, aP, aB, lo, hP, upd pT p (nI t), upd pL p 0, pV)) : wpX_waitForOperand K (xn, xm, xo, xr, xpn, xf, xd, xa, xh, nI p, xt, xv, xy, tk, tv, af, dp, ib, ms, pr, gl, aH, aP, aB, lo, hP, pT, pL, pV) (nI t) := by
  have e : (nI p).toNatClampNeg = p := nI_clamp (by omega)
  have hi : vp_in (nI p) 128 := vp_in_nI hp (by omega)
  unfold wpX_waitForOperand
  refine ⟨hi, nm_r (congrArg (fun i => upd pT i (nI t)) e) ⟨hi, nm_r (show _ = upd pL p 0 by rw [e, wk_b0]) (nm_r (nI_1 p) ?_)⟩⟩
  show K (xn, xm, xo, xr, xpn, xf, xd, xa, xh, nI (p + 1), nI t + 1, xv, 0, tk, tv, af, dp, ib, ms, pr, gl, aH, aP, aB, lo, hP, upd pT p (nI t), upd pL p 0, pV)
  rw [nI_1 t]; exact h
/-! a token is begun -/
theorem wx_begin_num {t q : Nat} (ht : t < 128) (hq : q < 16) (hk : tk t = 0) (h : K (xn, xm, xo, xr, xpn, xf, xd, nI (q + 1), xh, xp, nI t, hv_i (tv t), 1, tk, tv, af, dp, ib, ms, pr, gl, aH, aP, aB, lo, hP, pT, pL, pV)) : wpX_beginToken K (xn, xm, xo, xr, xpn, xf, xd, nI (q + 1), xh, xp, nI t, xv, xy, tk, tv, af, dp, ib, ms, pr, gl, aH, aP, aB, lo, hP, pT, pL, pV) := by
  have e1 : (nI t).toNatClampNeg = t := nI_clamp (by omega)
  have e2 : nI (q + 1) - 1 = nI q := nI_pred q
  have e3 : (nI q).toNatClampNeg = q := nI_clamp (by omega)
  have i1 : vp_in (nI t) 128 := vp_in_nI ht (by omega)
  have i2 : vp_in (nI q) 16 := vp_in_nI hq (by omega)
  unfold wpX_beginToken
  refine ⟨i1, nm_r (congrArg tv e1) ⟨by rw [e2]; exact i2, nm_r (show _ = aH q by rw [e2, e3]) ⟨i1, nm_r (show _ = 0 by rw [e1, hk]) ?_⟩⟩⟩
  exact br_f (by decide) (br_f (by decide) (br_t (by decide) (h)))
theorem wx_begin_var {t q : Nat} (ht : t < 128) (hq : q < 16) (hk : tk t = 1) {h0 j : Nat} (hh : aH q = nI h0) (hv : tv t = nI j) (hi : h0 * 4 + j < 1024) (h : K (xn, xm, xo, xr, xpn, xf, xd, nI (q + 1), xh, xp, nI t, lo (h0 * 4 + j), 1, tk, tv, af, dp, ib, ms, pr, gl, aH, aP, aB, lo, hP, pT, pL, pV)) : wpX_beginToken K (xn, xm, xo, xr, xpn, xf, xd, nI (q + 1), xh, xp, nI t, xv, xy, tk, tv, af, dp, ib, ms, pr, gl, aH, aP, aB, lo, hP, pT, pL, pV) := by
  have e1 : (nI t).toNatClampNeg = t := nI_clamp (by omega)
  have e2 : nI (q + 1) - 1 = nI q := nI_pred q
  have e3 : (nI q).toNatClampNeg = q := nI_clamp (by omega)
  have i1 : vp_in (nI t) 128 := vp_in_nI ht (by omega)
  have i2 : vp_in (nI q) 16 := vp_in_nI hq (by omega)
  unfold wpX_beginToken
  refine ⟨i1, nm_r (congrArg tv e1) ⟨by rw [e2]; exact i2, nm_r (show _ = aH q by rw [e2, e3]) ⟨i1, nm_r (show _ = 1 by rw [e1, hk]) ?_⟩⟩⟩
  exact br_f (by decide) (br_f (by decide) (br_f (by decide) (br_t (by decide) (⟨by rw [hh, hv, wk_ix]; exact vp_in_nI hi (by omega), nm_r (show _ = lo (h0 * 4 + j) by rw [hh, hv, wk_ix, nI_clamp (by omega)]) h⟩))))
theorem wx_begin_glob {t q : Nat} (ht : t < 128) (hq : q < 16) (hk : tk t = 3) {j : Nat} (hv : tv t = nI j) (hi : j < 8) (h : K (xn, xm, xo, xr, xpn, xf, xd, nI (q + 1), xh, xp, nI t, gl j, 1, tk, tv, af, dp, ib, ms, pr, gl, aH, aP, aB, lo, hP, pT, pL, pV)) : wpX_beginToken K (xn, xm, xo, xr, xpn, xf, xd, nI (q + 1), xh, xp, nI t, xv, xy, tk, tv, af, dp, ib, ms, pr, gl, aH, aP, aB, lo, hP, pT, pL, pV) := by
  have e1 : (nI t).toNatClampNeg = t := nI_clamp (by omega)
  have e2 : nI (q + 1) - 1 = nI q := nI_pred q
  have e3 : (nI q).toNatClampNeg = q := nI_clamp (by omega)
  have i1 : vp_in (nI t) 128 := vp_in_nI ht (by omega)
  have i2 : vp_in (nI q) 16 := vp_in_nI hq (by omega)
  unfold wpX_beginToken
  refine ⟨i1, nm_r (congrArg tv e1) ⟨by rw [e2]; exact i2, nm_r (show _ = aH q by rw [e2, e3]) ⟨i1, nm_r (show _ = 3 by rw [e1, hk]) ?_⟩⟩⟩
  exact br_f (by decide) (br_f (by decide) (br_f (by decide) (br_f (by decide) (br_f (by decide) (br_t (by decide) (⟨by rw [hv]; exact vp_in_nI hi (by omega), nm_r (show _ = gl j by rw [hv, nI_clamp (by omega)]) h⟩))))))
theorem wx_begin_param {t q : Nat} (ht : t < 128) (hq : q < 16) (hk : tk t = 5) (h : K (xn, xm, xo, xr, xpn, xf, xd, nI (q + 1), xh, xp, nI t, aP q, 1, tk, tv, af, dp, ib, ms, pr, gl, aH, aP, aB, lo, hP, pT, pL, pV)) : wpX_beginToken K (xn, xm, xo, xr, xpn, xf, xd, nI (q + 1), xh, xp, nI t, xv, xy, tk, tv, af, dp, ib, ms, pr, gl, aH, aP, aB, lo, hP, pT, pL, pV) := by
  have e1 : (nI t).toNatClampNeg = t := nI_clamp (by omega)
  have e2 : nI (q + 1) - 1 = nI q := nI_pred q
  have e3 : (nI q).toNatClampNeg = q := nI_clamp (by omega)
  have i1 : vp_in (nI t) 128 := vp_in_nI ht (by omega)
  have i2 : vp_in (nI q) 16 := vp_in_nI hq (by omega)
  unfold wpX_beginToken
  refine ⟨i1, nm_r (congrArg tv e1) ⟨by rw [e2]; exact i2, nm_r (show _ = aH q by rw [e2, e3]) ⟨i1, nm_r (show _ = 5 by rw [e1, hk]) ?_⟩⟩⟩
  exact br_f (by decide) (br_f (by decide) (br_f (by decide) (br_f (by decide) (br_f (by decide) (br_f (by decide) (br_f (by decide) (br_t (by decide) (⟨by rw [e2]; exact i2, nm_r (show _ = aP q by rw [e2, e3]) h⟩))))))))
theorem wx_begin_block {t q : Nat} (ht : t < 128) (hq : q < 16) (hk : tk t = 13) {h0 : Nat} (hh : aH q = nI h0) (h : K (xn, xm, xo, xr, xpn, xf, xd, nI (q + 1), xh, xp, nI t, hv_b t h0, 1, tk, tv, af, dp, ib, ms, pr, gl, aH, aP, aB, lo, hP, pT, pL, pV)) : wpX_beginToken K (xn, xm, xo, xr, xpn, xf, xd, nI (q + 1), xh, xp, nI t, xv, xy, tk, tv, af, dp, ib, ms, pr, gl, aH, aP, aB, lo, hP, pT, pL, pV) := by
  have e1 : (nI t).toNatClampNeg = t := nI_clamp (by omega)
  have e2 : nI (q + 1) - 1 = nI q := nI_pred q
  have e3 : (nI q).toNatClampNeg = q := nI_clamp (by omega)
  have i1 : vp_in (nI t) 128 := vp_in_nI ht (by omega)
  have i2 : vp_in (nI q) 16 := vp_in_nI hq (by omega)
  unfold wpX_beginToken
  refine ⟨i1, nm_r (congrArg tv e1) ⟨by rw [e2]; exact i2, nm_r (show _ = aH q by rw [e2, e3]) ⟨i1, nm_r (show _ = 13 by rw [e1, hk]) ?_⟩⟩⟩
  exact br_f (by decide) (br_f (by decide) (br_f (by decide) (br_f (by decide) (br_f (by decide) (br_f (by decide) (br_f (by decide) (br_f (by decide) (br_f (by decide) (br_f (by decide) (br_f (by decide) (br_f (by decide) (br_f (by decide) (br_f (by decide) (br_f (by decide) (br_t (by decide) (by rw [hh]; exact h))))))))))))))))
theorem wx_begin_wait {t q p k : Nat} (ht : t < 128) (hq : q < 16) (hp : p < 128) (hk16 : k ≤ 16) (hk : tk t = nI k) (ha : 1 ≤ hc_ar (tk t)) (h13 : tk t ≠ 13) (h : K (xn, xm, xo, xr, xpn, xf, xd, nI (q + 1), xh, nI (p + 1), nI (t + 1), xv, 0, tk, tv, af, dp, ib, ms, pr, gl, aH, aP, aB, lo, hP, upd pT p (nI t), upd pL p 0, pV)) : wpX_beginToken K (xn, xm, xo, xr, xpn, xf, xd, nI (q + 1), xh, nI p, nI t, xv, xy, tk, tv, af, dp, ib, ms, pr, gl, aH, aP, aB, lo, hP, pT, pL, pV) := by
  have e1 : (nI t).toNatClampNeg = t := nI_clamp (by omega)
  have e2 : nI (q + 1) - 1 = nI q := nI_pred q
  have i1 : vp_in (nI t) 128 := vp_in_nI ht (by omega)
  have i2 : vp_in (nI q) 16 := vp_in_nI hq (by omega)
  rw [hk] at ha h13
  unfold wpX_beginToken
  refine ⟨i1, nm_e ⟨by rw [e2]; exact i2, nm_e ⟨i1, nm_r (show _ = nI k by rw [e1, hk]) ?_⟩⟩⟩
  have B : wX_beginToken_175 K (nI t) xn xm xo xr xpn xf xd (nI (q + 1)) xh (nI p) (nI t) xv 1 tk tv af dp ib ms pr gl aH aP aB lo hP pT pL pV := wx_wait (xt := nI t) (xy := 1) hp h
  match k, hk16, ha, h13 with
  | 0, _, ha, _ => exact absurd ha (by decide)
  | 1, _, ha, _ => exact absurd ha (by decide)
  | 2, _, _, _ => exact br_f (by decide) (br_f (by decide) (br_f (by decide) (br_f (by decide) (br_t (by decide) (B)))))
  | 3, _, ha, _ => exact absurd ha (by decide)
  | 4, _, _, _ => exact br_f (by decide) (br_f (by decide) (br_f (by decide) (br_f (by decide) (br_f (by decide) (br_f (by decide) (br_t (by decide) (B)))))))
  | 5, _, ha, _ => exact absurd ha (by decide)
  | 6, _, _, _ => exact br_f (by decide) (br_f (by decide) (br_f (by decide) (br_f (by decide) (br_f (by decide) (br_f (by decide) (br_f (by decide) (br_f (by decide) (br_t (by decide) (B)))))))))
  | 7, _, _, _ => exact br_f (by decide) (br_f (by decide) (br_f (by decide) (br_f (by decide) (br_f (by decide) (br_f (by decide) (br_f (by decide) (br_f (by decide) (br_f (by decide) (br_t (by decide) (B))))))))))
  | 8, _, _, _ => exact br_f (by decide) (br_f (by decide) (br_f (by decide) (br_f (by decide) (br_f (by decide) (br_f (by decide) (br_f (by decide) (br_f (by decide) (br_f (by decide) (br_f (by decide) (br_t (by decide) (B)))))))))))
  | 9, _, _, _ => exact br_f (by decide) (br_f (by decide) (br_f (by decide) (br_f (by decide) (br_f (by decide) (br_f (by decide) (br_f (by decide) (br_f (by decide) (br_f (by decide) (br_f (by decide) (br_f (by decide) (br_t (by decide) (B))))))))))))
  | 10, _, _, _ => exact br_f (by decide) (br_f (by decide) (br_f (by decide) (br_f (by decide) (br_f (by decide) (br_f (by decide) (br_f (by decide) (br_f (by decide) (br_f (by decide) (br_f (by decide) (br_f (by decide) (br_f (by decide) (br_t (by decide) (B)))))))))))))
  | 11, _, _, _ => exact br_f (by decide) (br_f (by decide) (br_f (by decide) (br_f (by decide) (br_f (by decide) (br_f (by decide) (br_f (by decide) (br_f (by decide) (br_f (by decide) (br_f (by decide) (br_f (by decide) (br_f (by decide) (br_f (by decide) (br_t (by decide) (B))))))))))))))
  | 12, _, _, _ => exact br_f (by decide) (br_f (by decide) (br_f (by decide) (br_f (by decide) (br_f (by decide) (br_f (by decide) (br_f (by decide) (br_f (by decide) (br_f (by decide) (br_f (by decide) (br_f (by decide) (br_f (by decide) (br_f (by decide) (br_f (by decide) (br_t (by decide) (B)))))))))))))))
  | 13, _, _, h13 => exact absurd rfl h13
  | 14, _, _, _ => exact br_f (by decide) (br_t (by decide) (B))
  | 15, _, _, _ => exact br_f (by decide) (br_t (by decide) (B))
  | 16, _, _, _ => exact br_f (by decide) (br_t (by decide) (B))
  | k + 17, hk, _, _ => exact absurd hk (by omega)
/-! activations -/
theorem wx_startMeth {x : Int64} {m na p nh : Nat} {mt : Int32} (hm : m < 8) (hna : na < 16) (hnh : nh < 256) (hmt : ms m = mt)
    (h : K (xn, xm, xo, xr, xpn, xf, wk_mx xd (nI (na + 1)), nI (na + 1), nI (nh + 1), nI p, mt, xv, 0, tk, tv, af, dp, ib, ms, pr, gl, upd aH na (nI nh), aP, upd aB na (nI p), vp_updL (vp_updL (vp_updL (vp_updL lo (nh * 4) x) (nh * 4 + 1) 0) (nh * 4 + 2) 0) (nh * 4 + 3) 0, upd hP nh (nI na), pT, pL, pV)) : wpX_startMethod K (xn, xm, xo, xr, xpn, xf, xd, nI na, nI nh, nI p, xt, xv, xy, tk, tv, af, dp, ib, ms, pr, gl, aH, aP, aB, lo, hP, pT, pL, pV) (nI m) x := by
  have e : (nI nh).toNatClampNeg = nh := nI_clamp (by omega)
  have e4 : (nI (nh * 4)).toNatClampNeg = nh * 4 := nI_clamp (by omega)
  have a1 : nI (nh * 4) + 1 = nI (nh * 4 + 1) := nI_add _ 1
  have a2 : nI (nh * 4) + 2 = nI (nh * 4 + 2) := nI_add _ 2
  have a3 : nI (nh * 4) + 3 = nI (nh * 4 + 3) := nI_add _ 3
  have c1 : (nI (nh * 4 + 1)).toNatClampNeg = nh * 4 + 1 := nI_clamp (by omega)
  have c2 : (nI (nh * 4 + 2)).toNatClampNeg = nh * 4 + 2 := nI_clamp (by omega)
  have c3 : (nI (nh * 4 + 3)).toNatClampNeg = nh * 4 + 3 := nI_clamp (by omega)
  unfold wpX_startMethod
  refine nm_r (nI_1 nh) ⟨vp_in_nI hnh (by omega), nm_r (congrArg (fun i => upd hP i (nI na)) e) (nm_r (wk_m4 nh) ⟨vp_in_nI (by omega) (by omega), nm_r (congrArg (fun i => vp_updL lo i x) e4) ⟨4, ?_⟩⟩)⟩
  refine br_f (by decide) ⟨by rw [a1]; exact vp_in_nI (by omega) (by omega), nm_r (show _ = vp_updL (vp_updL lo (nh * 4) x) (nh * 4 + 1) 0 by rw [a1, c1]) (nm_r (show (1 : Int32) + 1 = 2 by decide) ?_)⟩
  refine br_f (by decide) ⟨by rw [a2]; exact vp_in_nI (by omega) (by omega), nm_r (show _ = vp_updL (vp_updL (vp_updL lo (nh * 4) x) (nh * 4 + 1) 0) (nh * 4 + 2) 0 by rw [a2, c2]) (nm_r (show (2 : Int32) + 1 = 3 by decide) ?_)⟩
  refine br_f (by decide) ⟨by rw [a3]; exact vp_in_nI (by omega) (by omega), nm_r (show _ = vp_updL (vp_updL (vp_updL (vp_updL lo (nh * 4) x) (nh * 4 + 1) 0) (nh * 4 + 2) 0) (nh * 4 + 3) 0 by rw [a3, c3]) (nm_r (show (3 : Int32) + 1 = 4 by decide) ?_)⟩
  refine br_t (by decide) (wx_startAct hna ?_)
  refine ⟨vp_in_nI hm (by omega), ?_⟩
  have em : ms (nI m).toNatClampNeg = mt := by rw [nI_clamp (by omega)]; exact hmt
  show K (xn, xm, xo, xr, xpn, xf, wk_mx xd (nI (na + 1)), nI (na + 1), nI (nh + 1), nI p, ms (nI m).toNatClampNeg, xv, 0, tk, tv, af, dp, ib, ms, pr, gl, upd aH na (nI nh), aP, upd aB na (nI p), vp_updL (vp_updL (vp_updL (vp_updL lo (nh * 4) x) (nh * 4 + 1) 0) (nh * 4 + 2) 0) (nh * 4 + 3) 0, upd hP nh (nI na), pT, pL, pV)
  rw [em]; exact h
theorem wx_may0 {P : Int32 → SX → Prop} (h : P 0 (xn, xm, 3, xr, xpn, 0, xd, xa, xh, xp, xt, xv, xy, tk, tv, af, dp, ib, ms, pr, gl, aH, aP, aB, lo, hP, pT, pL, pV)) : wpX_mayStart P (xn, xm, xo, xr, xpn, 0, xd, xa, xh, xp, xt, xv, xy, tk, tv, af, dp, ib, ms, pr, gl, aH, aP, aB, lo, hP, pT, pL, pV) := by
  unfold wpX_mayStart
  exact br_t rfl h
theorem wx_may1 {P : Int32 → SX → Prop} {fl na : Nat} (hf : fl < 256) (hna : na = 16) (h : P 0 (xn, xm, 5, xr, xpn, nI fl, xd, nI na, xh, xp, xt, xv, xy, tk, tv, af, dp, ib, ms, pr, gl, aH, aP, aB, lo, hP, pT, pL, pV)) : wpX_mayStart P (xn, xm, xo, xr, xpn, nI (fl + 1), xd, nI na, xh, xp, xt, xv, xy, tk, tv, af, dp, ib, ms, pr, gl, aH, aP, aB, lo, hP, pT, pL, pV) := by
  subst hna
  unfold wpX_mayStart
  exact br_f (nI_ne0 (by omega) (by omega)) (nm_r (nI_pred fl) (br_t rfl h))
theorem wx_may2 {P : Int32 → SX → Prop} {fl na : Nat} (hf : fl < 256) (hna : na < 16) (h : P 1 (xn, xm, xo, xr, xpn, nI fl, xd, nI na, xh, xp, xt, xv, xy, tk, tv, af, dp, ib, ms, pr, gl, aH, aP, aB, lo, hP, pT, pL, pV)) : wpX_mayStart P (xn, xm, xo, xr, xpn, nI (fl + 1), xd, nI na, xh, xp, xt, xv, xy, tk, tv, af, dp, ib, ms, pr, gl, aH, aP, aB, lo, hP, pT, pL, pV) := by
  unfold wpX_mayStart
  exact br_f (nI_ne0 (by omega) (by omega)) (nm_r (nI_pred fl) (br_f (fun z => by have := (nI_eq (b := 16) (by omega) (by decide)).mp z; omega) h))
theorem wx_returnFrom {q p : Nat} (hq : q < 16) (hp : p ≤ q) (hH : ∀ e, e ≤ q → ∃ h, h < 256 ∧ aH e = nI h)
    (h0 : p = 0 → K (xn, xm, 1, xv, xpn, xf, xd, nI p, xh, aB p, xt, xv, xy, tk, tv, af, dp, ib, ms, pr, gl, aH, aP, aB, lo, hx_end aH p (q + 1) hP, pT, pL, pV)) (h1 : p ≠ 0 → K (xn, xm, xo, xr, xpn, xf, xd, nI p, xh, aB p, xt, xv, xy, tk, tv, af, dp, ib, ms, pr, gl, aH, aP, aB, lo, hx_end aH p (q + 1) hP, pT, pL, pV)) : wpX_returnFrom K (xn, xm, xo, xr, xpn, xf, xd, nI (q + 1), xh, xp, xt, xv, xy, tk, tv, af, dp, ib, ms, pr, gl, aH, aP, aB, lo, hP, pT, pL, pV) (nI p) := by
  have key : ∀ d e hP, e ≤ q + 1 → e = p + d → (p = 0 → K (xn, xm, 1, xv, xpn, xf, xd, nI p, xh, aB p, xt, xv, xy, tk, tv, af, dp, ib, ms, pr, gl, aH, aP, aB, lo, hx_end aH p e hP, pT, pL, pV)) → (p ≠ 0 → K (xn, xm, xo, xr, xpn, xf, xd, nI p, xh, aB p, xt, xv, xy, tk, tv, af, dp, ib, ms, pr, gl, aH, aP, aB, lo, hx_end aH p e hP, pT, pL, pV)) → wX_returnFrom_7 K (nI p) xn xm xo xr xpn xf xd (nI (q + 1)) xh xp xt xv xy (d + 1) (nI e + (-1)) tk tv af dp ib ms pr gl aH aP aB lo hP pT pL pV := by
    intro d
    induction d with
    | zero =>
      intro e hP he ed h0 h1
      have ep : e = p := by omega
      subst ep
      have el : ∀ hP, hx_end aH e e hP = hP := fun hP => by
        cases e with
        | zero => rfl
        | succ e => simp only [hx_end]; rw [if_neg (by omega)]
      rw [el] at h0 h1
      have lt : nI e + (-1) < nI e := by
        cases e with
        | zero => decide
        | succ e => rw [pk_m1]; exact nI_lt (by omega) (by omega)
      refine br_t lt ⟨vp_in_nI (by omega) (by omega), nm_r (congrArg aB (nI_clamp (by omega))) ?_⟩
      by_cases z : e = 0
      · subst z
        exact br_t rfl (h0 rfl)
      · exact br_f (nI_ne0 (by omega) (by omega)) (h1 z)
    | succ d ih =>
      intro e hP he ed h0 h1
      obtain ⟨e', rfl⟩ : ∃ e', e = e' + 1 := ⟨e - 1, by omega⟩
      have ex : hx_end aH p (e' + 1) hP = hx_end aH p e' (if hP (aH e').toNatClampNeg = nI e' then upd hP (aH e').toNatClampNeg (-1) else hP) := by
        simp only [hx_end]; rw [if_pos (by omega)]
      rw [ex] at h0 h1
      obtain ⟨hh, hh1, hh2⟩ := hH e' (by omega)
      have c : (nI e').toNatClampNeg = e' := nI_clamp (by omega)
      rw [pk_m1]
      refine br_f (nI_nlt (by omega) (by omega)) ⟨vp_in_nI (by omega) (by omega), nm_r (congrArg aH c) ⟨by rw [hh2]; exact vp_in_nI hh1 (by omega), ?_⟩⟩
      by_cases z : hP (aH e').toNatClampNeg = nI e'
      · rw [if_pos z] at h0 h1
        exact br_t z ⟨by rw [hh2]; exact vp_in_nI hh1 (by omega), nm_e (nm_e (ih e' _ (by omega) (by omega) h0 h1))⟩
      · rw [if_neg z] at h0 h1
        exact br_f z (nm_e (ih e' _ (by omega) (by omega) h0 h1))
  unfold wpX_returnFrom
  refine nm_r (e' := nI (q + 1) + (-1)) (by rw [pk_m1, nI_pred]) ⟨q + 1 - p + 1, key _ _ _ (Nat.le_refl _) (by omega) h0 h1⟩
end
