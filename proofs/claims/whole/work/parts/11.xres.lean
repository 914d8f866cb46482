section
variable {xn xm xo xpn xf xd xa xh xp xt xy : Int32} {xr xv : Int64} {tk tv af dp ib ms aH aB hP pT pL : Nat → Int32} {pr gl aP lo pV : Nat → Int64} {K : SX → Prop} {p t q k : Nat}
/-! a pending token is resumed -/
theorem wx_res67 (hp : p < 128) (ht : t < 128) (hT : pT p = nI t) (hk16 : k ≤ 16) (hk : tk t = nI k) (hb : ¬ hs_bin (nI k) ∨ pL p = 1) (h : wX_resumeToken_67 K (nI p) (nI t) (nI k) xn xm xo xr xpn xf xd xa xh (nI (p + 1)) xt xv xy tk tv af dp ib ms pr gl aH aP aB lo hP pT pL pV) : wpX_resumeToken K (xn, xm, xo, xr, xpn, xf, xd, xa, xh, nI (p + 1), xt, xv, xy, tk, tv, af, dp, ib, ms, pr, gl, aH, aP, aB, lo, hP, pT, pL, pV) := by
  have e1 : (nI p).toNatClampNeg = p := nI_clamp (by omega)
  have e2 : (nI t).toNatClampNeg = t := nI_clamp (by omega)
  have i1 : vp_in (nI p) 128 := vp_in_nI hp (by omega)
  unfold wpX_resumeToken
  refine nm_r (nI_pred p) ⟨i1, nm_r (show _ = nI t by rw [e1, hT]) ⟨vp_in_nI ht (by omega), nm_r (show _ = nI k by rw [e2, hk]) ?_⟩⟩
  by_cases z : hs_bin (nI k)
  · refine wx_both1 hk16 z (br_f (by decide) ⟨i1, br_f ?_ h⟩)
    rcases hb with y | y
    · exact absurd z y
    · rw [e1, y]; decide
  · exact wx_both0 hk16 z (br_t rfl h)
theorem wx_res1 {c : Nat} (hp : p < 128) (ht : t + 1 < 128) (hT : pT p = nI t) (hk16 : k ≤ 16) (hk : tk t = nI k) (hb : hs_bin (nI k)) (hL : pL p = 0) (haf : af (t + 1) = nI c)
    (h : K (xn, xm, xo, xr, xpn, xf, xd, xa, xh, nI (p + 1), nI c, xv, 0, tk, tv, af, dp, ib, ms, pr, gl, aH, aP, aB, lo, hP, pT, upd pL p 1, vp_updL pV p xv)) : wpX_resumeToken K (xn, xm, xo, xr, xpn, xf, xd, xa, xh, nI (p + 1), xt, xv, xy, tk, tv, af, dp, ib, ms, pr, gl, aH, aP, aB, lo, hP, pT, pL, pV) := by
  have e1 : (nI p).toNatClampNeg = p := nI_clamp (by omega)
  have e2 : (nI t).toNatClampNeg = t := nI_clamp (by omega)
  have e3 : (nI (t + 1)).toNatClampNeg = t + 1 := nI_clamp (by omega)
  have i1 : vp_in (nI p) 128 := vp_in_nI hp (by omega)
  unfold wpX_resumeToken
  refine nm_r (nI_pred p) ⟨i1, nm_r (show _ = nI t by rw [e1, hT]) ⟨vp_in_nI (by omega) (by omega), nm_r (show _ = nI k by rw [e2, hk]) ?_⟩⟩
  refine wx_both1 hk16 hb (br_f (by decide) ⟨i1, br_t (by rw [e1]; exact hL) ⟨i1, nm_r (show _ = upd pL p 1 by rw [e1, wk_b1]) ⟨i1, nm_r (show _ = vp_updL pV p xv by rw [e1]) ⟨by rw [nI_1 t]; exact vp_in_nI ht (by omega), ?_⟩⟩⟩⟩)
  have ec : af (nI t + 1).toNatClampNeg = nI c := by rw [nI_1 t, e3]; exact haf
  show K (xn, xm, xo, xr, xpn, xf, xd, xa, xh, nI (p + 1), af (nI t + 1).toNatClampNeg, xv, 0, tk, tv, af, dp, ib, ms, pr, gl, aH, aP, aB, lo, hP, pT, upd pL p 1, vp_updL pV p xv)
  rw [ec]; exact h
theorem wx_if {c1 c2 : Nat} {kk v : Int32} (ht : t + 1 < 128) (hc1 : c1 < 128) (hV : hv_K xv kk v) (h1 : af (t + 1) = nI c1) (h2 : af c1 = nI c2)
    (hb : kk = 1 → K (xn, xm, 4, xr, xpn, xf, xd, xa, xh, nI p, xt, xv, xy, tk, tv, af, dp, ib, ms, pr, gl, aH, aP, aB, lo, hP, pT, pL, pV)) (hz : kk = 0 → v = 0 → K (xn, xm, xo, xr, xpn, xf, xd, xa, xh, nI p, nI c2, xv, 0, tk, tv, af, dp, ib, ms, pr, gl, aH, aP, aB, lo, hP, pT, pL, pV)) (hn : kk = 0 → v ≠ 0 → K (xn, xm, xo, xr, xpn, xf, xd, xa, xh, nI p, nI c1, xv, 0, tk, tv, af, dp, ib, ms, pr, gl, aH, aP, aB, lo, hP, pT, pL, pV)) : wX_resumeToken_67 K (nI p) (nI t) (nI 10) xn xm xo xr xpn xf xd xa xh (nI (p + 1)) xt xv xy tk tv af dp ib ms pr gl aH aP aB lo hP pT pL pV := by
  have e3 : (nI (t + 1)).toNatClampNeg = t + 1 := nI_clamp (by omega)
  have e4 : (nI c1).toNatClampNeg = c1 := nI_clamp (by omega)
  have B : wpX_chooseBranch K (xn, xm, xo, xr, xpn, xf, xd, xa, xh, nI p, xt, xv, xy, tk, tv, af, dp, ib, ms, pr, gl, aH, aP, aB, lo, hP, pT, pL, pV) (nI t) := by
    unfold wpX_chooseBranch
    refine wx_kind hV ?_
    obtain ⟨v1, v2⟩ := hV
    rcases v2 with ⟨z, -⟩ | ⟨z, -⟩
    · refine br_f (by rw [z]; decide) ⟨by rw [nI_1 t]; exact vp_in_nI ht (by omega), nm_r (show _ = nI c1 by rw [nI_1 t, e3, h1]) ⟨vp_in_nI hc1 (by omega), nm_r (show _ = nI c2 by rw [e4, h2]) ?_⟩⟩
      by_cases y : v = 0
      · exact br_t (by rw [v1]; exact y) (hz z y)
      · exact br_f (by rw [v1]; exact y) (hn z y)
    · exact br_t z (hb z)
  exact br_f (by decide) (br_f (by decide) (br_f (by decide) (br_f (by decide) (br_f (by decide) (br_f (by decide) (br_f (by decide) (br_f (by decide) (br_f (by decide) (br_f (by decide) (br_t (by decide) (B)))))))))))
theorem wx_seq {c : Nat} (ht : t + 1 < 128) (h1 : af (t + 1) = nI c) (h : K (xn, xm, xo, xr, xpn, xf, xd, xa, xh, nI p, nI c, xv, 0, tk, tv, af, dp, ib, ms, pr, gl, aH, aP, aB, lo, hP, pT, pL, pV)) : wX_resumeToken_67 K (nI p) (nI t) (nI 11) xn xm xo xr xpn xf xd xa xh (nI (p + 1)) xt xv xy tk tv af dp ib ms pr gl aH aP aB lo hP pT pL pV := by
  have e3 : (nI (t + 1)).toNatClampNeg = t + 1 := nI_clamp (by omega)
  have ec : af (nI t + 1).toNatClampNeg = nI c := by rw [nI_1 t, e3]; exact h1
  have B : K (xn, xm, xo, xr, xpn, xf, xd, xa, xh, nI p, af (nI t + 1).toNatClampNeg, xv, 0, tk, tv, af, dp, ib, ms, pr, gl, aH, aP, aB, lo, hP, pT, pL, pV) := by rw [ec]; exact h
  have B2 : vp_in (nI t + 1) 128 := by rw [nI_1 t]; exact vp_in_nI ht (by omega)
  exact br_f (by decide) (br_f (by decide) (br_f (by decide) (br_f (by decide) (br_f (by decide) (br_f (by decide) (br_f (by decide) (br_f (by decide) (br_f (by decide) (br_f (by decide) (br_f (by decide) (br_t (by decide) (⟨B2, B⟩))))))))))))
theorem wx_set {h0 j : Nat} (ht : t < 128) (hq : q < 16) (hh : aH q = nI h0) (hv : tv t = nI j) (hi : h0 * 4 + j < 1024) (h : K (xn, xm, xo, xr, xpn, xf, xd, nI (q + 1), xh, nI p, xt, xv, xy, tk, tv, af, dp, ib, ms, pr, gl, aH, aP, aB, vp_updL lo (h0 * 4 + j) xv, hP, pT, pL, pV)) : wX_resumeToken_67 K (nI p) (nI t) (nI 2) xn xm xo xr xpn xf xd (nI (q + 1)) xh (nI (p + 1)) xt xv xy tk tv af dp ib ms pr gl aH aP aB lo hP pT pL pV := by
  have e2 : (nI t).toNatClampNeg = t := nI_clamp (by omega)
  have e4 : nI (q + 1) - 1 = nI q := nI_pred q
  have e5 : (nI q).toNatClampNeg = q := nI_clamp (by omega)
  have B : wpX_storeValue K (xn, xm, xo, xr, xpn, xf, xd, nI (q + 1), xh, nI p, xt, xv, xy, tk, tv, af, dp, ib, ms, pr, gl, aH, aP, aB, lo, hP, pT, pL, pV) (nI 2) (tv (nI t).toNatClampNeg) := by
    rw [e2, hv]
    unfold wpX_storeValue
    refine br_t rfl ⟨by rw [e4]; exact vp_in_nI hq (by omega), by rw [e4, e5, hh, wk_ix]; exact vp_in_nI hi (by omega), nm_r (show _ = vp_updL lo (h0 * 4 + j) xv by rw [e4, e5, hh, wk_ix, nI_clamp (by omega)]) h⟩
  exact br_f (by decide) (br_f (by decide) (br_t (by decide) (⟨vp_in_nI ht (by omega), B⟩)))
theorem wx_gset {j : Nat} (ht : t < 128) (hv : tv t = nI j) (hi : j < 8) (h : K (xn, xm, xo, xr, xpn, xf, xd, xa, xh, nI p, xt, xv, xy, tk, tv, af, dp, ib, ms, pr, vp_updL gl j xv, aH, aP, aB, lo, hP, pT, pL, pV)) : wX_resumeToken_67 K (nI p) (nI t) (nI 4) xn xm xo xr xpn xf xd xa xh (nI (p + 1)) xt xv xy tk tv af dp ib ms pr gl aH aP aB lo hP pT pL pV := by
  have e2 : (nI t).toNatClampNeg = t := nI_clamp (by omega)
  have B : wpX_storeValue K (xn, xm, xo, xr, xpn, xf, xd, xa, xh, nI p, xt, xv, xy, tk, tv, af, dp, ib, ms, pr, gl, aH, aP, aB, lo, hP, pT, pL, pV) (nI 4) (tv (nI t).toNatClampNeg) := by
    rw [e2, hv]
    unfold wpX_storeValue
    refine br_f (by decide) (br_t rfl ⟨vp_in_nI hi (by omega), nm_r (show _ = vp_updL gl j xv by rw [nI_clamp (by omega)]) h⟩)
  exact br_f (by decide) (br_f (by decide) (br_f (by decide) (br_f (by decide) (br_t (by decide) (⟨vp_in_nI ht (by omega), B⟩)))))
theorem wx_print {pn : Nat} (ht : t < 128) (hpn : pn ≤ 32) (h1 : pn = 32 → K (xn, xm, xo, xr, nI pn, xf, xd, xa, xh, nI p, xt, xv, xy, tk, tv, af, dp, ib, ms, pr, gl, aH, aP, aB, lo, hP, pT, pL, pV)) (h2 : pn < 32 → K (xn, xm, xo, xr, nI (pn + 1), xf, xd, xa, xh, nI p, xt, xv, xy, tk, tv, af, dp, ib, ms, vp_updL pr pn xv, gl, aH, aP, aB, lo, hP, pT, pL, pV)) : wX_resumeToken_67 K (nI p) (nI t) (nI 12) xn xm xo xr (nI pn) xf xd xa xh (nI (p + 1)) xt xv xy tk tv af dp ib ms pr gl aH aP aB lo hP pT pL pV := by
  have B : ∀ y, wpX_storeValue K (xn, xm, xo, xr, nI pn, xf, xd, xa, xh, nI p, xt, xv, xy, tk, tv, af, dp, ib, ms, pr, gl, aH, aP, aB, lo, hP, pT, pL, pV) (nI 12) y := by
    intro y
    unfold wpX_storeValue
    refine br_f (by decide) (br_f (by decide) ?_)
    by_cases z : pn = 32
    · exact br_t (nI_le (a := 32) (by omega) (by omega)) (h1 z)
    · exact br_f (nI_ge (b := 32) (by omega) (by decide)) ⟨vp_in_nI (by omega) (by omega), nm_r (show _ = vp_updL pr pn xv by rw [nI_clamp (by omega)]) (nm_r (nI_1 pn) (h2 (by omega)))⟩
  exact br_f (by decide) (br_f (by decide) (br_f (by decide) (br_f (by decide) (br_f (by decide) (br_f (by decide) (br_f (by decide) (br_f (by decide) (br_f (by decide) (br_f (by decide) (br_f (by decide) (br_f (by decide) (br_t (by decide) (⟨vp_in_nI ht (by omega), B _⟩)))))))))))))
theorem wx_calc6 {ka a kb b : Int32} (hp : p < 128) (hA : hv_K (pV p) ka a) (hB : hv_K xv kb b) (h1 : ka = 1 ∨ kb = 1 → K (xn, xm, 4, xr, xpn, xf, xd, xa, xh, nI p, xt, xv, xy, tk, tv, af, dp, ib, ms, pr, gl, aH, aP, aB, lo, hP, pT, pL, pV)) (h2 : ka = 0 → kb = 0 → K (xn, xm, xo, xr, xpn, xf, xd, xa, xh, nI p, xt, hv_i (a + b), xy, tk, tv, af, dp, ib, ms, pr, gl, aH, aP, aB, lo, hP, pT, pL, pV)) : wX_resumeToken_67 K (nI p) (nI t) (nI 6) xn xm xo xr xpn xf xd xa xh (nI (p + 1)) xt xv xy tk tv af dp ib ms pr gl aH aP aB lo hP pT pL pV := by
  have e1 : (nI p).toNatClampNeg = p := nI_clamp (by omega)
  have B : wpX_calculate K (xn, xm, xo, xr, xpn, xf, xd, xa, xh, nI p, xt, xv, xy, tk, tv, af, dp, ib, ms, pr, gl, aH, aP, aB, lo, hP, pT, pL, pV) (nI 6) (pV (nI p).toNatClampNeg) xv := by
    rw [e1]
    unfold wpX_calculate
    refine wx_kind hA ?_
    obtain ⟨a1, a2⟩ := hA
    rcases a2 with ⟨z, -⟩ | ⟨z, -⟩
    · refine br_f (by rw [z]; decide) (wx_kind hB ?_)
      obtain ⟨b1, b2⟩ := hB
      rcases b2 with ⟨y, -⟩ | ⟨y, -⟩
      · refine br_f (by rw [y]; decide) ?_
        have C := h2 z y
        rw [a1, b1]
        exact br_f (by decide) (br_f (by decide) (br_t rfl C))
      · exact br_t y (h1 (Or.inr y))
    · exact br_t z (h1 (Or.inl z))
  exact br_f (by decide) (br_f (by decide) (br_f (by decide) (br_f (by decide) (br_f (by decide) (br_f (by decide) (br_t (by decide) (⟨vp_in_nI hp (by omega), B⟩)))))))
theorem wx_calc7 {ka a kb b : Int32} (hp : p < 128) (hA : hv_K (pV p) ka a) (hB : hv_K xv kb b) (h1 : ka = 1 ∨ kb = 1 → K (xn, xm, 4, xr, xpn, xf, xd, xa, xh, nI p, xt, xv, xy, tk, tv, af, dp, ib, ms, pr, gl, aH, aP, aB, lo, hP, pT, pL, pV)) (h2 : ka = 0 → kb = 0 → K (xn, xm, xo, xr, xpn, xf, xd, xa, xh, nI p, xt, hv_i (a - b), xy, tk, tv, af, dp, ib, ms, pr, gl, aH, aP, aB, lo, hP, pT, pL, pV)) : wX_resumeToken_67 K (nI p) (nI t) (nI 7) xn xm xo xr xpn xf xd xa xh (nI (p + 1)) xt xv xy tk tv af dp ib ms pr gl aH aP aB lo hP pT pL pV := by
  have e1 : (nI p).toNatClampNeg = p := nI_clamp (by omega)
  have B : wpX_calculate K (xn, xm, xo, xr, xpn, xf, xd, xa, xh, nI p, xt, xv, xy, tk, tv, af, dp, ib, ms, pr, gl, aH, aP, aB, lo, hP, pT, pL, pV) (nI 7) (pV (nI p).toNatClampNeg) xv := by
    rw [e1]
    unfold wpX_calculate
    refine wx_kind hA ?_
    obtain ⟨a1, a2⟩ := hA
    rcases a2 with ⟨z, -⟩ | ⟨z, -⟩
    · refine br_f (by rw [z]; decide) (wx_kind hB ?_)
      obtain ⟨b1, b2⟩ := hB
      rcases b2 with ⟨y, -⟩ | ⟨y, -⟩
      · refine br_f (by rw [y]; decide) ?_
        have C := h2 z y
        rw [a1, b1]
        exact br_f (by decide) (br_f (by decide) (br_f (by decide) (br_t rfl C)))
      · exact br_t y (h1 (Or.inr y))
    · exact br_t z (h1 (Or.inl z))
  exact br_f (by decide) (br_f (by decide) (br_f (by decide) (br_f (by decide) (br_f (by decide) (br_f (by decide) (br_f (by decide) (br_t (by decide) (⟨vp_in_nI hp (by omega), B⟩))))))))
theorem wx_calc8 {ka a kb b : Int32} (hp : p < 128) (hA : hv_K (pV p) ka a) (hB : hv_K xv kb b) (h1 : ka = 1 ∨ kb = 1 → K (xn, xm, 4, xr, xpn, xf, xd, xa, xh, nI p, xt, xv, xy, tk, tv, af, dp, ib, ms, pr, gl, aH, aP, aB, lo, hP, pT, pL, pV)) (h2 : ka = 0 → kb = 0 → K (xn, xm, xo, xr, xpn, xf, xd, xa, xh, nI p, xt, hv_i (a * b), xy, tk, tv, af, dp, ib, ms, pr, gl, aH, aP, aB, lo, hP, pT, pL, pV)) : wX_resumeToken_67 K (nI p) (nI t) (nI 8) xn xm xo xr xpn xf xd xa xh (nI (p + 1)) xt xv xy tk tv af dp ib ms pr gl aH aP aB lo hP pT pL pV := by
  have e1 : (nI p).toNatClampNeg = p := nI_clamp (by omega)
  have B : wpX_calculate K (xn, xm, xo, xr, xpn, xf, xd, xa, xh, nI p, xt, xv, xy, tk, tv, af, dp, ib, ms, pr, gl, aH, aP, aB, lo, hP, pT, pL, pV) (nI 8) (pV (nI p).toNatClampNeg) xv := by
    rw [e1]
    unfold wpX_calculate
    refine wx_kind hA ?_
    obtain ⟨a1, a2⟩ := hA
    rcases a2 with ⟨z, -⟩ | ⟨z, -⟩
    · refine br_f (by rw [z]; decide) (wx_kind hB ?_)
      obtain ⟨b1, b2⟩ := hB
      rcases b2 with ⟨y, -⟩ | ⟨y, -⟩
      · refine br_f (by rw [y]; decide) ?_
        have C := h2 z y
        rw [a1, b1]
        exact br_f (by decide) (br_f (by decide) (br_f (by decide) (br_f (by decide) (br_t rfl C))))
      · exact br_t y (h1 (Or.inr y))
    · exact br_t z (h1 (Or.inl z))
  exact br_f (by decide) (br_f (by decide) (br_f (by decide) (br_f (by decide) (br_f (by decide) (br_f (by decide) (br_f (by decide) (br_f (by decide) (br_t (by decide) (⟨vp_in_nI hp (by omega), B⟩)))))))))
theorem wx_calc9 {ka a kb b : Int32} (hp : p < 128) (hA : hv_K (pV p) ka a) (hB : hv_K xv kb b) (h1 : ka = 1 ∨ kb = 1 → K (xn, xm, 4, xr, xpn, xf, xd, xa, xh, nI p, xt, xv, xy, tk, tv, af, dp, ib, ms, pr, gl, aH, aP, aB, lo, hP, pT, pL, pV)) (h2 : ka = 0 → kb = 0 → K (xn, xm, xo, xr, xpn, xf, xd, xa, xh, nI p, xt, hv_i (if a < b then 1 else 0), xy, tk, tv, af, dp, ib, ms, pr, gl, aH, aP, aB, lo, hP, pT, pL, pV)) : wX_resumeToken_67 K (nI p) (nI t) (nI 9) xn xm xo xr xpn xf xd xa xh (nI (p + 1)) xt xv xy tk tv af dp ib ms pr gl aH aP aB lo hP pT pL pV := by
  have e1 : (nI p).toNatClampNeg = p := nI_clamp (by omega)
  have B : wpX_calculate K (xn, xm, xo, xr, xpn, xf, xd, xa, xh, nI p, xt, xv, xy, tk, tv, af, dp, ib, ms, pr, gl, aH, aP, aB, lo, hP, pT, pL, pV) (nI 9) (pV (nI p).toNatClampNeg) xv := by
    rw [e1]
    unfold wpX_calculate
    refine wx_kind hA ?_
    obtain ⟨a1, a2⟩ := hA
    rcases a2 with ⟨z, -⟩ | ⟨z, -⟩
    · refine br_f (by rw [z]; decide) (wx_kind hB ?_)
      obtain ⟨b1, b2⟩ := hB
      rcases b2 with ⟨y, -⟩ | ⟨y, -⟩
      · refine br_f (by rw [y]; decide) ?_
        have C := h2 z y
        rw [a1, b1]
        refine br_f (by decide) (br_t (by decide) ?_)
        by_cases w : a < b
        · rw [if_pos w] at C
          exact br_f (fun x => absurd w (Int32.not_lt.mpr x)) C
        · rw [if_neg w] at C
          exact br_t (Int32.not_lt.mp w) C
      · exact br_t y (h1 (Or.inr y))
    · exact br_t z (h1 (Or.inl z))
  exact br_f (by decide) (br_f (by decide) (br_f (by decide) (br_f (by decide) (br_f (by decide) (br_f (by decide) (br_f (by decide) (br_f (by decide) (br_f (by decide) (br_t (by decide) (⟨vp_in_nI hp (by omega), B⟩))))))))))
theorem wx_call {m mt fl nh : Nat} (ht : t < 128) (hv : tv t = nI m) (hm : m < 8) (hms : ms m = nI mt) (hq : q < 16) (hf : fl < 256) (hnh : fl ≠ 0 → q + 1 < 16 → nh < 256)
    (h0 : fl = 0 → K (xn, xm, 3, xr, xpn, nI 0, xd, nI (q + 1), nI nh, nI p, xt, xv, xy, tk, tv, af, dp, ib, ms, pr, gl, aH, aP, aB, lo, hP, pT, pL, pV)) (h1 : ∀ f1, fl = f1 + 1 → q + 1 = 16 → K (xn, xm, 5, xr, xpn, nI f1, xd, nI (q + 1), nI nh, nI p, xt, xv, xy, tk, tv, af, dp, ib, ms, pr, gl, aH, aP, aB, lo, hP, pT, pL, pV))
    (h2 : ∀ f1, fl = f1 + 1 → q + 1 < 16 → K (xn, xm, xo, xr, xpn, nI f1, wk_mx xd (nI (q + 1 + 1)), nI (q + 1 + 1), nI (nh + 1), nI p, nI mt, xv, 0, tk, tv, af, dp, ib, ms, pr, gl, upd aH (q + 1) (nI nh), aP, upd aB (q + 1) (nI p), vp_updL (vp_updL (vp_updL (vp_updL lo (nh * 4) xv) (nh * 4 + 1) 0) (nh * 4 + 2) 0) (nh * 4 + 3) 0, upd hP nh (nI (q + 1)), pT, pL, pV)) : wX_resumeToken_67 K (nI p) (nI t) (nI 15) xn xm xo xr xpn (nI fl) xd (nI (q + 1)) (nI nh) (nI (p + 1)) xt xv xy tk tv af dp ib ms pr gl aH aP aB lo hP pT pL pV := by
  have e2 : (nI t).toNatClampNeg = t := nI_clamp (by omega)
  have B : wpX_mayStart (fun r u => match u with | (xn, xm, xo, xr, xpn, xf, xd, xa, xh, xp, xt, xv, xy, tk, tv, af, dp, ib, ms, pr, gl, aH, aP, aB, lo, hP, pT, pL, pV) => ((r = 0 → K (xn, xm, xo, xr, xpn, xf, xd, xa, xh, xp, xt, xv, xy, tk, tv, af, dp, ib, ms, pr, gl, aH, aP, aB, lo, hP, pT, pL, pV)) ∧ (¬ r = 0 → (vp_in (nI t) 128 ∧ wpX_startMethod K (xn, xm, xo, xr, xpn, xf, xd, xa, xh, xp, xt, xv, xy, tk, tv, af, dp, ib, ms, pr, gl, aH, aP, aB, lo, hP, pT, pL, pV) (tv (nI t).toNatClampNeg) xv)))) (xn, xm, xo, xr, xpn, nI fl, xd, nI (q + 1), nI nh, nI p, xt, xv, xy, tk, tv, af, dp, ib, ms, pr, gl, aH, aP, aB, lo, hP, pT, pL, pV) := by
    cases fl with
    | zero => exact wx_may0 (br_t rfl (h0 rfl))
    | succ f1 =>
      by_cases z : q + 1 = 16
      · exact wx_may1 (by omega) z (br_t rfl (h1 f1 rfl z))
      · refine wx_may2 (by omega) (by omega) (br_f (by decide) ⟨vp_in_nI ht (by omega), ?_⟩)
        rw [e2, hv]
        exact wx_startMeth hm (by omega) (hnh (by omega) (by omega)) hms (h2 f1 rfl (by omega))
  exact br_f (by decide) (br_f (by decide) (br_f (by decide) (br_f (by decide) (br_f (by decide) (br_f (by decide) (br_f (by decide) (br_f (by decide) (br_f (by decide) (br_f (by decide) (br_f (by decide) (br_f (by decide) (br_f (by decide) (br_f (by decide) (br_f (by decide) (br_t (by decide) (B))))))))))))))))
theorem wx_value {kk v : Int32} {tb hb fl : Nat} (hp : p < 128) (hq : q < 16) (hf : fl < 256) (hK : hv_K (pV p) kk v) (hbl : kk = 1 → pV p = hv_b tb hb ∧ tb < 128 ∧ hb < 256)
    (ht : kk = 0 → K (xn, xm, 4, xr, xpn, nI fl, xd, nI (q + 1), xh, nI p, xt, xv, xy, tk, tv, af, dp, ib, ms, pr, gl, aH, aP, aB, lo, hP, pT, pL, pV)) (h0 : kk = 1 → fl = 0 → K (xn, xm, 3, xr, xpn, nI 0, xd, nI (q + 1), xh, nI p, xt, xv, xy, tk, tv, af, dp, ib, ms, pr, gl, aH, aP, aB, lo, hP, pT, pL, pV)) (h1 : kk = 1 → ∀ f1, fl = f1 + 1 → q + 1 = 16 → K (xn, xm, 5, xr, xpn, nI f1, xd, nI (q + 1), xh, nI p, xt, xv, xy, tk, tv, af, dp, ib, ms, pr, gl, aH, aP, aB, lo, hP, pT, pL, pV))
    (h2 : kk = 1 → ∀ f1, fl = f1 + 1 → q + 1 < 16 → K (xn, xm, xo, xr, xpn, nI f1, wk_mx xd (nI (q + 1 + 1)), nI (q + 1 + 1), xh, nI p, nI (tb + 1), xv, 0, tk, tv, af, dp, ib, ms, pr, gl, upd aH (q + 1) (nI hb), vp_updL aP (q + 1) xv, upd aB (q + 1) (nI p), lo, hP, pT, pL, pV)) : wX_resumeToken_67 K (nI p) (nI t) (nI 14) xn xm xo xr xpn (nI fl) xd (nI (q + 1)) xh (nI (p + 1)) xt xv xy tk tv af dp ib ms pr gl aH aP aB lo hP pT pL pV := by
  have e1 : (nI p).toNatClampNeg = p := nI_clamp (by omega)
  have B : wpX_startBlock K (xn, xm, xo, xr, xpn, nI fl, xd, nI (q + 1), xh, nI p, xt, xv, xy, tk, tv, af, dp, ib, ms, pr, gl, aH, aP, aB, lo, hP, pT, pL, pV) (pV (nI p).toNatClampNeg) xv := by
    rw [e1]
    unfold wpX_startBlock
    refine wx_kind hK ?_
    rcases hK.2 with ⟨z, -⟩ | ⟨z, -⟩
    · exact br_t z (ht z)
    · refine br_f (by rw [z]; decide) ?_
      obtain ⟨b1, b2, b3⟩ := hbl z
      cases fl with
      | zero => exact wx_may0 (br_t rfl (h0 z rfl))
      | succ f1 =>
        by_cases y : q + 1 = 16
        · exact wx_may1 (by omega) y (br_t rfl (h1 z f1 rfl y))
        · refine wx_may2 (by omega) (by omega) (br_f (by decide) ⟨vp_in_nI (by omega) (by omega), nm_r (show _ = vp_updL aP (q + 1) xv by rw [nI_clamp (by omega)]) ?_⟩)
          unfold wpX_homeOf
          rw [b1, hv_h_b (by omega) (by omega), hv_l_b (by omega) (by omega)]
          refine wx_startAct (by omega) ?_
          show K (xn, xm, xo, xr, xpn, nI f1, wk_mx xd (nI (q + 1 + 1)), nI (q + 1 + 1), xh, nI p, nI tb + 1, xv, 0, tk, tv, af, dp, ib, ms, pr, gl, upd aH (q + 1) (nI hb), vp_updL aP (q + 1) xv, upd aB (q + 1) (nI p), lo, hP, pT, pL, pV)
          rw [nI_1 tb]
          exact h2 z f1 rfl (by omega)
  exact br_f (by decide) (br_f (by decide) (br_f (by decide) (br_f (by decide) (br_f (by decide) (br_f (by decide) (br_f (by decide) (br_f (by decide) (br_f (by decide) (br_f (by decide) (br_f (by decide) (br_f (by decide) (br_f (by decide) (br_f (by decide) (br_t (by decide) (⟨vp_in_nI hp (by omega), B⟩)))))))))))))))
theorem wx_ret0 {h0 : Nat} (hq : q < 16) (hh0 : h0 < 256) (hh : aH q = nI h0) (hz : hP h0 = -1) (h1 : K (xn, xm, 2, xr, xpn, xf, xd, nI (q + 1), xh, nI p, xt, xv, xy, tk, tv, af, dp, ib, ms, pr, gl, aH, aP, aB, lo, hP, pT, pL, pV)) : wX_resumeToken_67 K (nI p) (nI t) (nI 16) xn xm xo xr xpn xf xd (nI (q + 1)) xh (nI (p + 1)) xt xv xy tk tv af dp ib ms pr gl aH aP aB lo hP pT pL pV := by
  have e4 : nI (q + 1) - 1 = nI q := nI_pred q
  have e5 : (nI q).toNatClampNeg = q := nI_clamp (by omega)
  have e6 : (nI h0).toNatClampNeg = h0 := nI_clamp (by omega)
  have B : wpX_returnToHome K (xn, xm, xo, xr, xpn, xf, xd, nI (q + 1), xh, nI p, xt, xv, xy, tk, tv, af, dp, ib, ms, pr, gl, aH, aP, aB, lo, hP, pT, pL, pV) := by
    unfold wpX_returnToHome
    exact ⟨by rw [e4]; exact vp_in_nI hq (by omega), by rw [e4, e5, hh]; exact vp_in_nI hh0 (by omega), nm_r (show _ = hP h0 by rw [e4, e5, hh, e6]) (br_t hz h1)⟩
  exact br_f (by decide) (br_f (by decide) (br_f (by decide) (br_f (by decide) (br_f (by decide) (br_f (by decide) (br_f (by decide) (br_f (by decide) (br_f (by decide) (br_f (by decide) (br_f (by decide) (br_f (by decide) (br_f (by decide) (br_f (by decide) (br_f (by decide) (br_f (by decide) (br_t (by decide) (B)))))))))))))))))
theorem wx_ret1 {h0 r : Nat} (hq : q < 16) (hh0 : h0 < 256) (hh : aH q = nI h0) (hH : ∀ e, e ≤ q → ∃ h, h < 256 ∧ aH e = nI h) (hr : r ≤ q) (hz : hP h0 = nI r)
    (h0' : r = 0 → K (xn, xm, 1, xv, xpn, xf, xd, nI r, xh, aB r, xt, xv, xy, tk, tv, af, dp, ib, ms, pr, gl, aH, aP, aB, lo, hx_end aH r (q + 1) hP, pT, pL, pV)) (h1' : r ≠ 0 → K (xn, xm, xo, xr, xpn, xf, xd, nI r, xh, aB r, xt, xv, xy, tk, tv, af, dp, ib, ms, pr, gl, aH, aP, aB, lo, hx_end aH r (q + 1) hP, pT, pL, pV)) : wX_resumeToken_67 K (nI p) (nI t) (nI 16) xn xm xo xr xpn xf xd (nI (q + 1)) xh (nI (p + 1)) xt xv xy tk tv af dp ib ms pr gl aH aP aB lo hP pT pL pV := by
  have e4 : nI (q + 1) - 1 = nI q := nI_pred q
  have e5 : (nI q).toNatClampNeg = q := nI_clamp (by omega)
  have e6 : (nI h0).toNatClampNeg = h0 := nI_clamp (by omega)
  have ne : nI r ≠ -1 := fun e => nI_pos (n := r) (by omega) (by rw [e]; decide)
  have B : wpX_returnToHome K (xn, xm, xo, xr, xpn, xf, xd, nI (q + 1), xh, nI p, xt, xv, xy, tk, tv, af, dp, ib, ms, pr, gl, aH, aP, aB, lo, hP, pT, pL, pV) := by
    unfold wpX_returnToHome
    exact ⟨by rw [e4]; exact vp_in_nI hq (by omega), by rw [e4, e5, hh]; exact vp_in_nI hh0 (by omega), nm_r (show _ = nI r by rw [e4, e5, hh, e6, hz]) (br_f ne (wx_returnFrom hq hr hH h0' h1'))⟩
  exact br_f (by decide) (br_f (by decide) (br_f (by decide) (br_f (by decide) (br_f (by decide) (br_f (by decide) (br_f (by decide) (br_f (by decide) (br_f (by decide) (br_f (by decide) (br_f (by decide) (br_f (by decide) (br_f (by decide) (br_f (by decide) (br_f (by decide) (br_f (by decide) (br_t (by decide) (B)))))))))))))))))
end
/-! the loop of X -/
def wk_ev (K : SX → Prop) (n : Nat) (s : Int32) (u : SX) : Prop := match u with | (xn, xm, xo, xr, xpn, xf, xd, xa, xh, xp, xt, xv, xy, tk, tv, af, dp, ib, ms, pr, gl, aH, aP, aB, lo, hP, pT, pL, pV) => wX_evaluate_2 K n s xn xm xo xr xpn xf xd xa xh xp xt xv xy tk tv af dp ib ms pr gl aH aP aB lo hP pT pL pV
def wk_XGo (s : Nat) (u uf : SX) : Prop := ∀ K : SX → Prop, K uf → ∃ n, wk_ev K n (nI s) u
section
variable {xn xm xo xpn xf xd xa xh xp xt xy : Int32} {xr xv : Int64} {tk tv af dp ib ms aH aB hP pT pL : Nat → Int32} {pr gl aP lo pV : Nat → Int64} {u' uf : SX} {s q : Nat}
theorem wk_xa (hs : s < 1000000) (hb : ∀ K : SX → Prop, K u' → wpX_beginToken K (xn, xm, 0, xr, xpn, xf, xd, xa, xh, xp, xt, xv, 0, tk, tv, af, dp, ib, ms, pr, gl, aH, aP, aB, lo, hP, pT, pL, pV)) (h : wk_XGo (s + 1) u' uf) : wk_XGo s (xn, xm, 0, xr, xpn, xf, xd, xa, xh, xp, xt, xv, 0, tk, tv, af, dp, ib, ms, pr, gl, aH, aP, aB, lo, hP, pT, pL, pV) uf := by
  intro K hK
  obtain ⟨n, hn⟩ := h K hK
  obtain ⟨wn', wm', wo', wr', wpn', wf', wd', wa', wh', wp', wt', wv', wy', wtk', wtv', waf', wdp', wib', wms', wpr', wgl', waH', waP', waB', wlo', whP', wpT', wpL', wpV'⟩ := u'
  refine ⟨n + 1, ?_⟩
  exact br_f (nI_ge (b := 1000000) hs (by decide)) (br_t rfl (br_t rfl (hb _ (nm_r (nI_1 s) hn))))
theorem wk_xb (hs : s < 1000000) (hq : q < 16) (hpe : ¬ xp ≤ aB q) (hb : ∀ K : SX → Prop, K u' → wpX_resumeToken K (xn, xm, 0, xr, xpn, xf, xd, nI (q + 1), xh, xp, xt, xv, 1, tk, tv, af, dp, ib, ms, pr, gl, aH, aP, aB, lo, hP, pT, pL, pV)) (h : wk_XGo (s + 1) u' uf) : wk_XGo s (xn, xm, 0, xr, xpn, xf, xd, nI (q + 1), xh, xp, xt, xv, 1, tk, tv, af, dp, ib, ms, pr, gl, aH, aP, aB, lo, hP, pT, pL, pV) uf := by
  have e4 : nI (q + 1) - 1 = nI q := nI_pred q
  have e5 : (nI q).toNatClampNeg = q := nI_clamp (by omega)
  intro K hK
  obtain ⟨n, hn⟩ := h K hK
  obtain ⟨wn', wm', wo', wr', wpn', wf', wd', wa', wh', wp', wt', wv', wy', wtk', wtv', waf', wdp', wib', wms', wpr', wgl', waH', waP', waB', wlo', whP', wpT', wpL', wpV'⟩ := u'
  refine ⟨n + 1, ?_⟩
  exact br_f (nI_ge (b := 1000000) hs (by decide)) (br_t rfl (br_f (by decide) ⟨by rw [e4]; exact vp_in_nI hq (by omega), br_f (by rw [e4, e5]; exact hpe) (hb _ (nm_r (nI_1 s) hn))⟩))
theorem wk_xr (hs : s < 1000000) (hq : q < 16) (hpe : xp ≤ aB q) (hb : ∀ K : SX → Prop, K u' → wpX_returnFrom K (xn, xm, 0, xr, xpn, xf, xd, nI (q + 1), xh, xp, xt, xv, 1, tk, tv, af, dp, ib, ms, pr, gl, aH, aP, aB, lo, hP, pT, pL, pV) (nI q)) (h : wk_XGo (s + 1) u' uf) : wk_XGo s (xn, xm, 0, xr, xpn, xf, xd, nI (q + 1), xh, xp, xt, xv, 1, tk, tv, af, dp, ib, ms, pr, gl, aH, aP, aB, lo, hP, pT, pL, pV) uf := by
  have e4 : nI (q + 1) - 1 = nI q := nI_pred q
  have e5 : (nI q).toNatClampNeg = q := nI_clamp (by omega)
  intro K hK
  obtain ⟨n, hn⟩ := h K hK
  obtain ⟨wn', wm', wo', wr', wpn', wf', wd', wa', wh', wp', wt', wv', wy', wtk', wtv', waf', wdp', wib', wms', wpr', wgl', waH', waP', waB', wlo', whP', wpT', wpL', wpV'⟩ := u'
  refine ⟨n + 1, ?_⟩
  exact br_f (nI_ge (b := 1000000) hs (by decide)) (br_t rfl (br_f (by decide) ⟨by rw [e4]; exact vp_in_nI hq (by omega), br_t (by rw [e4, e5]; exact hpe) (by rw [e4]; exact hb _ (nm_r (nI_1 s) hn))⟩))
theorem wk_xe (hs : s < 1000000) (ho : xo ≠ 0) : wk_XGo s (xn, xm, xo, xr, xpn, xf, xd, xa, xh, xp, xt, xv, xy, tk, tv, af, dp, ib, ms, pr, gl, aH, aP, aB, lo, hP, pT, pL, pV) (xn, xm, xo, xr, xpn, xf, xd, xa, xh, xp, xt, xv, xy, tk, tv, af, dp, ib, ms, pr, gl, aH, aP, aB, lo, hP, pT, pL, pV) := by
  intro K hK
  exact ⟨1, br_f (nI_ge (b := 1000000) hs (by decide)) (br_f ho hK)⟩
end
