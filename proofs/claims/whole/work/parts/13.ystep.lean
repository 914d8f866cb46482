section
variable {yn yr ym yo yrk yrv ypn yf yd ya yac yw yv y1 y2 y3 : Int32} {tk tv pk pv gk gv gh cn cd cD cP lk lv lh yH yPk yPv yPh yM yA wt wa ws wb wx vk vv vh : Nat → Int32} {K : Int32 → SY → Prop} {N n vb t ac : Nat}
/-! one step of Y: what has its value at once -/
theorem wy_num (hn : n < 255) (ht : t < N) (hN : N ≤ 128) (hac : ac < 256) (h1 : wt n = nI t) (h2 : wa n = nI ac) (hk : tk t = nI 0) (hv : vb < 512) (h : K 0 (nI N, yr, ym, yo, yrk, yrv, ypn, yf, yd, ya, yac, nI n, nI (vb + 1), y1, y2, y3, tk, tv, pk, pv, gk, gv, gh, cn, cd, cD, cP, lk, lv, lh, yH, yPk, yPv, yPh, yM, yA, wt, wa, ws, wb, wx, upd vk vb (0), upd vv vb (tv t), upd vh vb (0))) : wpY_step K (nI N, yr, ym, yo, yrk, yrv, ypn, yf, yd, ya, yac, nI (n + 1), nI vb, y1, y2, y3, tk, tv, pk, pv, gk, gv, gh, cn, cd, cD, cP, lk, lv, lh, yH, yPk, yPv, yPh, yM, yA, wt, wa, ws, wb, wx, vk, vv, vh) := by
  have e1 : (nI n).toNatClampNeg = n := nI_clamp (by omega)
  have e2 : (nI t).toNatClampNeg = t := nI_clamp (by omega)
  have e3 : (nI ac).toNatClampNeg = ac := nI_clamp (by omega)
  have i1 : vp_in (nI n) 256 := vp_in_nI (by omega) (by omega)
  have i2 : vp_in (nI t) 128 := vp_in_nI (by omega) (by omega)
  have i3 : vp_in (nI ac) 256 := vp_in_nI hac (by omega)
  unfold wpY_step
  refine nm_r (nI_pred n) ⟨i1, nm_r (show _ = nI t by rw [e1, h1]) ⟨i1, nm_r (show _ = nI ac by rw [e1, h2]) ⟨i1, nm_r (show _ = ws n by rw [e1]) (br_f (nI_pos (by omega)) (br_t (nI_lt ht (by omega)) ⟨i2, nm_r (show _ = nI 0 by rw [e2, hk]) ⟨i2, nm_r (congrArg tv e2) ⟨i3, nm_r (congrArg yH e3) ?_⟩⟩⟩))⟩⟩⟩
  exact br_t (by decide) (wy_pushV hv (nm_r (nI_pred n) h))
theorem wy_var (hn : n < 255) (ht : t < N) (hN : N ≤ 128) (hac : ac < 256) (h1 : wt n = nI t) (h2 : wa n = nI ac) (hk : tk t = nI 1) {h0 j : Nat} (hv : vb < 512) (hh : yH ac = nI h0) (hj : tv t = nI j) (hi : h0 * 4 + j < 1024) (h : K 0 (nI N, yr, ym, yo, yrk, yrv, ypn, yf, yd, ya, yac, nI n, nI (vb + 1), y1, y2, y3, tk, tv, pk, pv, gk, gv, gh, cn, cd, cD, cP, lk, lv, lh, yH, yPk, yPv, yPh, yM, yA, wt, wa, ws, wb, wx, upd vk vb (lk (h0 * 4 + j)), upd vv vb (lv (h0 * 4 + j)), upd vh vb (lh (h0 * 4 + j)))) : wpY_step K (nI N, yr, ym, yo, yrk, yrv, ypn, yf, yd, ya, yac, nI (n + 1), nI vb, y1, y2, y3, tk, tv, pk, pv, gk, gv, gh, cn, cd, cD, cP, lk, lv, lh, yH, yPk, yPv, yPh, yM, yA, wt, wa, ws, wb, wx, vk, vv, vh) := by
  have e1 : (nI n).toNatClampNeg = n := nI_clamp (by omega)
  have e2 : (nI t).toNatClampNeg = t := nI_clamp (by omega)
  have e3 : (nI ac).toNatClampNeg = ac := nI_clamp (by omega)
  have i1 : vp_in (nI n) 256 := vp_in_nI (by omega) (by omega)
  have i2 : vp_in (nI t) 128 := vp_in_nI (by omega) (by omega)
  have i3 : vp_in (nI ac) 256 := vp_in_nI hac (by omega)
  unfold wpY_step
  refine nm_r (nI_pred n) ⟨i1, nm_r (show _ = nI t by rw [e1, h1]) ⟨i1, nm_r (show _ = nI ac by rw [e1, h2]) ⟨i1, nm_r (show _ = ws n by rw [e1]) (br_f (nI_pos (by omega)) (br_t (nI_lt ht (by omega)) ⟨i2, nm_r (show _ = nI 1 by rw [e2, hk]) ⟨i2, nm_r (congrArg tv e2) ⟨i3, nm_r (congrArg yH e3) ?_⟩⟩⟩))⟩⟩⟩
  have B1 : vp_in (yH ac * 4 + tv t) 1024 := by rw [hh, hj, wk_ix]; exact vp_in_nI hi (by omega)
  have B2 : (yH ac * 4 + tv t).toNatClampNeg = h0 * 4 + j := by rw [hh, hj, wk_ix]; exact nI_clamp (by omega)
  exact br_f (by decide) (br_t (by decide) (⟨B1, B1, B1, by rw [B2]; exact wy_pushV hv (nm_r (nI_pred n) h)⟩))
theorem wy_glob (hn : n < 255) (ht : t < N) (hN : N ≤ 128) (hac : ac < 256) (h1 : wt n = nI t) (h2 : wa n = nI ac) (hk : tk t = nI 3) {j : Nat} (hv : vb < 512) (hj : tv t = nI j) (hi : j < 8) (h : K 0 (nI N, yr, ym, yo, yrk, yrv, ypn, yf, yd, ya, yac, nI n, nI (vb + 1), y1, y2, y3, tk, tv, pk, pv, gk, gv, gh, cn, cd, cD, cP, lk, lv, lh, yH, yPk, yPv, yPh, yM, yA, wt, wa, ws, wb, wx, upd vk vb (gk j), upd vv vb (gv j), upd vh vb (gh j))) : wpY_step K (nI N, yr, ym, yo, yrk, yrv, ypn, yf, yd, ya, yac, nI (n + 1), nI vb, y1, y2, y3, tk, tv, pk, pv, gk, gv, gh, cn, cd, cD, cP, lk, lv, lh, yH, yPk, yPv, yPh, yM, yA, wt, wa, ws, wb, wx, vk, vv, vh) := by
  have e1 : (nI n).toNatClampNeg = n := nI_clamp (by omega)
  have e2 : (nI t).toNatClampNeg = t := nI_clamp (by omega)
  have e3 : (nI ac).toNatClampNeg = ac := nI_clamp (by omega)
  have i1 : vp_in (nI n) 256 := vp_in_nI (by omega) (by omega)
  have i2 : vp_in (nI t) 128 := vp_in_nI (by omega) (by omega)
  have i3 : vp_in (nI ac) 256 := vp_in_nI hac (by omega)
  unfold wpY_step
  refine nm_r (nI_pred n) ⟨i1, nm_r (show _ = nI t by rw [e1, h1]) ⟨i1, nm_r (show _ = nI ac by rw [e1, h2]) ⟨i1, nm_r (show _ = ws n by rw [e1]) (br_f (nI_pos (by omega)) (br_t (nI_lt ht (by omega)) ⟨i2, nm_r (show _ = nI 3 by rw [e2, hk]) ⟨i2, nm_r (congrArg tv e2) ⟨i3, nm_r (congrArg yH e3) ?_⟩⟩⟩))⟩⟩⟩
  have B1 : vp_in (tv t) 8 := by rw [hj]; exact vp_in_nI hi (by omega)
  have B2 : (tv t).toNatClampNeg = j := by rw [hj]; exact nI_clamp (by omega)
  exact br_f (by decide) (br_f (by decide) (br_t (by decide) (⟨B1, B1, B1, by rw [B2]; exact wy_pushV hv (nm_r (nI_pred n) h)⟩)))
theorem wy_param (hn : n < 255) (ht : t < N) (hN : N ≤ 128) (hac : ac < 256) (h1 : wt n = nI t) (h2 : wa n = nI ac) (hk : tk t = nI 5) (hv : vb < 512) (h : K 0 (nI N, yr, ym, yo, yrk, yrv, ypn, yf, yd, ya, yac, nI n, nI (vb + 1), y1, y2, y3, tk, tv, pk, pv, gk, gv, gh, cn, cd, cD, cP, lk, lv, lh, yH, yPk, yPv, yPh, yM, yA, wt, wa, ws, wb, wx, upd vk vb (yPk ac), upd vv vb (yPv ac), upd vh vb (yPh ac))) : wpY_step K (nI N, yr, ym, yo, yrk, yrv, ypn, yf, yd, ya, yac, nI (n + 1), nI vb, y1, y2, y3, tk, tv, pk, pv, gk, gv, gh, cn, cd, cD, cP, lk, lv, lh, yH, yPk, yPv, yPh, yM, yA, wt, wa, ws, wb, wx, vk, vv, vh) := by
  have e1 : (nI n).toNatClampNeg = n := nI_clamp (by omega)
  have e2 : (nI t).toNatClampNeg = t := nI_clamp (by omega)
  have e3 : (nI ac).toNatClampNeg = ac := nI_clamp (by omega)
  have i1 : vp_in (nI n) 256 := vp_in_nI (by omega) (by omega)
  have i2 : vp_in (nI t) 128 := vp_in_nI (by omega) (by omega)
  have i3 : vp_in (nI ac) 256 := vp_in_nI hac (by omega)
  unfold wpY_step
  refine nm_r (nI_pred n) ⟨i1, nm_r (show _ = nI t by rw [e1, h1]) ⟨i1, nm_r (show _ = nI ac by rw [e1, h2]) ⟨i1, nm_r (show _ = ws n by rw [e1]) (br_f (nI_pos (by omega)) (br_t (nI_lt ht (by omega)) ⟨i2, nm_r (show _ = nI 5 by rw [e2, hk]) ⟨i2, nm_r (congrArg tv e2) ⟨i3, nm_r (congrArg yH e3) ?_⟩⟩⟩))⟩⟩⟩
  exact br_f (by decide) (br_f (by decide) (br_f (by decide) (br_t (by decide) (⟨i3, i3, i3, by rw [e3]; exact wy_pushV hv (nm_r (nI_pred n) h)⟩))))
theorem wy_block (hn : n < 255) (ht : t < N) (hN : N ≤ 128) (hac : ac < 256) (h1 : wt n = nI t) (h2 : wa n = nI ac) (hk : tk t = nI 13) (hv : vb < 512) (h : K 0 (nI N, yr, ym, yo, yrk, yrv, ypn, yf, yd, ya, yac, nI n, nI (vb + 1), y1, y2, y3, tk, tv, pk, pv, gk, gv, gh, cn, cd, cD, cP, lk, lv, lh, yH, yPk, yPv, yPh, yM, yA, wt, wa, ws, wb, wx, upd vk vb (1), upd vv vb (nI t), upd vh vb (yH ac))) : wpY_step K (nI N, yr, ym, yo, yrk, yrv, ypn, yf, yd, ya, yac, nI (n + 1), nI vb, y1, y2, y3, tk, tv, pk, pv, gk, gv, gh, cn, cd, cD, cP, lk, lv, lh, yH, yPk, yPv, yPh, yM, yA, wt, wa, ws, wb, wx, vk, vv, vh) := by
  have e1 : (nI n).toNatClampNeg = n := nI_clamp (by omega)
  have e2 : (nI t).toNatClampNeg = t := nI_clamp (by omega)
  have e3 : (nI ac).toNatClampNeg = ac := nI_clamp (by omega)
  have i1 : vp_in (nI n) 256 := vp_in_nI (by omega) (by omega)
  have i2 : vp_in (nI t) 128 := vp_in_nI (by omega) (by omega)
  have i3 : vp_in (nI ac) 256 := vp_in_nI hac (by omega)
  unfold wpY_step
  refine nm_r (nI_pred n) ⟨i1, nm_r (show _ = nI t by rw [e1, h1]) ⟨i1, nm_r (show _ = nI ac by rw [e1, h2]) ⟨i1, nm_r (show _ = ws n by rw [e1]) (br_f (nI_pos (by omega)) (br_t (nI_lt ht (by omega)) ⟨i2, nm_r (show _ = nI 13 by rw [e2, hk]) ⟨i2, nm_r (congrArg tv e2) ⟨i3, nm_r (congrArg yH e3) ?_⟩⟩⟩))⟩⟩⟩
  exact br_f (by decide) (br_f (by decide) (br_f (by decide) (br_f (by decide) (br_t (by decide) (wy_pushV hv (nm_r (nI_pred n) h))))))
theorem wy_wait {k : Nat} (hn : n < 255) (ht : t < N) (hN : N ≤ 128) (hac : ac < 256) (h1 : wt n = nI t) (h2 : wa n = nI ac) (h3 : ws n = 0) (hk16 : k ≤ 16) (hk : tk t = nI k) (ha : 1 ≤ hc_ar (tk t)) (h13 : tk t ≠ 13) (h : K 0 (nI N, yr, ym, yo, yrk, yrv, ypn, yf, yd, ya, yac, nI (n + 1 + 1), yv, y1, y2, y3, tk, tv, pk, pv, gk, gv, gh, cn, cd, cD, cP, lk, lv, lh, yH, yPk, yPv, yPh, yM, yA, upd wt (n + 1) (nI (t + 1)), upd wa (n + 1) (nI ac), upd (upd ws n 1) (n + 1) 0, upd wb (n + 1) yv, upd wx (n + 1) 0, vk, vv, vh)) : wpY_step K (nI N, yr, ym, yo, yrk, yrv, ypn, yf, yd, ya, yac, nI (n + 1), yv, y1, y2, y3, tk, tv, pk, pv, gk, gv, gh, cn, cd, cD, cP, lk, lv, lh, yH, yPk, yPv, yPh, yM, yA, wt, wa, ws, wb, wx, vk, vv, vh) := by
  have e1 : (nI n).toNatClampNeg = n := nI_clamp (by omega)
  have e2 : (nI t).toNatClampNeg = t := nI_clamp (by omega)
  have e3 : (nI ac).toNatClampNeg = ac := nI_clamp (by omega)
  have i1 : vp_in (nI n) 256 := vp_in_nI (by omega) (by omega)
  have i2 : vp_in (nI t) 128 := vp_in_nI (by omega) (by omega)
  have i3 : vp_in (nI ac) 256 := vp_in_nI hac (by omega)
  unfold wpY_step
  refine nm_r (nI_pred n) ⟨i1, nm_r (show _ = nI t by rw [e1, h1]) ⟨i1, nm_r (show _ = nI ac by rw [e1, h2]) ⟨i1, nm_r (show _ = 0 by rw [e1, h3]) (br_f (nI_pos (by omega)) (br_t (nI_lt ht (by omega)) ⟨i2, nm_r (show _ = nI k by rw [e2, hk]) ⟨i2, nm_r (congrArg tv e2) ⟨i3, nm_r (congrArg yH e3) ?_⟩⟩⟩))⟩⟩⟩
  have B : wpY_pushW (K 0) (nI N, yr, ym, yo, yrk, yrv, ypn, yf, yd, ya, yac, nI (n + 1), yv, y1, y2, y3, tk, tv, pk, pv, gk, gv, gh, cn, cd, cD, cP, lk, lv, lh, yH, yPk, yPv, yPh, yM, yA, wt, wa, upd ws n 1, wb, wx, vk, vv, vh) (nI t + 1) (nI ac) := by rw [nI_1 t]; exact wy_pushW (by omega) h
  have C := And.intro i1 (nm_r (P := fun z => wpY_pushW (K 0) (nI N, yr, ym, yo, yrk, yrv, ypn, yf, yd, ya, yac, nI (n + 1), yv, y1, y2, y3, tk, tv, pk, pv, gk, gv, gh, cn, cd, cD, cP, lk, lv, lh, yH, yPk, yPv, yPh, yM, yA, wt, wa, z, wb, wx, vk, vv, vh) (nI t + 1) (nI ac)) (show upd ws (nI n).toNatClampNeg 1 = upd ws n 1 by rw [e1]) B)
  rw [hk] at ha h13
  match k, hk16, ha, h13 with
  | 0, _, ha, _ => exact absurd ha (by decide)
  | 1, _, ha, _ => exact absurd ha (by decide)
  | 2, _, _, _ => exact br_f (by decide) (br_f (by decide) (br_f (by decide) (br_f (by decide) (br_f (by decide) (br_f (by decide) (wy_arity (k := 2) (by decide) (by rw [show hc_ar (nI 2) = 1 by decide]; exact br_t (by decide) (br_t (by decide) C))))))))
  | 3, _, ha, _ => exact absurd ha (by decide)
  | 4, _, _, _ => exact br_f (by decide) (br_f (by decide) (br_f (by decide) (br_f (by decide) (br_f (by decide) (br_f (by decide) (wy_arity (k := 4) (by decide) (by rw [show hc_ar (nI 4) = 1 by decide]; exact br_t (by decide) (br_t (by decide) C))))))))
  | 5, _, ha, _ => exact absurd ha (by decide)
  | 6, _, _, _ => exact br_f (by decide) (br_f (by decide) (br_f (by decide) (br_f (by decide) (br_f (by decide) (br_f (by decide) (wy_arity (k := 6) (by decide) (by rw [show hc_ar (nI 6) = 2 by decide]; exact br_f (by decide) (br_t (by decide) C))))))))
  | 7, _, _, _ => exact br_f (by decide) (br_f (by decide) (br_f (by decide) (br_f (by decide) (br_f (by decide) (br_f (by decide) (wy_arity (k := 7) (by decide) (by rw [show hc_ar (nI 7) = 2 by decide]; exact br_f (by decide) (br_t (by decide) C))))))))
  | 8, _, _, _ => exact br_f (by decide) (br_f (by decide) (br_f (by decide) (br_f (by decide) (br_f (by decide) (br_f (by decide) (wy_arity (k := 8) (by decide) (by rw [show hc_ar (nI 8) = 2 by decide]; exact br_f (by decide) (br_t (by decide) C))))))))
  | 9, _, _, _ => exact br_f (by decide) (br_f (by decide) (br_f (by decide) (br_f (by decide) (br_f (by decide) (br_f (by decide) (wy_arity (k := 9) (by decide) (by rw [show hc_ar (nI 9) = 2 by decide]; exact br_f (by decide) (br_t (by decide) C))))))))
  | 10, _, _, _ => exact br_f (by decide) (br_f (by decide) (br_f (by decide) (br_f (by decide) (br_f (by decide) (br_t (by decide) (br_t (by decide) C))))))
  | 11, _, _, _ => exact br_f (by decide) (br_f (by decide) (br_f (by decide) (br_f (by decide) (br_f (by decide) (br_f (by decide) (wy_arity (k := 11) (by decide) (by rw [show hc_ar (nI 11) = 2 by decide]; exact br_f (by decide) (br_t (by decide) C))))))))
  | 12, _, _, _ => exact br_f (by decide) (br_f (by decide) (br_f (by decide) (br_f (by decide) (br_f (by decide) (br_f (by decide) (wy_arity (k := 12) (by decide) (by rw [show hc_ar (nI 12) = 1 by decide]; exact br_t (by decide) (br_t (by decide) C))))))))
  | 13, _, _, h13 => exact absurd rfl h13
  | 14, _, _, _ => exact br_f (by decide) (br_f (by decide) (br_f (by decide) (br_f (by decide) (br_f (by decide) (br_f (by decide) (wy_arity (k := 14) (by decide) (by rw [show hc_ar (nI 14) = 2 by decide]; exact br_f (by decide) (br_t (by decide) C))))))))
  | 15, _, _, _ => exact br_f (by decide) (br_f (by decide) (br_f (by decide) (br_f (by decide) (br_f (by decide) (br_f (by decide) (wy_arity (k := 15) (by decide) (by rw [show hc_ar (nI 15) = 1 by decide]; exact br_t (by decide) (br_t (by decide) C))))))))
  | 16, _, _, _ => exact br_f (by decide) (br_f (by decide) (br_f (by decide) (br_f (by decide) (br_f (by decide) (br_f (by decide) (wy_arity (k := 16) (by decide) (by rw [show hc_ar (nI 16) = 1 by decide]; exact br_t (by decide) (br_t (by decide) C))))))))
  | k + 17, hk, _, _ => exact absurd hk (by omega)
/-! the second operand, or a branch -/
theorem wy_bin1 {k : Nat} (hn : n < 255) (ht : t < N) (hN : N ≤ 128) (hac : ac < 256) (h1 : wt n = nI t) (h2 : wa n = nI ac) (h3 : ws n = 1) (hk16 : k ≤ 16) (hk : tk t = nI k) (ha : hc_ar (tk t) = 2) {f : Nat → Nat} (hT : hp_T tk tv N) (L : hc_Lk (hp_a tk) f 0 N) (ht1 : t + 1 < N) (h : K 0 (nI N, yr, ym, yo, yrk, yrv, ypn, yf, yd, ya, yac, nI (n + 1 + 1), yv, y1, y2, y3, tk, tv, pk, pv, gk, gv, gh, cn, cd, cD, cP, lk, lv, lh, yH, yPk, yPv, yPh, yM, yA, upd wt (n + 1) (nI (f (t + 1))), upd wa (n + 1) (nI ac), upd (upd ws n 2) (n + 1) 0, upd wb (n + 1) yv, upd wx (n + 1) 0, vk, vv, vh)) : wpY_step K (nI N, yr, ym, yo, yrk, yrv, ypn, yf, yd, ya, yac, nI (n + 1), yv, y1, y2, y3, tk, tv, pk, pv, gk, gv, gh, cn, cd, cD, cP, lk, lv, lh, yH, yPk, yPv, yPh, yM, yA, wt, wa, ws, wb, wx, vk, vv, vh) := by
  have e1 : (nI n).toNatClampNeg = n := nI_clamp (by omega)
  have e2 : (nI t).toNatClampNeg = t := nI_clamp (by omega)
  have e3 : (nI ac).toNatClampNeg = ac := nI_clamp (by omega)
  have i1 : vp_in (nI n) 256 := vp_in_nI (by omega) (by omega)
  have i2 : vp_in (nI t) 128 := vp_in_nI (by omega) (by omega)
  have i3 : vp_in (nI ac) 256 := vp_in_nI hac (by omega)
  unfold wpY_step
  refine nm_r (nI_pred n) ⟨i1, nm_r (show _ = nI t by rw [e1, h1]) ⟨i1, nm_r (show _ = nI ac by rw [e1, h2]) ⟨i1, nm_r (show _ = 1 by rw [e1, h3]) (br_f (nI_pos (by omega)) (br_t (nI_lt ht (by omega)) ⟨i2, nm_r (show _ = nI k by rw [e2, hk]) ⟨i2, nm_r (congrArg tv e2) ⟨i3, nm_r (congrArg yH e3) ?_⟩⟩⟩))⟩⟩⟩
  have C : wpY_skipExpr (fun r => vp_in (nI n) 256 ∧ ∀ z, z = upd ws (nI n).toNatClampNeg 2 → wpY_pushW (K 0) (nI N, yr, ym, yo, yrk, yrv, ypn, yf, yd, ya, yac, nI (n + 1), yv, y1, y2, y3, tk, tv, pk, pv, gk, gv, gh, cn, cd, cD, cP, lk, lv, lh, yH, yPk, yPv, yPh, yM, yA, wt, wa, z, wb, wx, vk, vv, vh) r (nI ac)) (nI N, yr, ym, yo, yrk, yrv, ypn, yf, yd, ya, yac, nI (n + 1), yv, y1, y2, y3, tk, tv, pk, pv, gk, gv, gh, cn, cd, cD, cP, lk, lv, lh, yH, yPk, yPv, yPh, yM, yA, wt, wa, ws, wb, wx, vk, vv, vh) (nI t + 1) := by
    rw [nI_1 t]
    exact wy_skip hT hN L ht1 ⟨i1, nm_r (show _ = upd ws n 2 by rw [e1]) (wy_pushW (by omega) h)⟩
  rw [hk] at ha
  match k, hk16, ha with
  | 0, _, ha => exact absurd ha (by decide)
  | 1, _, ha => exact absurd ha (by decide)
  | 2, _, ha => exact absurd ha (by decide)
  | 3, _, ha => exact absurd ha (by decide)
  | 4, _, ha => exact absurd ha (by decide)
  | 5, _, ha => exact absurd ha (by decide)
  | 6, _, _ => exact br_f (by decide) (br_f (by decide) (br_f (by decide) (br_f (by decide) (br_f (by decide) (br_f (by decide) (wy_arity (k := 6) (by decide) (by rw [show hc_ar (nI 6) = 2 by decide]; exact br_f (by decide) (br_f (by decide) (br_t (by decide) C)))))))))
  | 7, _, _ => exact br_f (by decide) (br_f (by decide) (br_f (by decide) (br_f (by decide) (br_f (by decide) (br_f (by decide) (wy_arity (k := 7) (by decide) (by rw [show hc_ar (nI 7) = 2 by decide]; exact br_f (by decide) (br_f (by decide) (br_t (by decide) C)))))))))
  | 8, _, _ => exact br_f (by decide) (br_f (by decide) (br_f (by decide) (br_f (by decide) (br_f (by decide) (br_f (by decide) (wy_arity (k := 8) (by decide) (by rw [show hc_ar (nI 8) = 2 by decide]; exact br_f (by decide) (br_f (by decide) (br_t (by decide) C)))))))))
  | 9, _, _ => exact br_f (by decide) (br_f (by decide) (br_f (by decide) (br_f (by decide) (br_f (by decide) (br_f (by decide) (wy_arity (k := 9) (by decide) (by rw [show hc_ar (nI 9) = 2 by decide]; exact br_f (by decide) (br_f (by decide) (br_t (by decide) C)))))))))
  | 10, _, ha => exact absurd ha (by decide)
  | 11, _, _ => exact br_f (by decide) (br_f (by decide) (br_f (by decide) (br_f (by decide) (br_f (by decide) (br_f (by decide) (wy_arity (k := 11) (by decide) (by rw [show hc_ar (nI 11) = 2 by decide]; exact br_f (by decide) (br_f (by decide) (br_t (by decide) C)))))))))
  | 12, _, ha => exact absurd ha (by decide)
  | 13, _, ha => exact absurd ha (by decide)
  | 14, _, _ => exact br_f (by decide) (br_f (by decide) (br_f (by decide) (br_f (by decide) (br_f (by decide) (br_f (by decide) (wy_arity (k := 14) (by decide) (by rw [show hc_ar (nI 14) = 2 by decide]; exact br_f (by decide) (br_f (by decide) (br_t (by decide) C)))))))))
  | 15, _, ha => exact absurd ha (by decide)
  | 16, _, ha => exact absurd ha (by decide)
  | k + 17, hk, _ => exact absurd hk (by omega)
theorem wy_if1 (hn : n < 255) (ht : t < N) (hN : N ≤ 128) (hac : ac < 256) (h1 : wt n = nI t) (h2 : wa n = nI ac) (h3 : ws n = 1) (hk : tk t = nI 10) {f : Nat → Nat} (hT : hp_T tk tv N) (L : hc_Lk (hp_a tk) f 0 N) (hv : vb < 512) (ht1 : t + 1 < N) (ht2 : f (t + 1) < N) (hb : vk vb = 1 → K 4 (nI N, yr, ym, yo, yrk, yrv, ypn, yf, yd, ya, yac, nI (n + 1), nI vb, vk vb, vv vb, vh vb, tk, tv, pk, pv, gk, gv, gh, cn, cd, cD, cP, lk, lv, lh, yH, yPk, yPv, yPh, yM, yA, wt, wa, ws, wb, wx, vk, vv, vh)) (hz : vk vb ≠ 1 → vv vb = 0 → K 0 (nI N, yr, ym, yo, yrk, yrv, ypn, yf, yd, ya, yac, nI (n + 1 + 1), nI vb, vk vb, vv vb, vh vb, tk, tv, pk, pv, gk, gv, gh, cn, cd, cD, cP, lk, lv, lh, yH, yPk, yPv, yPh, yM, yA, upd wt (n + 1) (nI (f (f (t + 1)))), upd wa (n + 1) (nI ac), upd (upd ws n 2) (n + 1) 0, upd wb (n + 1) (nI vb), upd wx (n + 1) 0, vk, vv, vh)) (hnz : vk vb ≠ 1 → vv vb ≠ 0 → K 0 (nI N, yr, ym, yo, yrk, yrv, ypn, yf, yd, ya, yac, nI (n + 1 + 1), nI vb, vk vb, vv vb, vh vb, tk, tv, pk, pv, gk, gv, gh, cn, cd, cD, cP, lk, lv, lh, yH, yPk, yPv, yPh, yM, yA, upd wt (n + 1) (nI (f (t + 1))), upd wa (n + 1) (nI ac), upd (upd ws n 2) (n + 1) 0, upd wb (n + 1) (nI vb), upd wx (n + 1) 0, vk, vv, vh)) : wpY_step K (nI N, yr, ym, yo, yrk, yrv, ypn, yf, yd, ya, yac, nI (n + 1), nI (vb + 1), y1, y2, y3, tk, tv, pk, pv, gk, gv, gh, cn, cd, cD, cP, lk, lv, lh, yH, yPk, yPv, yPh, yM, yA, wt, wa, ws, wb, wx, vk, vv, vh) := by
  have e1 : (nI n).toNatClampNeg = n := nI_clamp (by omega)
  have e2 : (nI t).toNatClampNeg = t := nI_clamp (by omega)
  have e3 : (nI ac).toNatClampNeg = ac := nI_clamp (by omega)
  have i1 : vp_in (nI n) 256 := vp_in_nI (by omega) (by omega)
  have i2 : vp_in (nI t) 128 := vp_in_nI (by omega) (by omega)
  have i3 : vp_in (nI ac) 256 := vp_in_nI hac (by omega)
  unfold wpY_step
  refine nm_r (nI_pred n) ⟨i1, nm_r (show _ = nI t by rw [e1, h1]) ⟨i1, nm_r (show _ = nI ac by rw [e1, h2]) ⟨i1, nm_r (show _ = 1 by rw [e1, h3]) (br_f (nI_pos (by omega)) (br_t (nI_lt ht (by omega)) ⟨i2, nm_r (show _ = nI 10 by rw [e2, hk]) ⟨i2, nm_r (congrArg tv e2) ⟨i3, nm_r (congrArg yH e3) ?_⟩⟩⟩))⟩⟩⟩
  have E : ∀ c, K 0 (nI N, yr, ym, yo, yrk, yrv, ypn, yf, yd, ya, yac, nI (n + 1 + 1), nI vb, vk vb, vv vb, vh vb, tk, tv, pk, pv, gk, gv, gh, cn, cd, cD, cP, lk, lv, lh, yH, yPk, yPv, yPh, yM, yA, upd wt (n + 1) (nI c), upd wa (n + 1) (nI ac), upd (upd ws n 2) (n + 1) 0, upd wb (n + 1) (nI vb), upd wx (n + 1) 0, vk, vv, vh) → wY_step_338 K (nI n) (nI ac) (nI c) (nI N) yr ym yo yrk yrv ypn yf yd ya yac (nI (n + 1)) (nI vb) (vk vb) (vv vb) (vh vb) tk tv pk pv gk gv gh cn cd cD cP lk lv lh yH yPk yPv yPh yM yA wt wa ws wb wx vk vv vh := fun c h =>
    And.intro i1 (nm_r (show _ = upd ws n 2 by rw [e1]) (wy_pushW (by omega) h))
  have C : (vk vb = 1 → K 4 (nI N, yr, ym, yo, yrk, yrv, ypn, yf, yd, ya, yac, nI (n + 1), nI vb, vk vb, vv vb, vh vb, tk, tv, pk, pv, gk, gv, gh, cn, cd, cD, cP, lk, lv, lh, yH, yPk, yPv, yPh, yM, yA, wt, wa, ws, wb, wx, vk, vv, vh)) ∧ (¬ vk vb = 1 → wpY_skipExpr (fun r => ((vv vb = 0 → wpY_skipExpr (fun r' => wY_step_338 K (nI n) (nI ac) r' (nI N) yr ym yo yrk yrv ypn yf yd ya yac (nI (n + 1)) (nI vb) (vk vb) (vv vb) (vh vb) tk tv pk pv gk gv gh cn cd cD cP lk lv lh yH yPk yPv yPh yM yA wt wa ws wb wx vk vv vh) (nI N, yr, ym, yo, yrk, yrv, ypn, yf, yd, ya, yac, nI (n + 1), nI vb, vk vb, vv vb, vh vb, tk, tv, pk, pv, gk, gv, gh, cn, cd, cD, cP, lk, lv, lh, yH, yPk, yPv, yPh, yM, yA, wt, wa, ws, wb, wx, vk, vv, vh) r) ∧ (¬ vv vb = 0 → wY_step_338 K (nI n) (nI ac) r (nI N) yr ym yo yrk yrv ypn yf yd ya yac (nI (n + 1)) (nI vb) (vk vb) (vv vb) (vh vb) tk tv pk pv gk gv gh cn cd cD cP lk lv lh yH yPk yPv yPh yM yA wt wa ws wb wx vk vv vh))) (nI N, yr, ym, yo, yrk, yrv, ypn, yf, yd, ya, yac, nI (n + 1), nI vb, vk vb, vv vb, vh vb, tk, tv, pk, pv, gk, gv, gh, cn, cd, cD, cP, lk, lv, lh, yH, yPk, yPv, yPh, yM, yA, wt, wa, ws, wb, wx, vk, vv, vh) (nI t + 1)) := by
    refine ⟨hb, fun z => ?_⟩
    rw [nI_1 t]
    refine wy_skip hT hN L ht1 ⟨fun y => ?_, fun y => E _ (hnz z y)⟩
    exact wy_skip hT hN L ht2 (E _ (hz z y))
  exact br_f (by decide) (br_f (by decide) (br_f (by decide) (br_f (by decide) (br_f (by decide) (br_t (by decide) (br_f (by decide) (br_t (by decide) (wy_popV hv C))))))))
theorem wy_if2 (hn : n < 255) (ht : t < N) (hN : N ≤ 128) (hac : ac < 256) (h1 : wt n = nI t) (h2 : wa n = nI ac) (h3 : ws n = 2) (hk : tk t = nI 10) (h : K 0 (nI N, yr, ym, yo, yrk, yrv, ypn, yf, yd, ya, yac, nI n, yv, y1, y2, y3, tk, tv, pk, pv, gk, gv, gh, cn, cd, cD, cP, lk, lv, lh, yH, yPk, yPv, yPh, yM, yA, wt, wa, ws, wb, wx, vk, vv, vh)) : wpY_step K (nI N, yr, ym, yo, yrk, yrv, ypn, yf, yd, ya, yac, nI (n + 1), yv, y1, y2, y3, tk, tv, pk, pv, gk, gv, gh, cn, cd, cD, cP, lk, lv, lh, yH, yPk, yPv, yPh, yM, yA, wt, wa, ws, wb, wx, vk, vv, vh) := by
  have e1 : (nI n).toNatClampNeg = n := nI_clamp (by omega)
  have e2 : (nI t).toNatClampNeg = t := nI_clamp (by omega)
  have e3 : (nI ac).toNatClampNeg = ac := nI_clamp (by omega)
  have i1 : vp_in (nI n) 256 := vp_in_nI (by omega) (by omega)
  have i2 : vp_in (nI t) 128 := vp_in_nI (by omega) (by omega)
  have i3 : vp_in (nI ac) 256 := vp_in_nI hac (by omega)
  unfold wpY_step
  refine nm_r (nI_pred n) ⟨i1, nm_r (show _ = nI t by rw [e1, h1]) ⟨i1, nm_r (show _ = nI ac by rw [e1, h2]) ⟨i1, nm_r (show _ = 2 by rw [e1, h3]) (br_f (nI_pos (by omega)) (br_t (nI_lt ht (by omega)) ⟨i2, nm_r (show _ = nI 10 by rw [e2, hk]) ⟨i2, nm_r (congrArg tv e2) ⟨i3, nm_r (congrArg yH e3) ?_⟩⟩⟩))⟩⟩⟩
  exact br_f (by decide) (br_f (by decide) (br_f (by decide) (br_f (by decide) (br_f (by decide) (br_t (by decide) (br_f (by decide) (br_f (by decide) (nm_r (nI_pred n) h))))))))
/-! one operand -/
theorem wy_set (hn : n < 255) (ht : t < N) (hN : N ≤ 128) (hac : ac < 256) (h1 : wt n = nI t) (h2 : wa n = nI ac) (h3 : ws n = 1) (hk : tk t = nI 2) {h0 j : Nat} (hv : vb < 512) (hh : yH ac = nI h0) (hj : tv t = nI j) (hi : h0 * 4 + j < 1024) (h : K 0 (nI N, yr, ym, yo, yrk, yrv, ypn, yf, yd, ya, yac, nI n, nI (vb + 1), vk vb, vv vb, vh vb, tk, tv, pk, pv, gk, gv, gh, cn, cd, cD, cP, upd lk (h0 * 4 + j) (vk vb), upd lv (h0 * 4 + j) (vv vb), upd lh (h0 * 4 + j) (vh vb), yH, yPk, yPv, yPh, yM, yA, wt, wa, ws, wb, wx, upd vk vb (vk vb), upd vv vb (vv vb), upd vh vb (vh vb))) : wpY_step K (nI N, yr, ym, yo, yrk, yrv, ypn, yf, yd, ya, yac, nI (n + 1), nI (vb + 1), y1, y2, y3, tk, tv, pk, pv, gk, gv, gh, cn, cd, cD, cP, lk, lv, lh, yH, yPk, yPv, yPh, yM, yA, wt, wa, ws, wb, wx, vk, vv, vh) := by
  have e1 : (nI n).toNatClampNeg = n := nI_clamp (by omega)
  have e2 : (nI t).toNatClampNeg = t := nI_clamp (by omega)
  have e3 : (nI ac).toNatClampNeg = ac := nI_clamp (by omega)
  have i1 : vp_in (nI n) 256 := vp_in_nI (by omega) (by omega)
  have i2 : vp_in (nI t) 128 := vp_in_nI (by omega) (by omega)
  have i3 : vp_in (nI ac) 256 := vp_in_nI hac (by omega)
  unfold wpY_step
  refine nm_r (nI_pred n) ⟨i1, nm_r (show _ = nI t by rw [e1, h1]) ⟨i1, nm_r (show _ = nI ac by rw [e1, h2]) ⟨i1, nm_r (show _ = 1 by rw [e1, h3]) (br_f (nI_pos (by omega)) (br_t (nI_lt ht (by omega)) ⟨i2, nm_r (show _ = nI 2 by rw [e2, hk]) ⟨i2, nm_r (congrArg tv e2) ⟨i3, nm_r (congrArg yH e3) ?_⟩⟩⟩))⟩⟩⟩
  have B1 : vp_in (yH ac * 4 + tv t) 1024 := by rw [hh, hj, wk_ix]; exact vp_in_nI hi (by omega)
  have B2 : (yH ac * 4 + tv t).toNatClampNeg = h0 * 4 + j := by rw [hh, hj, wk_ix]; exact nI_clamp (by omega)
  exact br_f (by decide) (br_f (by decide) (br_f (by decide) (br_f (by decide) (br_f (by decide) (br_f (by decide) (wy_arity (k := 2) (by decide) (by rw [show hc_ar (nI 2) = 1 by decide]; exact br_t (by decide) (br_f (by decide) (br_f (by decide) (wy_popV hv (br_t (by decide) ⟨B1, nm_r (congrArg (fun i => upd lk i (vk vb)) B2) ⟨B1, nm_r (congrArg (fun i => upd lv i (vv vb)) B2) ⟨B1, nm_r (congrArg (fun i => upd lh i (vh vb)) B2) (br_f (by decide) (br_f (by decide) (br_f (by decide) (br_f (by decide) (wy_pushV hv (nm_r (nI_pred n) h))))))⟩⟩⟩)))))))))))
theorem wy_gset (hn : n < 255) (ht : t < N) (hN : N ≤ 128) (hac : ac < 256) (h1 : wt n = nI t) (h2 : wa n = nI ac) (h3 : ws n = 1) (hk : tk t = nI 4) {j : Nat} (hv : vb < 512) (hj : tv t = nI j) (hi : j < 8) (h : K 0 (nI N, yr, ym, yo, yrk, yrv, ypn, yf, yd, ya, yac, nI n, nI (vb + 1), vk vb, vv vb, vh vb, tk, tv, pk, pv, upd gk j (vk vb), upd gv j (vv vb), upd gh j (vh vb), cn, cd, cD, cP, lk, lv, lh, yH, yPk, yPv, yPh, yM, yA, wt, wa, ws, wb, wx, upd vk vb (vk vb), upd vv vb (vv vb), upd vh vb (vh vb))) : wpY_step K (nI N, yr, ym, yo, yrk, yrv, ypn, yf, yd, ya, yac, nI (n + 1), nI (vb + 1), y1, y2, y3, tk, tv, pk, pv, gk, gv, gh, cn, cd, cD, cP, lk, lv, lh, yH, yPk, yPv, yPh, yM, yA, wt, wa, ws, wb, wx, vk, vv, vh) := by
  have e1 : (nI n).toNatClampNeg = n := nI_clamp (by omega)
  have e2 : (nI t).toNatClampNeg = t := nI_clamp (by omega)
  have e3 : (nI ac).toNatClampNeg = ac := nI_clamp (by omega)
  have i1 : vp_in (nI n) 256 := vp_in_nI (by omega) (by omega)
  have i2 : vp_in (nI t) 128 := vp_in_nI (by omega) (by omega)
  have i3 : vp_in (nI ac) 256 := vp_in_nI hac (by omega)
  unfold wpY_step
  refine nm_r (nI_pred n) ⟨i1, nm_r (show _ = nI t by rw [e1, h1]) ⟨i1, nm_r (show _ = nI ac by rw [e1, h2]) ⟨i1, nm_r (show _ = 1 by rw [e1, h3]) (br_f (nI_pos (by omega)) (br_t (nI_lt ht (by omega)) ⟨i2, nm_r (show _ = nI 4 by rw [e2, hk]) ⟨i2, nm_r (congrArg tv e2) ⟨i3, nm_r (congrArg yH e3) ?_⟩⟩⟩))⟩⟩⟩
  have B1 : vp_in (tv t) 8 := by rw [hj]; exact vp_in_nI hi (by omega)
  have B2 : (tv t).toNatClampNeg = j := by rw [hj]; exact nI_clamp (by omega)
  exact br_f (by decide) (br_f (by decide) (br_f (by decide) (br_f (by decide) (br_f (by decide) (br_f (by decide) (wy_arity (k := 4) (by decide) (by rw [show hc_ar (nI 4) = 1 by decide]; exact br_t (by decide) (br_f (by decide) (br_f (by decide) (wy_popV hv (br_f (by decide) (br_t (by decide) ⟨B1, nm_r (congrArg (fun i => upd gk i (vk vb)) B2) ⟨B1, nm_r (congrArg (fun i => upd gv i (vv vb)) B2) ⟨B1, nm_r (congrArg (fun i => upd gh i (vh vb)) B2) (br_f (by decide) (br_f (by decide) (br_f (by decide) (wy_pushV hv (nm_r (nI_pred n) h)))))⟩⟩⟩))))))))))))
theorem wy_print0 (hn : n < 255) (ht : t < N) (hN : N ≤ 128) (hac : ac < 256) (h1 : wt n = nI t) (h2 : wa n = nI ac) (h3 : ws n = 1) (hk : tk t = nI 12) {pn : Nat} (hv : vb < 512) (hpn : pn = 32) (h : K 0 (nI N, yr, ym, yo, yrk, yrv, nI pn, yf, yd, ya, yac, nI n, nI (vb + 1), vk vb, vv vb, vh vb, tk, tv, pk, pv, gk, gv, gh, cn, cd, cD, cP, lk, lv, lh, yH, yPk, yPv, yPh, yM, yA, wt, wa, ws, wb, wx, upd vk vb (vk vb), upd vv vb (vv vb), upd vh vb (vh vb))) : wpY_step K (nI N, yr, ym, yo, yrk, yrv, nI pn, yf, yd, ya, yac, nI (n + 1), nI (vb + 1), y1, y2, y3, tk, tv, pk, pv, gk, gv, gh, cn, cd, cD, cP, lk, lv, lh, yH, yPk, yPv, yPh, yM, yA, wt, wa, ws, wb, wx, vk, vv, vh) := by
  have e1 : (nI n).toNatClampNeg = n := nI_clamp (by omega)
  have e2 : (nI t).toNatClampNeg = t := nI_clamp (by omega)
  have e3 : (nI ac).toNatClampNeg = ac := nI_clamp (by omega)
  have i1 : vp_in (nI n) 256 := vp_in_nI (by omega) (by omega)
  have i2 : vp_in (nI t) 128 := vp_in_nI (by omega) (by omega)
  have i3 : vp_in (nI ac) 256 := vp_in_nI hac (by omega)
  unfold wpY_step
  refine nm_r (nI_pred n) ⟨i1, nm_r (show _ = nI t by rw [e1, h1]) ⟨i1, nm_r (show _ = nI ac by rw [e1, h2]) ⟨i1, nm_r (show _ = 1 by rw [e1, h3]) (br_f (nI_pos (by omega)) (br_t (nI_lt ht (by omega)) ⟨i2, nm_r (show _ = nI 12 by rw [e2, hk]) ⟨i2, nm_r (congrArg tv e2) ⟨i3, nm_r (congrArg yH e3) ?_⟩⟩⟩))⟩⟩⟩
  exact br_f (by decide) (br_f (by decide) (br_f (by decide) (br_f (by decide) (br_f (by decide) (br_f (by decide) (wy_arity (k := 12) (by decide) (by rw [show hc_ar (nI 12) = 1 by decide]; exact br_t (by decide) (br_f (by decide) (br_f (by decide) (wy_popV hv (br_f (by decide) (br_f (by decide) (br_t (by decide) (br_t (nI_le (a := 32) (by omega) (by omega)) (br_f (by decide) (br_f (by decide) (wy_pushV hv (nm_r (nI_pred n) h))))))))))))))))))
theorem wy_print1 (hn : n < 255) (ht : t < N) (hN : N ≤ 128) (hac : ac < 256) (h1 : wt n = nI t) (h2 : wa n = nI ac) (h3 : ws n = 1) (hk : tk t = nI 12) {pn : Nat} (hv : vb < 512) (hpn : pn < 32) (h : K 0 (nI N, yr, ym, yo, yrk, yrv, nI (pn + 1), yf, yd, ya, yac, nI n, nI (vb + 1), vk vb, vv vb, vh vb, tk, tv, upd pk pn (vk vb), upd pv pn (vv vb), gk, gv, gh, cn, cd, cD, cP, lk, lv, lh, yH, yPk, yPv, yPh, yM, yA, wt, wa, ws, wb, wx, upd vk vb (vk vb), upd vv vb (vv vb), upd vh vb (vh vb))) : wpY_step K (nI N, yr, ym, yo, yrk, yrv, nI pn, yf, yd, ya, yac, nI (n + 1), nI (vb + 1), y1, y2, y3, tk, tv, pk, pv, gk, gv, gh, cn, cd, cD, cP, lk, lv, lh, yH, yPk, yPv, yPh, yM, yA, wt, wa, ws, wb, wx, vk, vv, vh) := by
  have e1 : (nI n).toNatClampNeg = n := nI_clamp (by omega)
  have e2 : (nI t).toNatClampNeg = t := nI_clamp (by omega)
  have e3 : (nI ac).toNatClampNeg = ac := nI_clamp (by omega)
  have i1 : vp_in (nI n) 256 := vp_in_nI (by omega) (by omega)
  have i2 : vp_in (nI t) 128 := vp_in_nI (by omega) (by omega)
  have i3 : vp_in (nI ac) 256 := vp_in_nI hac (by omega)
  unfold wpY_step
  refine nm_r (nI_pred n) ⟨i1, nm_r (show _ = nI t by rw [e1, h1]) ⟨i1, nm_r (show _ = nI ac by rw [e1, h2]) ⟨i1, nm_r (show _ = 1 by rw [e1, h3]) (br_f (nI_pos (by omega)) (br_t (nI_lt ht (by omega)) ⟨i2, nm_r (show _ = nI 12 by rw [e2, hk]) ⟨i2, nm_r (congrArg tv e2) ⟨i3, nm_r (congrArg yH e3) ?_⟩⟩⟩))⟩⟩⟩
  have B1 : vp_in (nI pn) 32 := vp_in_nI hpn (by omega)
  have B2 : (nI pn).toNatClampNeg = pn := nI_clamp (by omega)
  exact br_f (by decide) (br_f (by decide) (br_f (by decide) (br_f (by decide) (br_f (by decide) (br_f (by decide) (wy_arity (k := 12) (by decide) (by rw [show hc_ar (nI 12) = 1 by decide]; exact br_t (by decide) (br_f (by decide) (br_f (by decide) (wy_popV hv (br_f (by decide) (br_f (by decide) (br_t (by decide) (br_f (nI_ge (b := 32) (by omega) (by decide)) ⟨B1, nm_r (congrArg (fun i => upd pk i (vk vb)) B2) ⟨B1, nm_r (congrArg (fun i => upd pv i (vv vb)) B2) (nm_r (nI_1 pn) (br_f (by decide) (br_f (by decide) (wy_pushV hv (nm_r (nI_pred n) h)))))⟩⟩))))))))))))))
theorem wy_ret (hn : n < 255) (ht : t < N) (hN : N ≤ 128) (hac : ac < 256) (h1 : wt n = nI t) (h2 : wa n = nI ac) (h3 : ws n = 1) (hk : tk t = nI 16) (hv : vb < 512) (h : wpY_doRet K (nI N, yr, ym, yo, yrk, yrv, ypn, yf, yd, ya, yac, nI (n + 1), nI vb, vk vb, vv vb, vh vb, tk, tv, pk, pv, gk, gv, gh, cn, cd, cD, cP, lk, lv, lh, yH, yPk, yPv, yPh, yM, yA, wt, wa, ws, wb, wx, vk, vv, vh) (nI ac) (vk vb) (vv vb) (vh vb)) : wpY_step K (nI N, yr, ym, yo, yrk, yrv, ypn, yf, yd, ya, yac, nI (n + 1), nI (vb + 1), y1, y2, y3, tk, tv, pk, pv, gk, gv, gh, cn, cd, cD, cP, lk, lv, lh, yH, yPk, yPv, yPh, yM, yA, wt, wa, ws, wb, wx, vk, vv, vh) := by
  have e1 : (nI n).toNatClampNeg = n := nI_clamp (by omega)
  have e2 : (nI t).toNatClampNeg = t := nI_clamp (by omega)
  have e3 : (nI ac).toNatClampNeg = ac := nI_clamp (by omega)
  have i1 : vp_in (nI n) 256 := vp_in_nI (by omega) (by omega)
  have i2 : vp_in (nI t) 128 := vp_in_nI (by omega) (by omega)
  have i3 : vp_in (nI ac) 256 := vp_in_nI hac (by omega)
  unfold wpY_step
  refine nm_r (nI_pred n) ⟨i1, nm_r (show _ = nI t by rw [e1, h1]) ⟨i1, nm_r (show _ = nI ac by rw [e1, h2]) ⟨i1, nm_r (show _ = 1 by rw [e1, h3]) (br_f (nI_pos (by omega)) (br_t (nI_lt ht (by omega)) ⟨i2, nm_r (show _ = nI 16 by rw [e2, hk]) ⟨i2, nm_r (congrArg tv e2) ⟨i3, nm_r (congrArg yH e3) ?_⟩⟩⟩))⟩⟩⟩
  exact br_f (by decide) (br_f (by decide) (br_f (by decide) (br_f (by decide) (br_f (by decide) (br_f (by decide) (wy_arity (k := 16) (by decide) (by rw [show hc_ar (nI 16) = 1 by decide]; exact br_t (by decide) (br_f (by decide) (br_f (by decide) (wy_popV hv (br_f (by decide) (br_f (by decide) (br_f (by decide) (br_t (by decide) h))))))))))))))
theorem wy_call (hn : n < 255) (ht : t < N) (hN : N ≤ 128) (hac : ac < 256) (h1 : wt n = nI t) (h2 : wa n = nI ac) (h3 : ws n = 1) (hk : tk t = nI 15) {f : Nat → Nat} (hT : hp_T tk tv N) (L : hc_Lk (hp_a tk) f 0 N) {fl na an m : Nat} (hv : vb < 512) (hj : tv t = nI m) (hm : m < 8) (hr : ∀ k, k < m → hc_it f k 0 < N) (hfl : fl < 256) (hna : na ≤ 16) (han : fl ≠ 0 → an < 256) (h0 : fl = 0 → K 3 (nI N, yr, ym, yo, yrk, yrv, ypn, nI 0, yd, nI an, nI na, nI (n + 1), nI vb, vk vb, vv vb, vh vb, tk, tv, pk, pv, gk, gv, gh, cn, cd, cD, cP, lk, lv, lh, yH, yPk, yPv, yPh, yM, yA, wt, wa, ws, wb, wx, vk, vv, vh)) (h1' : ∀ f1, fl = f1 + 1 → na = 16 → K 5 (nI N, yr, ym, yo, yrk, yrv, ypn, nI f1, yd, nI an, nI na, nI (n + 1), nI vb, vk vb, vv vb, vh vb, tk, tv, pk, pv, gk, gv, gh, cn, cd, cD, cP, lk, lv, lh, yH, yPk, yPv, yPh, yM, yA, wt, wa, ws, wb, wx, vk, vv, vh))
    (h2' : ∀ f1, fl = f1 + 1 → na < 16 → K 0 (nI N, yr, ym, yo, yrk, yrv, ypn, nI f1, wk_mx yd (nI (na + 1)), nI (an + 1), nI (na + 1), nI (n + 1 + 1), nI vb, vk vb, vv vb, vh vb, tk, tv, pk, pv, gk, gv, gh, cn, cd, cD, cP, upd (wk_z4 lk (an * 4)) (an * 4) (vk vb), upd (wk_z4 lv (an * 4)) (an * 4) (vv vb), upd (wk_z4 lh (an * 4)) (an * 4) (vh vb), upd yH an (nI an), upd yPk an 0, upd yPv an 0, upd yPh an 0, upd yM an 1, upd yA an 1, upd wt (n + 1) (nI (hc_it f m 0)), upd wa (n + 1) (nI an), upd (upd ws n 2) (n + 1) 0, upd wb (n + 1) (nI vb), upd (upd wx n (nI an)) (n + 1) 0, vk, vv, vh)) : wpY_step K (nI N, yr, ym, yo, yrk, yrv, ypn, nI fl, yd, nI an, nI na, nI (n + 1), nI (vb + 1), y1, y2, y3, tk, tv, pk, pv, gk, gv, gh, cn, cd, cD, cP, lk, lv, lh, yH, yPk, yPv, yPh, yM, yA, wt, wa, ws, wb, wx, vk, vv, vh) := by
  have e1 : (nI n).toNatClampNeg = n := nI_clamp (by omega)
  have e2 : (nI t).toNatClampNeg = t := nI_clamp (by omega)
  have e3 : (nI ac).toNatClampNeg = ac := nI_clamp (by omega)
  have i1 : vp_in (nI n) 256 := vp_in_nI (by omega) (by omega)
  have i2 : vp_in (nI t) 128 := vp_in_nI (by omega) (by omega)
  have i3 : vp_in (nI ac) 256 := vp_in_nI hac (by omega)
  unfold wpY_step
  refine nm_r (nI_pred n) ⟨i1, nm_r (show _ = nI t by rw [e1, h1]) ⟨i1, nm_r (show _ = nI ac by rw [e1, h2]) ⟨i1, nm_r (show _ = 1 by rw [e1, h3]) (br_f (nI_pos (by omega)) (br_t (nI_lt ht (by omega)) ⟨i2, nm_r (show _ = nI 15 by rw [e2, hk]) ⟨i2, nm_r (congrArg tv e2) ⟨i3, nm_r (congrArg yH e3) ?_⟩⟩⟩))⟩⟩⟩
  have C : (nI fl = 0 → K 3 (nI N, yr, ym, yo, yrk, yrv, ypn, nI fl, yd, nI an, nI na, nI (n + 1), nI vb, vk vb, vv vb, vh vb, tk, tv, pk, pv, gk, gv, gh, cn, cd, cD, cP, lk, lv, lh, yH, yPk, yPv, yPh, yM, yA, wt, wa, ws, wb, wx, vk, vv, vh)) ∧ (¬ nI fl = 0 → ∀ f1, f1 = nI fl - 1 → ((nI na < 16 → ((nI an < 256 → wpY_methodStart (fun r => wpY_newAct (fun r' u => match u with | (yn, yr, ym, yo, yrk, yrv, ypn, yf, yd, ya, yac, yw, yv, y1, y2, y3, tk, tv, pk, pv, gk, gv, gh, cn, cd, cD, cP, lk, lv, lh, yH, yPk, yPv, yPh, yM, yA, wt, wa, ws, wb, wx, vk, vv, vh) => vp_in (nI n) 256 ∧ ∀ w1, w1 = upd ws (nI n).toNatClampNeg 2 → (vp_in (nI n) 256 ∧ ∀ w2, w2 = upd wx (nI n).toNatClampNeg r' → wpY_pushW (K 0) (yn, yr, ym, yo, yrk, yrv, ypn, yf, yd, ya, yac, yw, yv, y1, y2, y3, tk, tv, pk, pv, gk, gv, gh, cn, cd, cD, cP, lk, lv, lh, yH, yPk, yPv, yPh, yM, yA, wt, wa, w1, wb, w2, vk, vv, vh) r r')) (nI N, yr, ym, yo, yrk, yrv, ypn, f1, yd, nI an, nI na, nI (n + 1), nI vb, vk vb, vv vb, vh vb, tk, tv, pk, pv, gk, gv, gh, cn, cd, cD, cP, lk, lv, lh, yH, yPk, yPv, yPh, yM, yA, wt, wa, ws, wb, wx, vk, vv, vh) 1 0 (vk vb) (vv vb) (vh vb)) (nI N, yr, ym, yo, yrk, yrv, ypn, f1, yd, nI an, nI na, nI (n + 1), nI vb, vk vb, vv vb, vh vb, tk, tv, pk, pv, gk, gv, gh, cn, cd, cD, cP, lk, lv, lh, yH, yPk, yPv, yPh, yM, yA, wt, wa, ws, wb, wx, vk, vv, vh) (tv t)) ∧ (¬ nI an < 256 → K 3 (nI N, yr, ym, yo, yrk, yrv, ypn, f1, yd, nI an, nI na, nI (n + 1), nI vb, vk vb, vv vb, vh vb, tk, tv, pk, pv, gk, gv, gh, cn, cd, cD, cP, lk, lv, lh, yH, yPk, yPv, yPh, yM, yA, wt, wa, ws, wb, wx, vk, vv, vh)))) ∧ (¬ nI na < 16 → K 5 (nI N, yr, ym, yo, yrk, yrv, ypn, f1, yd, nI an, nI na, nI (n + 1), nI vb, vk vb, vv vb, vh vb, tk, tv, pk, pv, gk, gv, gh, cn, cd, cD, cP, lk, lv, lh, yH, yPk, yPv, yPh, yM, yA, wt, wa, ws, wb, wx, vk, vv, vh)))) := by
    cases fl with
    | zero => exact br_t rfl (h0 rfl)
    | succ f1 =>
      refine br_f (nI_ne0 (by omega) (by omega)) (nm_r (nI_pred f1) ?_)
      by_cases z : na = 16
      · exact br_f (nI_nlt (b := 16) (by omega) (by omega)) (h1' f1 rfl z)
      · refine br_t (nI_lt (b := 16) (by omega) (by decide)) (br_t (nI_lt (b := 256) (han (by omega)) (by decide)) ?_)
        rw [hj]
        refine wy_mst hT hN L hm hr (wy_newM (han (by omega)) ⟨i1, nm_r (show _ = upd ws n 2 by rw [e1]) ⟨i1, nm_r (show _ = upd wx n (nI an) by rw [e1]) (wy_pushW (by omega) (h2' f1 rfl (by omega)))⟩⟩)
  exact br_f (by decide) (br_f (by decide) (br_f (by decide) (br_f (by decide) (br_f (by decide) (br_f (by decide) (wy_arity (k := 15) (by decide) (by rw [show hc_ar (nI 15) = 1 by decide]; exact br_t (by decide) (br_f (by decide) (br_t (by decide) (br_f (by decide) (wy_popV hv (br_f (by decide) (br_f (by decide) (br_f (by decide) (br_f (by decide) (br_t (by decide) C))))))))))))))))
theorem wy_fin {P : SY → Prop} {na vb' : Nat} (hn : n < 255) (hac : ac < 256) (hv : vb < 512) (hv' : vb' < 512) (hwx : wx n = nI ac) (hA : yA ac = 1) (hwb : wb n = nI vb') (h : P (yn, yr, ym, yo, yrk, yrv, ypn, yf, yd, ya, nI na, nI n, nI (vb' + 1), vk vb, vv vb, vh vb, tk, tv, pk, pv, gk, gv, gh, cn, cd, cD, cP, lk, lv, lh, yH, yPk, yPv, yPh, yM, upd yA ac 0, wt, wa, ws, wb, wx, upd vk vb' (vk vb), upd vv vb' (vv vb), upd vh vb' (vh vb))) : wpY_finishCall P (yn, yr, ym, yo, yrk, yrv, ypn, yf, yd, ya, nI (na + 1), nI (n + 1), nI (vb + 1), y1, y2, y3, tk, tv, pk, pv, gk, gv, gh, cn, cd, cD, cP, lk, lv, lh, yH, yPk, yPv, yPh, yM, yA, wt, wa, ws, wb, wx, vk, vv, vh) (nI n) := by
  have e1 : (nI n).toNatClampNeg = n := nI_clamp (by omega)
  have e3 : (nI ac).toNatClampNeg = ac := nI_clamp (by omega)
  have i1 : vp_in (nI n) 256 := vp_in_nI (by omega) (by omega)
  have i3 : vp_in (nI ac) 256 := vp_in_nI hac (by omega)
  unfold wpY_finishCall
  refine wy_popV hv ⟨i1, nm_r (show _ = nI ac by rw [e1, hwx]) (br_f (nI_pos (by omega)) (br_f (nI_ge (b := 256) hac (by decide)) ⟨i3, br_f (by rw [e3, hA]; decide) ⟨i3, nm_r (show _ = upd yA ac 0 by rw [e3, wk_b0]) (nm_r (nI_pred na) ⟨i1, nm_r (show _ = nI vb' by rw [e1, hwb]) (wy_pushV hv' (nm_r (nI_pred n) h))⟩)⟩⟩))⟩
theorem wy_call2 (hn : n < 255) (ht : t < N) (hN : N ≤ 128) (hac : ac < 256) (h1 : wt n = nI t) (h2 : wa n = nI ac) (h3 : ws n = 2) (hk : tk t = nI 15) {na vb' : Nat} (hv : vb < 512) (hv' : vb' < 512) {ax : Nat} (hax : ax < 256) (hwx : wx n = nI ax) (hA : yA ax = 1) (hwb : wb n = nI vb') (h : K 0 (nI N, yr, ym, yo, yrk, yrv, ypn, yf, yd, ya, nI na, nI n, nI (vb' + 1), vk vb, vv vb, vh vb, tk, tv, pk, pv, gk, gv, gh, cn, cd, cD, cP, lk, lv, lh, yH, yPk, yPv, yPh, yM, upd yA ax 0, wt, wa, ws, wb, wx, upd vk vb' (vk vb), upd vv vb' (vv vb), upd vh vb' (vh vb))) : wpY_step K (nI N, yr, ym, yo, yrk, yrv, ypn, yf, yd, ya, nI (na + 1), nI (n + 1), nI (vb + 1), y1, y2, y3, tk, tv, pk, pv, gk, gv, gh, cn, cd, cD, cP, lk, lv, lh, yH, yPk, yPv, yPh, yM, yA, wt, wa, ws, wb, wx, vk, vv, vh) := by
  have e1 : (nI n).toNatClampNeg = n := nI_clamp (by omega)
  have e2 : (nI t).toNatClampNeg = t := nI_clamp (by omega)
  have e3 : (nI ac).toNatClampNeg = ac := nI_clamp (by omega)
  have i1 : vp_in (nI n) 256 := vp_in_nI (by omega) (by omega)
  have i2 : vp_in (nI t) 128 := vp_in_nI (by omega) (by omega)
  have i3 : vp_in (nI ac) 256 := vp_in_nI hac (by omega)
  unfold wpY_step
  refine nm_r (nI_pred n) ⟨i1, nm_r (show _ = nI t by rw [e1, h1]) ⟨i1, nm_r (show _ = nI ac by rw [e1, h2]) ⟨i1, nm_r (show _ = 2 by rw [e1, h3]) (br_f (nI_pos (by omega)) (br_t (nI_lt ht (by omega)) ⟨i2, nm_r (show _ = nI 15 by rw [e2, hk]) ⟨i2, nm_r (congrArg tv e2) ⟨i3, nm_r (congrArg yH e3) ?_⟩⟩⟩))⟩⟩⟩
  exact br_f (by decide) (br_f (by decide) (br_f (by decide) (br_f (by decide) (br_f (by decide) (br_f (by decide) (wy_arity (k := 15) (by decide) (by rw [show hc_ar (nI 15) = 1 by decide]; exact br_t (by decide) (br_f (by decide) (br_t (by decide) (br_t (by decide) (wy_fin (by omega) hax hv hv' hwx hA hwb h)))))))))))
theorem wy_value3 (hn : n < 255) (ht : t < N) (hN : N ≤ 128) (hac : ac < 256) (h1 : wt n = nI t) (h2 : wa n = nI ac) (h3 : ws n = 3) (hk : tk t = nI 14) {na vb' : Nat} (hv : vb < 512) (hv' : vb' < 512) {ax : Nat} (hax : ax < 256) (hwx : wx n = nI ax) (hA : yA ax = 1) (hwb : wb n = nI vb') (h : K 0 (nI N, yr, ym, yo, yrk, yrv, ypn, yf, yd, ya, nI na, nI n, nI (vb' + 1), vk vb, vv vb, vh vb, tk, tv, pk, pv, gk, gv, gh, cn, cd, cD, cP, lk, lv, lh, yH, yPk, yPv, yPh, yM, upd yA ax 0, wt, wa, ws, wb, wx, upd vk vb' (vk vb), upd vv vb' (vv vb), upd vh vb' (vh vb))) : wpY_step K (nI N, yr, ym, yo, yrk, yrv, ypn, yf, yd, ya, nI (na + 1), nI (n + 1), nI (vb + 1), y1, y2, y3, tk, tv, pk, pv, gk, gv, gh, cn, cd, cD, cP, lk, lv, lh, yH, yPk, yPv, yPh, yM, yA, wt, wa, ws, wb, wx, vk, vv, vh) := by
  have e1 : (nI n).toNatClampNeg = n := nI_clamp (by omega)
  have e2 : (nI t).toNatClampNeg = t := nI_clamp (by omega)
  have e3 : (nI ac).toNatClampNeg = ac := nI_clamp (by omega)
  have i1 : vp_in (nI n) 256 := vp_in_nI (by omega) (by omega)
  have i2 : vp_in (nI t) 128 := vp_in_nI (by omega) (by omega)
  have i3 : vp_in (nI ac) 256 := vp_in_nI hac (by omega)
  unfold wpY_step
  refine nm_r (nI_pred n) ⟨i1, nm_r (show _ = nI t by rw [e1, h1]) ⟨i1, nm_r (show _ = nI ac by rw [e1, h2]) ⟨i1, nm_r (show _ = 3 by rw [e1, h3]) (br_f (nI_pos (by omega)) (br_t (nI_lt ht (by omega)) ⟨i2, nm_r (show _ = nI 14 by rw [e2, hk]) ⟨i2, nm_r (congrArg tv e2) ⟨i3, nm_r (congrArg yH e3) ?_⟩⟩⟩))⟩⟩⟩
  exact br_f (by decide) (br_f (by decide) (br_f (by decide) (br_f (by decide) (br_f (by decide) (br_f (by decide) (wy_arity (k := 14) (by decide) (by rw [show hc_ar (nI 14) = 2 by decide]; exact br_f (by decide) (br_f (by decide) (br_f (by decide) (br_t (by decide) (wy_fin (by omega) hax hv hv' hwx hA hwb h)))))))))))
/-! two operands -/
theorem wy_seq2 (hn : n < 255) (ht : t < N) (hN : N ≤ 128) (hac : ac < 256) (h1 : wt n = nI t) (h2 : wa n = nI ac) (h3 : ws n = 2) (hk : tk t = nI 11) (hv : vb + 1 < 512) (h : K 0 (nI N, yr, ym, yo, yrk, yrv, ypn, yf, yd, ya, yac, nI n, nI (vb + 1), vk vb, vv vb, vh vb, tk, tv, pk, pv, gk, gv, gh, cn, cd, cD, cP, lk, lv, lh, yH, yPk, yPv, yPh, yM, yA, wt, wa, ws, wb, wx, upd vk vb (vk (vb + 1)), upd vv vb (vv (vb + 1)), upd vh vb (vh (vb + 1)))) : wpY_step K (nI N, yr, ym, yo, yrk, yrv, ypn, yf, yd, ya, yac, nI (n + 1), nI (vb + 1 + 1), y1, y2, y3, tk, tv, pk, pv, gk, gv, gh, cn, cd, cD, cP, lk, lv, lh, yH, yPk, yPv, yPh, yM, yA, wt, wa, ws, wb, wx, vk, vv, vh) := by
  have e1 : (nI n).toNatClampNeg = n := nI_clamp (by omega)
  have e2 : (nI t).toNatClampNeg = t := nI_clamp (by omega)
  have e3 : (nI ac).toNatClampNeg = ac := nI_clamp (by omega)
  have i1 : vp_in (nI n) 256 := vp_in_nI (by omega) (by omega)
  have i2 : vp_in (nI t) 128 := vp_in_nI (by omega) (by omega)
  have i3 : vp_in (nI ac) 256 := vp_in_nI hac (by omega)
  unfold wpY_step
  refine nm_r (nI_pred n) ⟨i1, nm_r (show _ = nI t by rw [e1, h1]) ⟨i1, nm_r (show _ = nI ac by rw [e1, h2]) ⟨i1, nm_r (show _ = 2 by rw [e1, h3]) (br_f (nI_pos (by omega)) (br_t (nI_lt ht (by omega)) ⟨i2, nm_r (show _ = nI 11 by rw [e2, hk]) ⟨i2, nm_r (congrArg tv e2) ⟨i3, nm_r (congrArg yH e3) ?_⟩⟩⟩))⟩⟩⟩
  exact br_f (by decide) (br_f (by decide) (br_f (by decide) (br_f (by decide) (br_f (by decide) (br_f (by decide) (wy_arity (k := 11) (by decide) (by rw [show hc_ar (nI 11) = 2 by decide]; exact br_f (by decide) (br_f (by decide) (br_f (by decide) (br_f (by decide) (wy_popV hv (wy_popV (by omega) (br_t (by decide) (wy_pushV (by omega) (nm_r (nI_pred n) h)))))))))))))))
theorem wy_calc6 (hn : n < 255) (ht : t < N) (hN : N ≤ 128) (hac : ac < 256) (h1 : wt n = nI t) (h2 : wa n = nI ac) (h3 : ws n = 2) (hk : tk t = nI 6) (hv : vb + 1 < 512) (hb : vk vb = 1 ∨ vk (vb + 1) = 1 → K 4 (nI N, yr, ym, yo, yrk, yrv, ypn, yf, yd, ya, yac, nI (n + 1), nI vb, vk vb, vv vb, vh vb, tk, tv, pk, pv, gk, gv, gh, cn, cd, cD, cP, lk, lv, lh, yH, yPk, yPv, yPh, yM, yA, wt, wa, ws, wb, wx, vk, vv, vh)) (h : vk vb ≠ 1 → vk (vb + 1) ≠ 1 → K 0 (nI N, yr, ym, yo, yrk, yrv, ypn, yf, yd, ya, yac, nI n, nI (vb + 1), vk vb, vv vb, vh vb, tk, tv, pk, pv, gk, gv, gh, cn, cd, cD, cP, lk, lv, lh, yH, yPk, yPv, yPh, yM, yA, wt, wa, ws, wb, wx, upd vk vb 0, upd vv vb (vv vb + vv (vb + 1)), upd vh vb 0)) : wpY_step K (nI N, yr, ym, yo, yrk, yrv, ypn, yf, yd, ya, yac, nI (n + 1), nI (vb + 1 + 1), y1, y2, y3, tk, tv, pk, pv, gk, gv, gh, cn, cd, cD, cP, lk, lv, lh, yH, yPk, yPv, yPh, yM, yA, wt, wa, ws, wb, wx, vk, vv, vh) := by
  have e1 : (nI n).toNatClampNeg = n := nI_clamp (by omega)
  have e2 : (nI t).toNatClampNeg = t := nI_clamp (by omega)
  have e3 : (nI ac).toNatClampNeg = ac := nI_clamp (by omega)
  have i1 : vp_in (nI n) 256 := vp_in_nI (by omega) (by omega)
  have i2 : vp_in (nI t) 128 := vp_in_nI (by omega) (by omega)
  have i3 : vp_in (nI ac) 256 := vp_in_nI hac (by omega)
  unfold wpY_step
  refine nm_r (nI_pred n) ⟨i1, nm_r (show _ = nI t by rw [e1, h1]) ⟨i1, nm_r (show _ = nI ac by rw [e1, h2]) ⟨i1, nm_r (show _ = 2 by rw [e1, h3]) (br_f (nI_pos (by omega)) (br_t (nI_lt ht (by omega)) ⟨i2, nm_r (show _ = nI 6 by rw [e2, hk]) ⟨i2, nm_r (congrArg tv e2) ⟨i3, nm_r (congrArg yH e3) ?_⟩⟩⟩))⟩⟩⟩
  have Z : (vk vb = 1 → K 4 (nI N, yr, ym, yo, yrk, yrv, ypn, yf, yd, ya, yac, nI (n + 1), nI vb, vk vb, vv vb, vh vb, tk, tv, pk, pv, gk, gv, gh, cn, cd, cD, cP, lk, lv, lh, yH, yPk, yPv, yPh, yM, yA, wt, wa, ws, wb, wx, vk, vv, vh)) ∧ (¬ vk vb = 1 → ((vk (vb + 1) = 1 → K 4 (nI N, yr, ym, yo, yrk, yrv, ypn, yf, yd, ya, yac, nI (n + 1), nI vb, vk vb, vv vb, vh vb, tk, tv, pk, pv, gk, gv, gh, cn, cd, cD, cP, lk, lv, lh, yH, yPk, yPv, yPh, yM, yA, wt, wa, ws, wb, wx, vk, vv, vh)) ∧ (¬ vk (vb + 1) = 1 → ((nI 6 = 6 → ∀ z, z = vv vb + vv (vb + 1) → wY_step_975 K (nI 6) (vv (vb + 1)) (vv vb) z (nI N) yr ym yo yrk yrv ypn yf yd ya yac (nI (n + 1)) (nI vb) (vk vb) (vv vb) (vh vb) tk tv pk pv gk gv gh cn cd cD cP lk lv lh yH yPk yPv yPh yM yA wt wa ws wb wx vk vv vh) ∧ (¬ nI 6 = 6 → wY_step_975 K (nI 6) (vv (vb + 1)) (vv vb) 0 (nI N) yr ym yo yrk yrv ypn yf yd ya yac (nI (n + 1)) (nI vb) (vk vb) (vv vb) (vh vb) tk tv pk pv gk gv gh cn cd cD cP lk lv lh yH yPk yPv yPh yM yA wt wa ws wb wx vk vv vh))))) := by
    refine ⟨fun z => hb (Or.inl z), fun z => ⟨fun y => hb (Or.inr y), fun y => ?_⟩⟩
    have C := h z y
    exact br_t (by decide) (nm_e (br_f (by decide) (br_f (by decide) (br_f (by decide) (wy_pushV (by omega) (nm_r (nI_pred n) C))))))
  exact br_f (by decide) (br_f (by decide) (br_f (by decide) (br_f (by decide) (br_f (by decide) (br_f (by decide) (wy_arity (k := 6) (by decide) (by rw [show hc_ar (nI 6) = 2 by decide]; exact br_f (by decide) (br_f (by decide) (br_f (by decide) (br_f (by decide) (wy_popV hv (wy_popV (by omega) (br_f (by decide) (br_f (by decide) Z))))))))))))))
theorem wy_calc7 (hn : n < 255) (ht : t < N) (hN : N ≤ 128) (hac : ac < 256) (h1 : wt n = nI t) (h2 : wa n = nI ac) (h3 : ws n = 2) (hk : tk t = nI 7) (hv : vb + 1 < 512) (hb : vk vb = 1 ∨ vk (vb + 1) = 1 → K 4 (nI N, yr, ym, yo, yrk, yrv, ypn, yf, yd, ya, yac, nI (n + 1), nI vb, vk vb, vv vb, vh vb, tk, tv, pk, pv, gk, gv, gh, cn, cd, cD, cP, lk, lv, lh, yH, yPk, yPv, yPh, yM, yA, wt, wa, ws, wb, wx, vk, vv, vh)) (h : vk vb ≠ 1 → vk (vb + 1) ≠ 1 → K 0 (nI N, yr, ym, yo, yrk, yrv, ypn, yf, yd, ya, yac, nI n, nI (vb + 1), vk vb, vv vb, vh vb, tk, tv, pk, pv, gk, gv, gh, cn, cd, cD, cP, lk, lv, lh, yH, yPk, yPv, yPh, yM, yA, wt, wa, ws, wb, wx, upd vk vb 0, upd vv vb (vv vb - vv (vb + 1)), upd vh vb 0)) : wpY_step K (nI N, yr, ym, yo, yrk, yrv, ypn, yf, yd, ya, yac, nI (n + 1), nI (vb + 1 + 1), y1, y2, y3, tk, tv, pk, pv, gk, gv, gh, cn, cd, cD, cP, lk, lv, lh, yH, yPk, yPv, yPh, yM, yA, wt, wa, ws, wb, wx, vk, vv, vh) := by
  have e1 : (nI n).toNatClampNeg = n := nI_clamp (by omega)
  have e2 : (nI t).toNatClampNeg = t := nI_clamp (by omega)
  have e3 : (nI ac).toNatClampNeg = ac := nI_clamp (by omega)
  have i1 : vp_in (nI n) 256 := vp_in_nI (by omega) (by omega)
  have i2 : vp_in (nI t) 128 := vp_in_nI (by omega) (by omega)
  have i3 : vp_in (nI ac) 256 := vp_in_nI hac (by omega)
  unfold wpY_step
  refine nm_r (nI_pred n) ⟨i1, nm_r (show _ = nI t by rw [e1, h1]) ⟨i1, nm_r (show _ = nI ac by rw [e1, h2]) ⟨i1, nm_r (show _ = 2 by rw [e1, h3]) (br_f (nI_pos (by omega)) (br_t (nI_lt ht (by omega)) ⟨i2, nm_r (show _ = nI 7 by rw [e2, hk]) ⟨i2, nm_r (congrArg tv e2) ⟨i3, nm_r (congrArg yH e3) ?_⟩⟩⟩))⟩⟩⟩
  have Z : (vk vb = 1 → K 4 (nI N, yr, ym, yo, yrk, yrv, ypn, yf, yd, ya, yac, nI (n + 1), nI vb, vk vb, vv vb, vh vb, tk, tv, pk, pv, gk, gv, gh, cn, cd, cD, cP, lk, lv, lh, yH, yPk, yPv, yPh, yM, yA, wt, wa, ws, wb, wx, vk, vv, vh)) ∧ (¬ vk vb = 1 → ((vk (vb + 1) = 1 → K 4 (nI N, yr, ym, yo, yrk, yrv, ypn, yf, yd, ya, yac, nI (n + 1), nI vb, vk vb, vv vb, vh vb, tk, tv, pk, pv, gk, gv, gh, cn, cd, cD, cP, lk, lv, lh, yH, yPk, yPv, yPh, yM, yA, wt, wa, ws, wb, wx, vk, vv, vh)) ∧ (¬ vk (vb + 1) = 1 → ((nI 7 = 6 → ∀ z, z = vv vb + vv (vb + 1) → wY_step_975 K (nI 7) (vv (vb + 1)) (vv vb) z (nI N) yr ym yo yrk yrv ypn yf yd ya yac (nI (n + 1)) (nI vb) (vk vb) (vv vb) (vh vb) tk tv pk pv gk gv gh cn cd cD cP lk lv lh yH yPk yPv yPh yM yA wt wa ws wb wx vk vv vh) ∧ (¬ nI 7 = 6 → wY_step_975 K (nI 7) (vv (vb + 1)) (vv vb) 0 (nI N) yr ym yo yrk yrv ypn yf yd ya yac (nI (n + 1)) (nI vb) (vk vb) (vv vb) (vh vb) tk tv pk pv gk gv gh cn cd cD cP lk lv lh yH yPk yPv yPh yM yA wt wa ws wb wx vk vv vh))))) := by
    refine ⟨fun z => hb (Or.inl z), fun z => ⟨fun y => hb (Or.inr y), fun y => ?_⟩⟩
    have C := h z y
    exact br_f (by decide) (br_t (by decide) (nm_e (br_f (by decide) (br_f (by decide) (wy_pushV (by omega) (nm_r (nI_pred n) C))))))
  exact br_f (by decide) (br_f (by decide) (br_f (by decide) (br_f (by decide) (br_f (by decide) (br_f (by decide) (wy_arity (k := 7) (by decide) (by rw [show hc_ar (nI 7) = 2 by decide]; exact br_f (by decide) (br_f (by decide) (br_f (by decide) (br_f (by decide) (wy_popV hv (wy_popV (by omega) (br_f (by decide) (br_f (by decide) Z))))))))))))))
theorem wy_calc8 (hn : n < 255) (ht : t < N) (hN : N ≤ 128) (hac : ac < 256) (h1 : wt n = nI t) (h2 : wa n = nI ac) (h3 : ws n = 2) (hk : tk t = nI 8) (hv : vb + 1 < 512) (hb : vk vb = 1 ∨ vk (vb + 1) = 1 → K 4 (nI N, yr, ym, yo, yrk, yrv, ypn, yf, yd, ya, yac, nI (n + 1), nI vb, vk vb, vv vb, vh vb, tk, tv, pk, pv, gk, gv, gh, cn, cd, cD, cP, lk, lv, lh, yH, yPk, yPv, yPh, yM, yA, wt, wa, ws, wb, wx, vk, vv, vh)) (h : vk vb ≠ 1 → vk (vb + 1) ≠ 1 → K 0 (nI N, yr, ym, yo, yrk, yrv, ypn, yf, yd, ya, yac, nI n, nI (vb + 1), vk vb, vv vb, vh vb, tk, tv, pk, pv, gk, gv, gh, cn, cd, cD, cP, lk, lv, lh, yH, yPk, yPv, yPh, yM, yA, wt, wa, ws, wb, wx, upd vk vb 0, upd vv vb (vv vb * vv (vb + 1)), upd vh vb 0)) : wpY_step K (nI N, yr, ym, yo, yrk, yrv, ypn, yf, yd, ya, yac, nI (n + 1), nI (vb + 1 + 1), y1, y2, y3, tk, tv, pk, pv, gk, gv, gh, cn, cd, cD, cP, lk, lv, lh, yH, yPk, yPv, yPh, yM, yA, wt, wa, ws, wb, wx, vk, vv, vh) := by
  have e1 : (nI n).toNatClampNeg = n := nI_clamp (by omega)
  have e2 : (nI t).toNatClampNeg = t := nI_clamp (by omega)
  have e3 : (nI ac).toNatClampNeg = ac := nI_clamp (by omega)
  have i1 : vp_in (nI n) 256 := vp_in_nI (by omega) (by omega)
  have i2 : vp_in (nI t) 128 := vp_in_nI (by omega) (by omega)
  have i3 : vp_in (nI ac) 256 := vp_in_nI hac (by omega)
  unfold wpY_step
  refine nm_r (nI_pred n) ⟨i1, nm_r (show _ = nI t by rw [e1, h1]) ⟨i1, nm_r (show _ = nI ac by rw [e1, h2]) ⟨i1, nm_r (show _ = 2 by rw [e1, h3]) (br_f (nI_pos (by omega)) (br_t (nI_lt ht (by omega)) ⟨i2, nm_r (show _ = nI 8 by rw [e2, hk]) ⟨i2, nm_r (congrArg tv e2) ⟨i3, nm_r (congrArg yH e3) ?_⟩⟩⟩))⟩⟩⟩
  have Z : (vk vb = 1 → K 4 (nI N, yr, ym, yo, yrk, yrv, ypn, yf, yd, ya, yac, nI (n + 1), nI vb, vk vb, vv vb, vh vb, tk, tv, pk, pv, gk, gv, gh, cn, cd, cD, cP, lk, lv, lh, yH, yPk, yPv, yPh, yM, yA, wt, wa, ws, wb, wx, vk, vv, vh)) ∧ (¬ vk vb = 1 → ((vk (vb + 1) = 1 → K 4 (nI N, yr, ym, yo, yrk, yrv, ypn, yf, yd, ya, yac, nI (n + 1), nI vb, vk vb, vv vb, vh vb, tk, tv, pk, pv, gk, gv, gh, cn, cd, cD, cP, lk, lv, lh, yH, yPk, yPv, yPh, yM, yA, wt, wa, ws, wb, wx, vk, vv, vh)) ∧ (¬ vk (vb + 1) = 1 → ((nI 8 = 6 → ∀ z, z = vv vb + vv (vb + 1) → wY_step_975 K (nI 8) (vv (vb + 1)) (vv vb) z (nI N) yr ym yo yrk yrv ypn yf yd ya yac (nI (n + 1)) (nI vb) (vk vb) (vv vb) (vh vb) tk tv pk pv gk gv gh cn cd cD cP lk lv lh yH yPk yPv yPh yM yA wt wa ws wb wx vk vv vh) ∧ (¬ nI 8 = 6 → wY_step_975 K (nI 8) (vv (vb + 1)) (vv vb) 0 (nI N) yr ym yo yrk yrv ypn yf yd ya yac (nI (n + 1)) (nI vb) (vk vb) (vv vb) (vh vb) tk tv pk pv gk gv gh cn cd cD cP lk lv lh yH yPk yPv yPh yM yA wt wa ws wb wx vk vv vh))))) := by
    refine ⟨fun z => hb (Or.inl z), fun z => ⟨fun y => hb (Or.inr y), fun y => ?_⟩⟩
    have C := h z y
    exact br_f (by decide) (br_f (by decide) (br_t (by decide) (nm_e (br_f (by decide) (wy_pushV (by omega) (nm_r (nI_pred n) C))))))
  exact br_f (by decide) (br_f (by decide) (br_f (by decide) (br_f (by decide) (br_f (by decide) (br_f (by decide) (wy_arity (k := 8) (by decide) (by rw [show hc_ar (nI 8) = 2 by decide]; exact br_f (by decide) (br_f (by decide) (br_f (by decide) (br_f (by decide) (wy_popV hv (wy_popV (by omega) (br_f (by decide) (br_f (by decide) Z))))))))))))))
theorem wy_calc9 (hn : n < 255) (ht : t < N) (hN : N ≤ 128) (hac : ac < 256) (h1 : wt n = nI t) (h2 : wa n = nI ac) (h3 : ws n = 2) (hk : tk t = nI 9) (hv : vb + 1 < 512) (hb : vk vb = 1 ∨ vk (vb + 1) = 1 → K 4 (nI N, yr, ym, yo, yrk, yrv, ypn, yf, yd, ya, yac, nI (n + 1), nI vb, vk vb, vv vb, vh vb, tk, tv, pk, pv, gk, gv, gh, cn, cd, cD, cP, lk, lv, lh, yH, yPk, yPv, yPh, yM, yA, wt, wa, ws, wb, wx, vk, vv, vh)) (h : vk vb ≠ 1 → vk (vb + 1) ≠ 1 → K 0 (nI N, yr, ym, yo, yrk, yrv, ypn, yf, yd, ya, yac, nI n, nI (vb + 1), vk vb, vv vb, vh vb, tk, tv, pk, pv, gk, gv, gh, cn, cd, cD, cP, lk, lv, lh, yH, yPk, yPv, yPh, yM, yA, wt, wa, ws, wb, wx, upd vk vb 0, upd vv vb (if vv vb < vv (vb + 1) then 1 else 0), upd vh vb 0)) : wpY_step K (nI N, yr, ym, yo, yrk, yrv, ypn, yf, yd, ya, yac, nI (n + 1), nI (vb + 1 + 1), y1, y2, y3, tk, tv, pk, pv, gk, gv, gh, cn, cd, cD, cP, lk, lv, lh, yH, yPk, yPv, yPh, yM, yA, wt, wa, ws, wb, wx, vk, vv, vh) := by
  have e1 : (nI n).toNatClampNeg = n := nI_clamp (by omega)
  have e2 : (nI t).toNatClampNeg = t := nI_clamp (by omega)
  have e3 : (nI ac).toNatClampNeg = ac := nI_clamp (by omega)
  have i1 : vp_in (nI n) 256 := vp_in_nI (by omega) (by omega)
  have i2 : vp_in (nI t) 128 := vp_in_nI (by omega) (by omega)
  have i3 : vp_in (nI ac) 256 := vp_in_nI hac (by omega)
  unfold wpY_step
  refine nm_r (nI_pred n) ⟨i1, nm_r (show _ = nI t by rw [e1, h1]) ⟨i1, nm_r (show _ = nI ac by rw [e1, h2]) ⟨i1, nm_r (show _ = 2 by rw [e1, h3]) (br_f (nI_pos (by omega)) (br_t (nI_lt ht (by omega)) ⟨i2, nm_r (show _ = nI 9 by rw [e2, hk]) ⟨i2, nm_r (congrArg tv e2) ⟨i3, nm_r (congrArg yH e3) ?_⟩⟩⟩))⟩⟩⟩
  have Z : (vk vb = 1 → K 4 (nI N, yr, ym, yo, yrk, yrv, ypn, yf, yd, ya, yac, nI (n + 1), nI vb, vk vb, vv vb, vh vb, tk, tv, pk, pv, gk, gv, gh, cn, cd, cD, cP, lk, lv, lh, yH, yPk, yPv, yPh, yM, yA, wt, wa, ws, wb, wx, vk, vv, vh)) ∧ (¬ vk vb = 1 → ((vk (vb + 1) = 1 → K 4 (nI N, yr, ym, yo, yrk, yrv, ypn, yf, yd, ya, yac, nI (n + 1), nI vb, vk vb, vv vb, vh vb, tk, tv, pk, pv, gk, gv, gh, cn, cd, cD, cP, lk, lv, lh, yH, yPk, yPv, yPh, yM, yA, wt, wa, ws, wb, wx, vk, vv, vh)) ∧ (¬ vk (vb + 1) = 1 → ((nI 9 = 6 → ∀ z, z = vv vb + vv (vb + 1) → wY_step_975 K (nI 9) (vv (vb + 1)) (vv vb) z (nI N) yr ym yo yrk yrv ypn yf yd ya yac (nI (n + 1)) (nI vb) (vk vb) (vv vb) (vh vb) tk tv pk pv gk gv gh cn cd cD cP lk lv lh yH yPk yPv yPh yM yA wt wa ws wb wx vk vv vh) ∧ (¬ nI 9 = 6 → wY_step_975 K (nI 9) (vv (vb + 1)) (vv vb) 0 (nI N) yr ym yo yrk yrv ypn yf yd ya yac (nI (n + 1)) (nI vb) (vk vb) (vv vb) (vh vb) tk tv pk pv gk gv gh cn cd cD cP lk lv lh yH yPk yPv yPh yM yA wt wa ws wb wx vk vv vh))))) := by
    refine ⟨fun z => hb (Or.inl z), fun z => ⟨fun y => hb (Or.inr y), fun y => ?_⟩⟩
    have C := h z y
    refine br_f (by decide) (br_f (by decide) (br_f (by decide) (br_t (by decide) ?_)))
    by_cases w : vv vb < vv (vb + 1)
    · rw [if_pos w] at C
      refine br_f (fun x => absurd w (Int32.not_lt.mpr x)) ?_
      unfold wY_step_1022 wY_step_1024
      exact wy_pushV (by omega) (nm_r (nI_pred n) C)
    · rw [if_neg w] at C
      refine br_t (Int32.not_lt.mp w) ?_
      unfold wY_step_1022 wY_step_1024
      exact wy_pushV (by omega) (nm_r (nI_pred n) C)
  exact br_f (by decide) (br_f (by decide) (br_f (by decide) (br_f (by decide) (br_f (by decide) (br_f (by decide) (wy_arity (k := 9) (by decide) (by rw [show hc_ar (nI 9) = 2 by decide]; exact br_f (by decide) (br_f (by decide) (br_f (by decide) (br_f (by decide) (wy_popV hv (wy_popV (by omega) (br_f (by decide) (br_f (by decide) Z))))))))))))))
theorem wy_value2 (hn : n < 255) (ht : t < N) (hN : N ≤ 128) (hac : ac < 256) (h1 : wt n = nI t) (h2 : wa n = nI ac) (h3 : ws n = 2) (hk : tk t = nI 14) {fl na an tb hb : Nat} (hv : vb + 1 < 512) (hfl : fl < 256) (hna : na ≤ 16) (han : fl ≠ 0 → an < 256) (hbl : vk vb = 1 → vv vb = nI tb ∧ vh vb = nI hb ∧ hb < an) (hty : vk vb ≠ 1 → K 4 (nI N, yr, ym, yo, yrk, yrv, ypn, nI fl, yd, nI an, nI na, nI (n + 1), nI vb, vk vb, vv vb, vh vb, tk, tv, pk, pv, gk, gv, gh, cn, cd, cD, cP, lk, lv, lh, yH, yPk, yPv, yPh, yM, yA, wt, wa, ws, wb, wx, vk, vv, vh)) (h0 : vk vb = 1 → fl = 0 → K 3 (nI N, yr, ym, yo, yrk, yrv, ypn, nI 0, yd, nI an, nI na, nI (n + 1), nI vb, vk vb, vv vb, vh vb, tk, tv, pk, pv, gk, gv, gh, cn, cd, cD, cP, lk, lv, lh, yH, yPk, yPv, yPh, yM, yA, wt, wa, ws, wb, wx, vk, vv, vh)) (h1' : vk vb = 1 → ∀ f1, fl = f1 + 1 → na = 16 → K 5 (nI N, yr, ym, yo, yrk, yrv, ypn, nI f1, yd, nI an, nI na, nI (n + 1), nI vb, vk vb, vv vb, vh vb, tk, tv, pk, pv, gk, gv, gh, cn, cd, cD, cP, lk, lv, lh, yH, yPk, yPv, yPh, yM, yA, wt, wa, ws, wb, wx, vk, vv, vh))
    (h2' : vk vb = 1 → ∀ f1, fl = f1 + 1 → na < 16 → K 0 (nI N, yr, ym, yo, yrk, yrv, ypn, nI f1, wk_mx yd (nI (na + 1)), nI (an + 1), nI (na + 1), nI (n + 1 + 1), nI vb, vk vb, vv vb, vh vb, tk, tv, pk, pv, gk, gv, gh, cn, cd, cD, cP, wk_z4 lk (an * 4), wk_z4 lv (an * 4), wk_z4 lh (an * 4), upd yH an (nI hb), upd yPk an (vk (vb + 1)), upd yPv an (vv (vb + 1)), upd yPh an (vh (vb + 1)), upd yM an 0, upd yA an 1, upd wt (n + 1) (nI (tb + 1)), upd wa (n + 1) (nI an), upd (upd ws n 3) (n + 1) 0, upd wb (n + 1) (nI vb), upd (upd wx n (nI an)) (n + 1) 0, vk, vv, vh)) : wpY_step K (nI N, yr, ym, yo, yrk, yrv, ypn, nI fl, yd, nI an, nI na, nI (n + 1), nI (vb + 1 + 1), y1, y2, y3, tk, tv, pk, pv, gk, gv, gh, cn, cd, cD, cP, lk, lv, lh, yH, yPk, yPv, yPh, yM, yA, wt, wa, ws, wb, wx, vk, vv, vh) := by
  have e1 : (nI n).toNatClampNeg = n := nI_clamp (by omega)
  have e2 : (nI t).toNatClampNeg = t := nI_clamp (by omega)
  have e3 : (nI ac).toNatClampNeg = ac := nI_clamp (by omega)
  have i1 : vp_in (nI n) 256 := vp_in_nI (by omega) (by omega)
  have i2 : vp_in (nI t) 128 := vp_in_nI (by omega) (by omega)
  have i3 : vp_in (nI ac) 256 := vp_in_nI hac (by omega)
  unfold wpY_step
  refine nm_r (nI_pred n) ⟨i1, nm_r (show _ = nI t by rw [e1, h1]) ⟨i1, nm_r (show _ = nI ac by rw [e1, h2]) ⟨i1, nm_r (show _ = 2 by rw [e1, h3]) (br_f (nI_pos (by omega)) (br_t (nI_lt ht (by omega)) ⟨i2, nm_r (show _ = nI 14 by rw [e2, hk]) ⟨i2, nm_r (congrArg tv e2) ⟨i3, nm_r (congrArg yH e3) ?_⟩⟩⟩))⟩⟩⟩
  have Z : ∀ x9 : Int32, x9 = vv vb → ((vk vb = 1 → ((nI fl = 0 → K 3 (nI N, yr, ym, yo, yrk, yrv, ypn, nI fl, yd, nI an, nI na, nI (n + 1), nI vb, vk vb, vv vb, vh vb, tk, tv, pk, pv, gk, gv, gh, cn, cd, cD, cP, lk, lv, lh, yH, yPk, yPv, yPh, yM, yA, wt, wa, ws, wb, wx, vk, vv, vh)) ∧ (¬ nI fl = 0 → ∀ f1, f1 = nI fl - 1 → ((nI na < 16 → ((nI an < 256 → wpY_newAct (fun r' u => match u with | (yn, yr, ym, yo, yrk, yrv, ypn, yf, yd, ya, yac, yw, yv, y1, y2, y3, tk, tv, pk, pv, gk, gv, gh, cn, cd, cD, cP, lk, lv, lh, yH, yPk, yPv, yPh, yM, yA, wt, wa, ws, wb, wx, vk, vv, vh) => vp_in (nI n) 256 ∧ ∀ w1, w1 = upd ws (nI n).toNatClampNeg 3 → (vp_in (nI n) 256 ∧ ∀ w2, w2 = upd wx (nI n).toNatClampNeg r' → wpY_pushW (K 0) (yn, yr, ym, yo, yrk, yrv, ypn, yf, yd, ya, yac, yw, yv, y1, y2, y3, tk, tv, pk, pv, gk, gv, gh, cn, cd, cD, cP, lk, lv, lh, yH, yPk, yPv, yPh, yM, yA, wt, wa, w1, wb, w2, vk, vv, vh) (x9 + 1) r')) (nI N, yr, ym, yo, yrk, yrv, ypn, f1, yd, nI an, nI na, nI (n + 1), nI vb, vk vb, vv vb, vh vb, tk, tv, pk, pv, gk, gv, gh, cn, cd, cD, cP, lk, lv, lh, yH, yPk, yPv, yPh, yM, yA, wt, wa, ws, wb, wx, vk, vv, vh) 0 (vh vb) (vk (vb + 1)) (vv (vb + 1)) (vh (vb + 1))) ∧ (¬ nI an < 256 → K 3 (nI N, yr, ym, yo, yrk, yrv, ypn, f1, yd, nI an, nI na, nI (n + 1), nI vb, vk vb, vv vb, vh vb, tk, tv, pk, pv, gk, gv, gh, cn, cd, cD, cP, lk, lv, lh, yH, yPk, yPv, yPh, yM, yA, wt, wa, ws, wb, wx, vk, vv, vh)))) ∧ (¬ nI na < 16 → K 5 (nI N, yr, ym, yo, yrk, yrv, ypn, f1, yd, nI an, nI na, nI (n + 1), nI vb, vk vb, vv vb, vh vb, tk, tv, pk, pv, gk, gv, gh, cn, cd, cD, cP, lk, lv, lh, yH, yPk, yPv, yPh, yM, yA, wt, wa, ws, wb, wx, vk, vv, vh)))))) ∧ (¬ vk vb = 1 → K 4 (nI N, yr, ym, yo, yrk, yrv, ypn, nI fl, yd, nI an, nI na, nI (n + 1), nI vb, vk vb, vv vb, vh vb, tk, tv, pk, pv, gk, gv, gh, cn, cd, cD, cP, lk, lv, lh, yH, yPk, yPv, yPh, yM, yA, wt, wa, ws, wb, wx, vk, vv, vh))) := by
    intro x9 hx9
    refine ⟨fun z => ?_, hty⟩
    obtain ⟨b1, b2, b3⟩ := hbl z
    cases fl with
    | zero => exact br_t rfl (h0 z rfl)
    | succ f1 =>
      refine br_f (nI_ne0 (by omega) (by omega)) (nm_r (nI_pred f1) ?_)
      by_cases y : na = 16
      · exact br_f (nI_nlt (b := 16) (by omega) (by omega)) (h1' z f1 rfl y)
      · refine br_t (nI_lt (b := 16) (by omega) (by decide)) (br_t (nI_lt (b := 256) (han (by omega)) (by decide)) ?_)
        refine wy_newB (han (by omega)) b3 b2 ⟨i1, nm_r (show _ = upd ws n 3 by rw [e1]) ⟨i1, nm_r (show _ = upd wx n (nI an) by rw [e1]) ?_⟩⟩
        rw [show x9 = nI tb from hx9.trans b1, nI_1 tb]
        exact wy_pushW (by omega) (h2' z f1 rfl (by omega))
  exact br_f (by decide) (br_f (by decide) (br_f (by decide) (br_f (by decide) (br_f (by decide) (br_f (by decide) (wy_arity (k := 14) (by decide) (by rw [show hc_ar (nI 14) = 2 by decide]; exact br_f (by decide) (br_f (by decide) (br_f (by decide) (br_f (by decide) (wy_popV hv (wy_popV (by omega) (br_f (by decide) (br_t (by decide) (Z _ rfl)))))))))))))))
end
